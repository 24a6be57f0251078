/-! the methods of the family C (written by mkC.py) -/
def lC_J7_fill_53178_5 (P : hg_M → Prop)  : Nat → Int32 → Int32 → Int32 → hg_M → Prop
  | 0, _, _, _, _ => False
  | n + 1, x1, x2, x3, σ => ((x3 ≤ x2 → P σ) ∧ (¬ (x3 ≤ x2) → vp_in x2 736 ∧ (∀ σ1 : hg_M, σ1 = hg_set σ 54 (x2).toNatClampNeg x1 → ∀ v2 : Int32, v2 = x2 + (1 : Int32) → lC_J7_fill_53178_5 P n x1 v2 x3 σ1)))
def wC_J7_fill_53178 (x1 : Int32) (σ : hg_M) (P : hg_M → Prop) : Prop := (∃ f9, lC_J7_fill_53178_5 P f9 x1 (0 : Int32) (736 : Int32) σ)
set_option maxRecDepth 4000 in
theorem tlC_J7_fill_53178_5 {d : Nat} {E : hg_Et} {X : hg_X} {P : hg_M → Prop}  (hC : hg_C hg_FC 4 (d + 1) E cJ7_fill_53178 RJ7 X) (hR : hg_Rnv hg_FC hg_rC P X)  (n : Nat) : ∀ (x1 : Int32) (x2 : Int32) (x3 : Int32) (σ : hg_M), lC_J7_fill_53178_5 P n x1 x2 x3 σ → hg_G hg_FC 4 X 5 [(0, .ref (hg_ad X 54)), (1, .int x1), (2, .int x2), (3, .int x3)] [] σ hg_rC := by
  induction n with
  | zero =>
    intro x1 x2 x3 σ hw
    rw [lC_J7_fill_53178_5] at hw
    exact hw.elim
  | succ n ih =>
    intro x1 x2 x3 σ hw
    rw [lC_J7_fill_53178_5] at hw
    refine hg_iload_n hC dJ7_fill_53178_5 rfl 2 rfl (n := 6) rfl ?_
    refine hg_iload_n hC dJ7_fill_53178_6 rfl 3 rfl (n := 7) rfl ?_
    refine hg_icmp_ge hC dJ7_fill_53178_7 (tg := 20) rfl (n := 10) rfl (fun h9 => ?_) (fun h9 => ?_)
    · have hw := hw.1 h9
      exact hg_retv hC hR dJ7_fill_53178_20 hw
    · have hw := hw.2 h9
      refine hg_aload_n hC dJ7_fill_53178_10 rfl 0 rfl (n := 11) rfl ?_
      refine hg_iload_n hC dJ7_fill_53178_11 rfl 2 rfl (n := 12) rfl ?_
      refine hg_iload_n hC dJ7_fill_53178_12 rfl 1 rfl (n := 13) rfl ?_
      obtain ⟨h9, hw⟩ := hw
      refine hg_iast hC dJ7_fill_53178_13 qC_54 kC_54 h9 (n := 14) rfl (fun σ1 eσ1 => ?_)
      have hw := hw σ1 eσ1
      obtain ⟨v2, ev2⟩ : ∃ z, z = x2 + (1 : Int32) := ⟨_, rfl⟩
      have hw := hw v2 ev2
      refine hg_iinc hC (v := v2) (L1 := [(2, .int v2), (0, .ref (hg_ad X 54)), (1, .int x1), (3, .int x3)]) dJ7_fill_53178_14 2 rfl (by rw [hl_i1, ev2]) (by decide) rfl (n := 17) rfl ?_
      refine hg_goto hC dJ7_fill_53178_17 (tg := 5) rfl ?_
      exact hg_sub [1, 2, 0, 3] rfl (ih x1 v2 x3 σ1 hw)
set_option maxRecDepth 4000 in
theorem tC_J7_fill_53178 {E : hg_Et} (hE : hg_Eok E) (l : Launch) (d : Nat) (x1 : Int32) (σ : hg_M) (P : hg_M → Prop) (hw : wC_J7_fill_53178 x1 σ P) : hg_Nv hg_FC E l yJ7_fill_53178 cJ7_fill_53178 4 (d + 1) (fun ad => [.ref (ad 54), .int x1]) hg_rC σ P := by
  refine hg_nv hE (by decide) (fun _ => Nat.le_of_ble_eq_true rfl) (fun X hC hR hl => ?_)
  subst hl
  have hC : hg_C hg_FC 4 (d + 1) E cJ7_fill_53178 RJ7 X := hC
  show hg_G hg_FC 4 X 0 [(0, .ref (hg_ad X 54)), (1, .int x1)] [] σ hg_rC
  unfold wC_J7_fill_53178 at hw
  refine hg_iconst hC dJ7_fill_53178_0 hl_i0 (n := 1) rfl ?_
  refine hg_istore_n hC (L1 := [(2, .int (0 : Int32)), (0, .ref (hg_ad X 54)), (1, .int x1)]) dJ7_fill_53178_1 rfl (by decide) rfl (n := 2) rfl ?_
  refine hg_aload_n hC dJ7_fill_53178_2 rfl 1 rfl (n := 3) rfl ?_
  refine hg_alen hC dJ7_fill_53178_3 qC_54 kC_54 (by decide) hl_n736 (n := 4) rfl ?_
  refine hg_istore_n hC (L1 := [(3, .int (736 : Int32)), (2, .int (0 : Int32)), (0, .ref (hg_ad X 54)), (1, .int x1)]) dJ7_fill_53178_4 rfl (by decide) rfl (n := 5) rfl ?_
  obtain ⟨n9, hw⟩ := hw
  exact hg_sub [2, 3, 1, 0] rfl (tlC_J7_fill_53178_5 hC hR  n9 x1 (0 : Int32) (736 : Int32) σ hw)
def wC_X0_clear  (σ : hg_M) (P : hg_M → Prop) : Prop := ∀ σ1 : hg_M, σ1 = hg_set σ 42 1 (0 : Int32) → ∀ σ2 : hg_M, σ2 = hg_set σ1 42 2 (16 : Int32) → P σ2
set_option maxRecDepth 4000 in
theorem tC_X0_clear {E : hg_Et} (hE : hg_Eok E) (l : Launch) (d : Nat)  (σ : hg_M) (P : hg_M → Prop) (hw : wC_X0_clear  σ P) : hg_Nv hg_FC E l yX0_clear cX0_clear 1 (d + 1) (fun ad => [.ref (ad 42)]) hg_rC σ P := by
  refine hg_nv hE (by decide) (fun _ => Nat.le_of_ble_eq_true rfl) (fun X hC hR hl => ?_)
  subst hl
  have hC : hg_C hg_FC 1 (d + 1) E cX0_clear RX0 X := hC
  show hg_G hg_FC 1 X 0 [(0, .ref (hg_ad X 42))] [] σ hg_rC
  unfold wC_X0_clear at hw
  refine hg_aload_n hC dX0_clear_0 rfl 0 rfl (n := 1) rfl ?_
  refine hg_iconst hC dX0_clear_1 hl_i0 (n := 2) rfl ?_
  refine hg_puti hC fp_RX0_16 dX0_clear_2 qC_42 kC_42 fC_0_1 rfl rfl (n := 5) rfl (fun σ1 eσ1 => ?_)
  have hw := hw σ1 eσ1
  refine hg_aload_n hC dX0_clear_5 rfl 0 rfl (n := 6) rfl ?_
  refine hg_bipush hC dX0_clear_6 hl_b16 (n := 8) rfl ?_
  refine hg_puti hC fp_RX0_20 dX0_clear_8 qC_42 kC_42 fC_0_2 rfl rfl (n := 11) rfl (fun σ2 eσ2 => ?_)
  have hw := hw σ2 eσ2
  exact hg_retv hC hR dX0_clear_11 hw
def bC_X0_add_36 (P : Int32 → hg_M → Prop)  (x1 : Int32) (x3 : Int32) (x4 : Int32) (x5 : Int32) (x6 : Int32) (σ : hg_M) : Prop := vp_in (σ 42 1) 720 ∧ (∀ σ3 : hg_M, σ3 = hg_set σ 44 ((σ 42 1)).toNatClampNeg x1 → vp_in (σ3 42 1) 720 ∧ (∀ σ4 : hg_M, σ4 = hg_set σ3 45 ((σ3 42 1)).toNatClampNeg x6 → vp_in (σ4 42 1) 720 ∧ (∀ σ5 : hg_M, σ5 = hg_set σ4 46 ((σ4 42 1)).toNatClampNeg x3 → vp_in (σ5 42 1) 720 ∧ (∀ σ6 : hg_M, σ6 = hg_set σ5 47 ((σ5 42 1)).toNatClampNeg x4 → vp_in (σ6 42 1) 720 ∧ (∀ σ7 : hg_M, σ7 = hg_set σ6 48 ((σ6 42 1)).toNatClampNeg x5 → vp_in (σ7 42 1) 720 ∧ (∀ σ8 : hg_M, σ8 = hg_set σ7 49 ((σ7 42 1)).toNatClampNeg (σ7 42 3) → ∀ σ9 : hg_M, σ9 = hg_set σ8 42 1 ((σ8 42 1) + (1 : Int32)) → P x6 σ9))))))
def wC_X0_add (x1 : Int32) (x2 : Int32) (x3 : Int32) (x4 : Int32) (x5 : Int32) (σ : hg_M) (P : Int32 → hg_M → Prop) : Prop := (((σ 42 1) < (720 : Int32) → ((x2 ≠ (-1 : Int32) → bC_X0_add_36 P x1 x3 x4 x5 x2 σ) ∧ (x2 = (-1 : Int32) → ∀ v1 : Int32, v1 = (σ 42 2) → ∀ σ2 : hg_M, σ2 = hg_set σ 42 2 ((σ 42 2) + (1 : Int32)) → bC_X0_add_36 P x1 x3 x4 x5 v1 σ2))) ∧ (¬ ((σ 42 1) < (720 : Int32)) → P (0 : Int32) σ))
set_option maxRecDepth 4000 in
theorem tbC_X0_add_36 {d : Nat} {E : hg_Et} {X : hg_X} {P : Int32 → hg_M → Prop}  (hC : hg_C hg_FC 7 (d + 1) E cX0_add RX0 X) (hR : hg_Rni hg_FC (some .int) hg_rC P X)  (x1 : Int32) (x3 : Int32) (x4 : Int32) (x5 : Int32) (x6 : Int32) (σ : hg_M) (hw : bC_X0_add_36 P x1 x3 x4 x5 x6 σ) : hg_G hg_FC 7 X 36 [(0, .ref (hg_ad X 42)), (1, .int x1), (3, .int x3), (4, .int x4), (5, .int x5), (6, .int x6)] [] σ hg_rC := by
  unfold bC_X0_add_36 at hw
  refine hg_aload_n hC dX0_add_36 rfl 0 rfl (n := 37) rfl ?_
  refine hg_getr hC fl_RX0_13 dX0_add_37 qC_42 kC_42 fC_0_0 rC_42_0 (n := 40) rfl ?_
  refine hg_iconst hC dX0_add_40 hl_i0 (n := 41) rfl ?_
  refine hg_aald hC (r := 44) dX0_add_41 qC_43 kC_43 vi_0_6 riC_43_0 (n := 42) rfl ?_
  refine hg_aload_n hC dX0_add_42 rfl 0 rfl (n := 43) rfl ?_
  refine hg_geti hC fl_RX0_16 dX0_add_43 qC_42 kC_42 fC_0_1 (n := 46) rfl ?_
  refine hg_iload_n hC dX0_add_46 rfl 1 rfl (n := 47) rfl ?_
  obtain ⟨h9, hw⟩ := hw
  refine hg_iast hC dX0_add_47 qC_44 kC_44 h9 (n := 48) rfl (fun σ3 eσ3 => ?_)
  have hw := hw σ3 eσ3
  refine hg_aload_n hC dX0_add_48 rfl 0 rfl (n := 49) rfl ?_
  refine hg_getr hC fl_RX0_13 dX0_add_49 qC_42 kC_42 fC_0_0 rC_42_0 (n := 52) rfl ?_
  refine hg_iconst hC dX0_add_52 hl_i1 (n := 53) rfl ?_
  refine hg_aald hC (r := 45) dX0_add_53 qC_43 kC_43 vi_1_6 riC_43_1 (n := 54) rfl ?_
  refine hg_aload_n hC dX0_add_54 rfl 0 rfl (n := 55) rfl ?_
  refine hg_geti hC fl_RX0_16 dX0_add_55 qC_42 kC_42 fC_0_1 (n := 58) rfl ?_
  refine hg_iload hC dX0_add_58 5 rfl (n := 60) rfl ?_
  obtain ⟨h9, hw⟩ := hw
  refine hg_iast hC dX0_add_60 qC_45 kC_45 h9 (n := 61) rfl (fun σ4 eσ4 => ?_)
  have hw := hw σ4 eσ4
  refine hg_aload_n hC dX0_add_61 rfl 0 rfl (n := 62) rfl ?_
  refine hg_getr hC fl_RX0_13 dX0_add_62 qC_42 kC_42 fC_0_0 rC_42_0 (n := 65) rfl ?_
  refine hg_iconst hC dX0_add_65 hl_i2 (n := 66) rfl ?_
  refine hg_aald hC (r := 46) dX0_add_66 qC_43 kC_43 vi_2_6 riC_43_2 (n := 67) rfl ?_
  refine hg_aload_n hC dX0_add_67 rfl 0 rfl (n := 68) rfl ?_
  refine hg_geti hC fl_RX0_16 dX0_add_68 qC_42 kC_42 fC_0_1 (n := 71) rfl ?_
  refine hg_iload_n hC dX0_add_71 rfl 2 rfl (n := 72) rfl ?_
  obtain ⟨h9, hw⟩ := hw
  refine hg_iast hC dX0_add_72 qC_46 kC_46 h9 (n := 73) rfl (fun σ5 eσ5 => ?_)
  have hw := hw σ5 eσ5
  refine hg_aload_n hC dX0_add_73 rfl 0 rfl (n := 74) rfl ?_
  refine hg_getr hC fl_RX0_13 dX0_add_74 qC_42 kC_42 fC_0_0 rC_42_0 (n := 77) rfl ?_
  refine hg_iconst hC dX0_add_77 hl_i3 (n := 78) rfl ?_
  refine hg_aald hC (r := 47) dX0_add_78 qC_43 kC_43 vi_3_6 riC_43_3 (n := 79) rfl ?_
  refine hg_aload_n hC dX0_add_79 rfl 0 rfl (n := 80) rfl ?_
  refine hg_geti hC fl_RX0_16 dX0_add_80 qC_42 kC_42 fC_0_1 (n := 83) rfl ?_
  refine hg_iload hC dX0_add_83 3 rfl (n := 85) rfl ?_
  obtain ⟨h9, hw⟩ := hw
  refine hg_iast hC dX0_add_85 qC_47 kC_47 h9 (n := 86) rfl (fun σ6 eσ6 => ?_)
  have hw := hw σ6 eσ6
  refine hg_aload_n hC dX0_add_86 rfl 0 rfl (n := 87) rfl ?_
  refine hg_getr hC fl_RX0_13 dX0_add_87 qC_42 kC_42 fC_0_0 rC_42_0 (n := 90) rfl ?_
  refine hg_iconst hC dX0_add_90 hl_i4 (n := 91) rfl ?_
  refine hg_aald hC (r := 48) dX0_add_91 qC_43 kC_43 vi_4_6 riC_43_4 (n := 92) rfl ?_
  refine hg_aload_n hC dX0_add_92 rfl 0 rfl (n := 93) rfl ?_
  refine hg_geti hC fl_RX0_16 dX0_add_93 qC_42 kC_42 fC_0_1 (n := 96) rfl ?_
  refine hg_iload hC dX0_add_96 4 rfl (n := 98) rfl ?_
  obtain ⟨h9, hw⟩ := hw
  refine hg_iast hC dX0_add_98 qC_48 kC_48 h9 (n := 99) rfl (fun σ7 eσ7 => ?_)
  have hw := hw σ7 eσ7
  refine hg_aload_n hC dX0_add_99 rfl 0 rfl (n := 100) rfl ?_
  refine hg_getr hC fl_RX0_13 dX0_add_100 qC_42 kC_42 fC_0_0 rC_42_0 (n := 103) rfl ?_
  refine hg_iconst hC dX0_add_103 hl_i5 (n := 104) rfl ?_
  refine hg_aald hC (r := 49) dX0_add_104 qC_43 kC_43 vi_5_6 riC_43_5 (n := 105) rfl ?_
  refine hg_aload_n hC dX0_add_105 rfl 0 rfl (n := 106) rfl ?_
  refine hg_geti hC fl_RX0_16 dX0_add_106 qC_42 kC_42 fC_0_1 (n := 109) rfl ?_
  refine hg_aload_n hC dX0_add_109 rfl 0 rfl (n := 110) rfl ?_
  refine hg_geti hC fl_RX0_23 dX0_add_110 qC_42 kC_42 fC_0_3 (n := 113) rfl ?_
  obtain ⟨h9, hw⟩ := hw
  refine hg_iast hC dX0_add_113 qC_49 kC_49 h9 (n := 114) rfl (fun σ8 eσ8 => ?_)
  have hw := hw σ8 eσ8
  refine hg_aload_n hC dX0_add_114 rfl 0 rfl (n := 115) rfl ?_
  refine hg_dup hC dX0_add_115 rfl (n := 116) rfl ?_
  refine hg_geti hC fl_RX0_16 dX0_add_116 qC_42 kC_42 fC_0_1 (n := 119) rfl ?_
  refine hg_iconst hC dX0_add_119 hl_i1 (n := 120) rfl ?_
  refine hg_iadd hC dX0_add_120 (n := 121) rfl ?_
  refine hg_puti hC fp_RX0_16 dX0_add_121 qC_42 kC_42 fC_0_1 rfl rfl (n := 124) rfl (fun σ9 eσ9 => ?_)
  have hw := hw σ9 eσ9
  refine hg_iload hC dX0_add_124 5 rfl (n := 126) rfl ?_
  exact hg_reti hC hR dX0_add_126 hw
set_option maxRecDepth 4000 in
theorem tC_X0_add {E : hg_Et} (hE : hg_Eok E) (l : Launch) (d : Nat) (x1 : Int32) (x2 : Int32) (x3 : Int32) (x4 : Int32) (x5 : Int32) (σ : hg_M) (P : Int32 → hg_M → Prop) (hw : wC_X0_add x1 x2 x3 x4 x5 σ P) : hg_Ni hg_FC E l yX0_add cX0_add 7 (some .int) (d + 1) (fun ad => [.ref (ad 42), .int x1, .int x2, .int x3, .int x4, .int x5]) hg_rC σ P := by
  refine hg_ni hE (by decide) (fun _ => Nat.le_of_ble_eq_true rfl) (fun X hC hR hl => ?_)
  subst hl
  have hC : hg_C hg_FC 7 (d + 1) E cX0_add RX0 X := hC
  show hg_G hg_FC 7 X 0 [(0, .ref (hg_ad X 42)), (1, .int x1), (2, .int x2), (3, .int x3), (4, .int x4), (5, .int x5)] [] σ hg_rC
  unfold wC_X0_add at hw
  refine hg_aload_n hC dX0_add_0 rfl 0 rfl (n := 1) rfl ?_
  refine hg_geti hC fl_RX0_16 dX0_add_1 qC_42 kC_42 fC_0_1 (n := 4) rfl ?_
  refine hg_sipush hC dX0_add_4 hl_s720 (n := 7) rfl ?_
  refine hg_icmp_lt hC dX0_add_7 (tg := 12) rfl (n := 10) rfl (fun h9 => ?_) (fun h9 => ?_)
  · have hw := hw.1 h9
    refine hg_iload_n hC dX0_add_12 rfl 2 rfl (n := 13) rfl ?_
    refine hg_istore hC (L1 := [(6, .int x2), (0, .ref (hg_ad X 42)), (1, .int x1), (2, .int x2), (3, .int x3), (4, .int x4), (5, .int x5)]) dX0_add_13 (by decide) rfl (n := 15) rfl ?_
    refine hg_iload_n hC dX0_add_15 rfl 3 rfl (n := 16) rfl ?_
    refine hg_iconst hC dX0_add_16 hl_im1 (n := 17) rfl ?_
    refine hg_icmp_ne hC dX0_add_17 (tg := 36) rfl (n := 20) rfl (fun h9 => ?_) (fun h9 => ?_)
    · have hw := hw.1 h9
      exact hg_sub [1, 2, 4, 5, 6, 0] rfl (tbC_X0_add_36 hC hR  x1 x3 x4 x5 x2 σ hw)
    · have hw := hw.2 h9
      refine hg_aload_n hC dX0_add_20 rfl 1 rfl (n := 21) rfl ?_
      refine hg_geti hC fl_RX0_20 dX0_add_21 qC_42 kC_42 fC_0_2 (n := 24) rfl ?_
      refine hg_topi (fun v1 ev1 => ?_)
      have hw := hw v1 ev1
      refine hg_istore hC (L1 := [(6, .int v1), (0, .ref (hg_ad X 42)), (1, .int x1), (2, .int x2), (3, .int x3), (4, .int x4), (5, .int x5)]) dX0_add_24 (by decide) rfl (n := 26) rfl ?_
      refine hg_aload_n hC dX0_add_26 rfl 1 rfl (n := 27) rfl ?_
      refine hg_dup hC dX0_add_27 rfl (n := 28) rfl ?_
      refine hg_geti hC fl_RX0_20 dX0_add_28 qC_42 kC_42 fC_0_2 (n := 31) rfl ?_
      refine hg_iconst hC dX0_add_31 hl_i1 (n := 32) rfl ?_
      refine hg_iadd hC dX0_add_32 (n := 33) rfl ?_
      refine hg_puti hC fp_RX0_20 dX0_add_33 qC_42 kC_42 fC_0_2 rfl rfl (n := 36) rfl (fun σ2 eσ2 => ?_)
      have hw := hw σ2 eσ2
      exact hg_sub [1, 2, 4, 5, 6, 0] rfl (tbC_X0_add_36 hC hR  x1 x3 x4 x5 v1 σ2 hw)
  · have hw := hw.2 h9
    refine hg_iconst hC dX0_add_10 hl_i0 (n := 11) rfl ?_
    exact hg_reti hC hR dX0_add_11 hw
def bC_X0_leadRow_18 (P : Int32 → hg_M → Prop)  (t0 : Int32) (σ : hg_M) : Prop := P t0 σ
def wC_X0_leadRow (x1 : Int32) (σ : hg_M) (P : Int32 → hg_M → Prop) : Prop := vp_in x1 720 ∧ ((((σ 44 (x1).toNatClampNeg) ≠ (16 : Int32) → bC_X0_leadRow_18 P (2 : Int32) σ) ∧ ((σ 44 (x1).toNatClampNeg) = (16 : Int32) → bC_X0_leadRow_18 P (1 : Int32) σ)))
set_option maxRecDepth 4000 in
theorem tbC_X0_leadRow_18 {d : Nat} {E : hg_Et} {X : hg_X} {P : Int32 → hg_M → Prop}  (hC : hg_C hg_FC 2 (d + 1) E cX0_leadRow RX0 X) (hR : hg_Rni hg_FC (some .int) hg_rC P X)  (t0 : Int32) (σ : hg_M) (hw : bC_X0_leadRow_18 P t0 σ) : hg_G hg_FC 2 X 18 [] [.int t0] σ hg_rC := by
  unfold bC_X0_leadRow_18 at hw
  exact hg_reti hC hR dX0_leadRow_18 hw
set_option maxRecDepth 4000 in
theorem tC_X0_leadRow {E : hg_Et} (hE : hg_Eok E) (l : Launch) (d : Nat) (x1 : Int32) (σ : hg_M) (P : Int32 → hg_M → Prop) (hw : wC_X0_leadRow x1 σ P) : hg_Ni hg_FC E l yX0_leadRow cX0_leadRow 2 (some .int) (d + 1) (fun ad => [.ref (ad 42), .int x1]) hg_rC σ P := by
  refine hg_ni hE (by decide) (fun _ => Nat.le_of_ble_eq_true rfl) (fun X hC hR hl => ?_)
  subst hl
  have hC : hg_C hg_FC 2 (d + 1) E cX0_leadRow RX0 X := hC
  show hg_G hg_FC 2 X 0 [(0, .ref (hg_ad X 42)), (1, .int x1)] [] σ hg_rC
  unfold wC_X0_leadRow at hw
  refine hg_aload_n hC dX0_leadRow_0 rfl 0 rfl (n := 1) rfl ?_
  refine hg_getr hC fl_RX0_13 dX0_leadRow_1 qC_42 kC_42 fC_0_0 rC_42_0 (n := 4) rfl ?_
  refine hg_iconst hC dX0_leadRow_4 hl_i0 (n := 5) rfl ?_
  refine hg_aald hC (r := 44) dX0_leadRow_5 qC_43 kC_43 vi_0_6 riC_43_0 (n := 6) rfl ?_
  refine hg_iload_n hC dX0_leadRow_6 rfl 1 rfl (n := 7) rfl ?_
  obtain ⟨h9, hw⟩ := hw
  refine hg_iald hC dX0_leadRow_7 qC_44 kC_44 h9 (n := 8) rfl ?_
  refine hg_bipush hC dX0_leadRow_8 hl_b16 (n := 10) rfl ?_
  refine hg_icmp_ne hC dX0_leadRow_10 (tg := 17) rfl (n := 13) rfl (fun h9 => ?_) (fun h9 => ?_)
  · have hw := hw.1 h9
    refine hg_iconst hC dX0_leadRow_17 hl_i2 (n := 18) rfl ?_
    exact hg_sub [] rfl (tbC_X0_leadRow_18 hC hR  (2 : Int32) σ hw)
  · have hw := hw.2 h9
    refine hg_iconst hC dX0_leadRow_13 hl_i1 (n := 14) rfl ?_
    refine hg_goto hC dX0_leadRow_14 (tg := 18) rfl ?_
    exact hg_sub [] rfl (tbC_X0_leadRow_18 hC hR  (1 : Int32) σ hw)
def bC_X0_isJump_31 (P : Int32 → hg_M → Prop)  (t0 : Int32) (σ : hg_M) : Prop := ((t0 = 0 ∨ t0 = 1) ∧ P t0 σ)
def bC_X0_isJump_26 (P : Int32 → hg_M → Prop)   (σ : hg_M) : Prop := bC_X0_isJump_31 P (1 : Int32) σ
def wC_X0_isJump (x1 : Int32) (σ : hg_M) (P : Int32 → hg_M → Prop) : Prop := vp_in x1 720 ∧ ((((σ 44 (x1).toNatClampNeg) = (16 : Int32) → bC_X0_isJump_26 P σ) ∧ (¬ ((σ 44 (x1).toNatClampNeg) = (16 : Int32)) → vp_in x1 720 ∧ ((((σ 44 (x1).toNatClampNeg) ≠ (17 : Int32) → bC_X0_isJump_31 P (0 : Int32) σ) ∧ ((σ 44 (x1).toNatClampNeg) = (17 : Int32) → bC_X0_isJump_26 P σ))))))
set_option maxRecDepth 4000 in
theorem tbC_X0_isJump_31 {d : Nat} {E : hg_Et} {X : hg_X} {P : Int32 → hg_M → Prop}  (hC : hg_C hg_FC 2 (d + 1) E cX0_isJump RX0 X) (hR : hg_Rni hg_FC (some .boolean) hg_rC P X)  (t0 : Int32) (σ : hg_M) (hw : bC_X0_isJump_31 P t0 σ) : hg_G hg_FC 2 X 31 [] [.int t0] σ hg_rC := by
  unfold bC_X0_isJump_31 at hw
  exact hg_retz hC hR dX0_isJump_31 hw
set_option maxRecDepth 4000 in
theorem tbC_X0_isJump_26 {d : Nat} {E : hg_Et} {X : hg_X} {P : Int32 → hg_M → Prop}  (hC : hg_C hg_FC 2 (d + 1) E cX0_isJump RX0 X) (hR : hg_Rni hg_FC (some .boolean) hg_rC P X)   (σ : hg_M) (hw : bC_X0_isJump_26 P  σ) : hg_G hg_FC 2 X 26 [] [] σ hg_rC := by
  unfold bC_X0_isJump_26 at hw
  refine hg_iconst hC dX0_isJump_26 hl_i1 (n := 27) rfl ?_
  refine hg_goto hC dX0_isJump_27 (tg := 31) rfl ?_
  exact tbC_X0_isJump_31 hC hR  (1 : Int32) σ hw
set_option maxRecDepth 4000 in
theorem tC_X0_isJump {E : hg_Et} (hE : hg_Eok E) (l : Launch) (d : Nat) (x1 : Int32) (σ : hg_M) (P : Int32 → hg_M → Prop) (hw : wC_X0_isJump x1 σ P) : hg_Ni hg_FC E l yX0_isJump cX0_isJump 2 (some .boolean) (d + 1) (fun ad => [.ref (ad 42), .int x1]) hg_rC σ P := by
  refine hg_ni hE (by decide) (fun _ => Nat.le_of_ble_eq_true rfl) (fun X hC hR hl => ?_)
  subst hl
  have hC : hg_C hg_FC 2 (d + 1) E cX0_isJump RX0 X := hC
  show hg_G hg_FC 2 X 0 [(0, .ref (hg_ad X 42)), (1, .int x1)] [] σ hg_rC
  unfold wC_X0_isJump at hw
  refine hg_aload_n hC dX0_isJump_0 rfl 0 rfl (n := 1) rfl ?_
  refine hg_getr hC fl_RX0_13 dX0_isJump_1 qC_42 kC_42 fC_0_0 rC_42_0 (n := 4) rfl ?_
  refine hg_iconst hC dX0_isJump_4 hl_i0 (n := 5) rfl ?_
  refine hg_aald hC (r := 44) dX0_isJump_5 qC_43 kC_43 vi_0_6 riC_43_0 (n := 6) rfl ?_
  refine hg_iload_n hC dX0_isJump_6 rfl 1 rfl (n := 7) rfl ?_
  obtain ⟨h9, hw⟩ := hw
  refine hg_iald hC dX0_isJump_7 qC_44 kC_44 h9 (n := 8) rfl ?_
  refine hg_bipush hC dX0_isJump_8 hl_b16 (n := 10) rfl ?_
  refine hg_icmp_eq hC dX0_isJump_10 (tg := 26) rfl (n := 13) rfl (fun h9 => ?_) (fun h9 => ?_)
  · have hw := hw.1 h9
    exact hg_sub [] rfl (tbC_X0_isJump_26 hC hR  σ hw)
  · have hw := hw.2 h9
    refine hg_aload_n hC dX0_isJump_13 rfl 0 rfl (n := 14) rfl ?_
    refine hg_getr hC fl_RX0_13 dX0_isJump_14 qC_42 kC_42 fC_0_0 rC_42_0 (n := 17) rfl ?_
    refine hg_iconst hC dX0_isJump_17 hl_i0 (n := 18) rfl ?_
    refine hg_aald hC (r := 44) dX0_isJump_18 qC_43 kC_43 vi_0_6 riC_43_0 (n := 19) rfl ?_
    refine hg_iload_n hC dX0_isJump_19 rfl 1 rfl (n := 20) rfl ?_
    obtain ⟨h9, hw⟩ := hw
    refine hg_iald hC dX0_isJump_20 qC_44 kC_44 h9 (n := 21) rfl ?_
    refine hg_bipush hC dX0_isJump_21 hl_b17 (n := 23) rfl ?_
    refine hg_icmp_ne hC dX0_isJump_23 (tg := 30) rfl (n := 26) rfl (fun h9 => ?_) (fun h9 => ?_)
    · have hw := hw.1 h9
      refine hg_iconst hC dX0_isJump_30 hl_i0 (n := 31) rfl ?_
      exact hg_sub [] rfl (tbC_X0_isJump_31 hC hR  (0 : Int32) σ hw)
    · have hw := hw.2 h9
      exact hg_sub [] rfl (tbC_X0_isJump_26 hC hR  σ hw)
def bC_X0_jumps_26 (P : Int32 → hg_M → Prop) (J4 : Int32 → Int32 → hg_M → Prop) (x2 : Int32) (t0 : Int32) (t1 : Int32) (σ : hg_M) : Prop := ∀ v3 : Int32, v3 = (t0 + t1) → ∀ v4 : Int32, v4 = x2 + (1 : Int32) → J4 v3 v4 σ
def lC_X0_jumps_4 (P : Int32 → hg_M → Prop)  : Nat → Int32 → Int32 → hg_M → Prop
  | 0, _, _, _ => False
  | n + 1, x1, x2, σ => (((σ 42 1) ≤ x2 → P x1 σ) ∧ (¬ ((σ 42 1) ≤ x2) → wC_X0_isJump x2 σ (fun r2 σ1 => ((r2 = 0 → bC_X0_jumps_26 P (fun k0 k1 k2 => lC_X0_jumps_4 P n k0 k1 k2) x2 x1 (0 : Int32) σ1) ∧ (¬ r2 = 0 → bC_X0_jumps_26 P (fun k0 k1 k2 => lC_X0_jumps_4 P n k0 k1 k2) x2 x1 (1 : Int32) σ1)))))
def wC_X0_jumps  (σ : hg_M) (P : Int32 → hg_M → Prop) : Prop := (∃ f9, lC_X0_jumps_4 P f9 (0 : Int32) (0 : Int32) σ)
set_option maxRecDepth 4000 in
theorem tbC_X0_jumps_26 {d : Nat} {E : hg_Et} {X : hg_X} {P : Int32 → hg_M → Prop} {J4 : Int32 → Int32 → hg_M → Prop} (hC : hg_C hg_FC 3 (d + 2) E cX0_jumps RX0 X) (hR : hg_Rni hg_FC (some .int) hg_rC P X) (hJ4 : ∀ (x1 : Int32) (x2 : Int32) (σ : hg_M), J4 x1 x2 σ → hg_G hg_FC 3 X 4 [(0, .ref (hg_ad X 42)), (1, .int x1), (2, .int x2)] [] σ hg_rC) (x2 : Int32) (t0 : Int32) (t1 : Int32) (σ : hg_M) (hw : bC_X0_jumps_26 P J4 x2 t0 t1 σ) : hg_G hg_FC 3 X 26 [(0, .ref (hg_ad X 42)), (2, .int x2)] [.int t1, .int t0] σ hg_rC := by
  unfold bC_X0_jumps_26 at hw
  refine hg_iadd hC dX0_jumps_26 (n := 27) rfl ?_
  refine hg_topi (fun v3 ev3 => ?_)
  have hw := hw v3 ev3
  refine hg_istore_n hC (L1 := [(1, .int v3), (0, .ref (hg_ad X 42)), (2, .int x2)]) dX0_jumps_27 rfl (by decide) rfl (n := 28) rfl ?_
  obtain ⟨v4, ev4⟩ : ∃ z, z = x2 + (1 : Int32) := ⟨_, rfl⟩
  have hw := hw v4 ev4
  refine hg_iinc hC (v := v4) (L1 := [(2, .int v4), (1, .int v3), (0, .ref (hg_ad X 42))]) dX0_jumps_28 2 rfl (by rw [hl_i1, ev4]) (by decide) rfl (n := 31) rfl ?_
  refine hg_goto hC dX0_jumps_31 (tg := 4) rfl ?_
  exact hg_sub [2, 1, 0] rfl (hJ4 v3 v4 σ hw)
set_option maxRecDepth 4000 in
theorem tlC_X0_jumps_4 {d : Nat} {E : hg_Et} {X : hg_X} {P : Int32 → hg_M → Prop}  (hC : hg_C hg_FC 3 (d + 2) E cX0_jumps RX0 X) (hR : hg_Rni hg_FC (some .int) hg_rC P X)  (n : Nat) : ∀ (x1 : Int32) (x2 : Int32) (σ : hg_M), lC_X0_jumps_4 P n x1 x2 σ → hg_G hg_FC 3 X 4 [(0, .ref (hg_ad X 42)), (1, .int x1), (2, .int x2)] [] σ hg_rC := by
  induction n with
  | zero =>
    intro x1 x2 σ hw
    rw [lC_X0_jumps_4] at hw
    exact hw.elim
  | succ n ih =>
    intro x1 x2 σ hw
    rw [lC_X0_jumps_4] at hw
    refine hg_iload_n hC dX0_jumps_4 rfl 2 rfl (n := 5) rfl ?_
    refine hg_aload_n hC dX0_jumps_5 rfl 0 rfl (n := 6) rfl ?_
    refine hg_geti hC fl_RX0_16 dX0_jumps_6 qC_42 kC_42 fC_0_1 (n := 9) rfl ?_
    refine hg_icmp_ge hC dX0_jumps_9 (tg := 34) rfl (n := 12) rfl (fun h9 => ?_) (fun h9 => ?_)
    · have hw := hw.1 h9
      refine hg_iload_n hC dX0_jumps_34 rfl 1 rfl (n := 35) rfl ?_
      exact hg_reti hC hR dX0_jumps_35 hw
    · have hw := hw.2 h9
      refine hg_iload_n hC dX0_jumps_12 rfl 1 rfl (n := 13) rfl ?_
      refine hg_aload_n hC dX0_jumps_13 rfl 0 rfl (n := 14) rfl ?_
      refine hg_iload_n hC dX0_jumps_14 rfl 2 rfl (n := 15) rfl ?_
      refine hg_cVi hC (tC_X0_isJump (hg_Eof hC) X.2.1 (d + 0) _ _ _ hw) sv_RX0_41 dX0_jumps_15 qC_42 kC_42 c_0 rfl (rest := [.int x1]) rfl (Nat.le_of_ble_eq_true rfl) (n := 18) rfl (fun r2 σ1 hw => ?_)
      refine hg_if_eq hC dX0_jumps_18 (tg := 25) rfl (n := 21) rfl (fun h9 => ?_) (fun h9 => ?_)
      · have hw := hw.1 h9
        refine hg_iconst hC dX0_jumps_25 hl_i0 (n := 26) rfl ?_
        exact hg_sub [0, 2] rfl (tbC_X0_jumps_26 hC hR ih x2 x1 (0 : Int32) σ1 hw)
      · have hw := hw.2 h9
        refine hg_iconst hC dX0_jumps_21 hl_i1 (n := 22) rfl ?_
        refine hg_goto hC dX0_jumps_22 (tg := 26) rfl ?_
        exact hg_sub [0, 2] rfl (tbC_X0_jumps_26 hC hR ih x2 x1 (1 : Int32) σ1 hw)
set_option maxRecDepth 4000 in
theorem tC_X0_jumps {E : hg_Et} (hE : hg_Eok E) (l : Launch) (d : Nat)  (σ : hg_M) (P : Int32 → hg_M → Prop) (hw : wC_X0_jumps  σ P) : hg_Ni hg_FC E l yX0_jumps cX0_jumps 3 (some .int) (d + 2) (fun ad => [.ref (ad 42)]) hg_rC σ P := by
  refine hg_ni hE (by decide) (fun _ => Nat.le_of_ble_eq_true rfl) (fun X hC hR hl => ?_)
  subst hl
  have hC : hg_C hg_FC 3 (d + 2) E cX0_jumps RX0 X := hC
  show hg_G hg_FC 3 X 0 [(0, .ref (hg_ad X 42))] [] σ hg_rC
  unfold wC_X0_jumps at hw
  refine hg_iconst hC dX0_jumps_0 hl_i0 (n := 1) rfl ?_
  refine hg_istore_n hC (L1 := [(1, .int (0 : Int32)), (0, .ref (hg_ad X 42))]) dX0_jumps_1 rfl (by decide) rfl (n := 2) rfl ?_
  refine hg_iconst hC dX0_jumps_2 hl_i0 (n := 3) rfl ?_
  refine hg_istore_n hC (L1 := [(2, .int (0 : Int32)), (1, .int (0 : Int32)), (0, .ref (hg_ad X 42))]) dX0_jumps_3 rfl (by decide) rfl (n := 4) rfl ?_
  obtain ⟨n9, hw⟩ := hw
  exact hg_sub [2, 1, 0] rfl (tlC_X0_jumps_4 hC hR  n9 (0 : Int32) (0 : Int32) σ hw)
def bC_X0_stepsOf_30 (P : Int32 → hg_M → Prop) (J4 : Int32 → Int32 → Int32 → hg_M → Prop) (x1 : Int32) (x3 : Int32) (t0 : Int32) (t1 : Int32) (σ : hg_M) : Prop := ∀ v1 : Int32, v1 = (t0 + t1) → ∀ v2 : Int32, v2 = x3 + (1 : Int32) → J4 x1 v1 v2 σ
def lC_X0_stepsOf_4 (P : Int32 → hg_M → Prop)  : Nat → Int32 → Int32 → Int32 → hg_M → Prop
  | 0, _, _, _, _ => False
  | n + 1, x1, x2, x3, σ => (((σ 42 1) ≤ x3 → P x2 σ) ∧ (¬ ((σ 42 1) ≤ x3) → vp_in x3 720 ∧ ((((σ 49 (x3).toNatClampNeg) ≠ x1 → bC_X0_stepsOf_30 P (fun k0 k1 k2 k3 => lC_X0_stepsOf_4 P n k0 k1 k2 k3) x1 x3 x2 (0 : Int32) σ) ∧ ((σ 49 (x3).toNatClampNeg) = x1 → bC_X0_stepsOf_30 P (fun k0 k1 k2 k3 => lC_X0_stepsOf_4 P n k0 k1 k2 k3) x1 x3 x2 (1 : Int32) σ)))))
def wC_X0_stepsOf (x1 : Int32) (σ : hg_M) (P : Int32 → hg_M → Prop) : Prop := (∃ f9, lC_X0_stepsOf_4 P f9 x1 (0 : Int32) (0 : Int32) σ)
set_option maxRecDepth 4000 in
theorem tbC_X0_stepsOf_30 {d : Nat} {E : hg_Et} {X : hg_X} {P : Int32 → hg_M → Prop} {J4 : Int32 → Int32 → Int32 → hg_M → Prop} (hC : hg_C hg_FC 4 (d + 1) E cX0_stepsOf RX0 X) (hR : hg_Rni hg_FC (some .int) hg_rC P X) (hJ4 : ∀ (x1 : Int32) (x2 : Int32) (x3 : Int32) (σ : hg_M), J4 x1 x2 x3 σ → hg_G hg_FC 4 X 4 [(0, .ref (hg_ad X 42)), (1, .int x1), (2, .int x2), (3, .int x3)] [] σ hg_rC) (x1 : Int32) (x3 : Int32) (t0 : Int32) (t1 : Int32) (σ : hg_M) (hw : bC_X0_stepsOf_30 P J4 x1 x3 t0 t1 σ) : hg_G hg_FC 4 X 30 [(0, .ref (hg_ad X 42)), (1, .int x1), (3, .int x3)] [.int t1, .int t0] σ hg_rC := by
  unfold bC_X0_stepsOf_30 at hw
  refine hg_iadd hC dX0_stepsOf_30 (n := 31) rfl ?_
  refine hg_topi (fun v1 ev1 => ?_)
  have hw := hw v1 ev1
  refine hg_istore_n hC (L1 := [(2, .int v1), (0, .ref (hg_ad X 42)), (1, .int x1), (3, .int x3)]) dX0_stepsOf_31 rfl (by decide) rfl (n := 32) rfl ?_
  obtain ⟨v2, ev2⟩ : ∃ z, z = x3 + (1 : Int32) := ⟨_, rfl⟩
  have hw := hw v2 ev2
  refine hg_iinc hC (v := v2) (L1 := [(3, .int v2), (2, .int v1), (0, .ref (hg_ad X 42)), (1, .int x1)]) dX0_stepsOf_32 3 rfl (by rw [hl_i1, ev2]) (by decide) rfl (n := 35) rfl ?_
  refine hg_goto hC dX0_stepsOf_35 (tg := 4) rfl ?_
  exact hg_sub [2, 3, 1, 0] rfl (hJ4 x1 v1 v2 σ hw)
set_option maxRecDepth 4000 in
theorem tlC_X0_stepsOf_4 {d : Nat} {E : hg_Et} {X : hg_X} {P : Int32 → hg_M → Prop}  (hC : hg_C hg_FC 4 (d + 1) E cX0_stepsOf RX0 X) (hR : hg_Rni hg_FC (some .int) hg_rC P X)  (n : Nat) : ∀ (x1 : Int32) (x2 : Int32) (x3 : Int32) (σ : hg_M), lC_X0_stepsOf_4 P n x1 x2 x3 σ → hg_G hg_FC 4 X 4 [(0, .ref (hg_ad X 42)), (1, .int x1), (2, .int x2), (3, .int x3)] [] σ hg_rC := by
  induction n with
  | zero =>
    intro x1 x2 x3 σ hw
    rw [lC_X0_stepsOf_4] at hw
    exact hw.elim
  | succ n ih =>
    intro x1 x2 x3 σ hw
    rw [lC_X0_stepsOf_4] at hw
    refine hg_iload_n hC dX0_stepsOf_4 rfl 3 rfl (n := 5) rfl ?_
    refine hg_aload_n hC dX0_stepsOf_5 rfl 0 rfl (n := 6) rfl ?_
    refine hg_geti hC fl_RX0_16 dX0_stepsOf_6 qC_42 kC_42 fC_0_1 (n := 9) rfl ?_
    refine hg_icmp_ge hC dX0_stepsOf_9 (tg := 38) rfl (n := 12) rfl (fun h9 => ?_) (fun h9 => ?_)
    · have hw := hw.1 h9
      refine hg_iload_n hC dX0_stepsOf_38 rfl 2 rfl (n := 39) rfl ?_
      exact hg_reti hC hR dX0_stepsOf_39 hw
    · have hw := hw.2 h9
      refine hg_iload_n hC dX0_stepsOf_12 rfl 2 rfl (n := 13) rfl ?_
      refine hg_aload_n hC dX0_stepsOf_13 rfl 0 rfl (n := 14) rfl ?_
      refine hg_getr hC fl_RX0_13 dX0_stepsOf_14 qC_42 kC_42 fC_0_0 rC_42_0 (n := 17) rfl ?_
      refine hg_iconst hC dX0_stepsOf_17 hl_i5 (n := 18) rfl ?_
      refine hg_aald hC (r := 49) dX0_stepsOf_18 qC_43 kC_43 vi_5_6 riC_43_5 (n := 19) rfl ?_
      refine hg_iload_n hC dX0_stepsOf_19 rfl 3 rfl (n := 20) rfl ?_
      obtain ⟨h9, hw⟩ := hw
      refine hg_iald hC dX0_stepsOf_20 qC_49 kC_49 h9 (n := 21) rfl ?_
      refine hg_iload_n hC dX0_stepsOf_21 rfl 1 rfl (n := 22) rfl ?_
      refine hg_icmp_ne hC dX0_stepsOf_22 (tg := 29) rfl (n := 25) rfl (fun h9 => ?_) (fun h9 => ?_)
      · have hw := hw.1 h9
        refine hg_iconst hC dX0_stepsOf_29 hl_i0 (n := 30) rfl ?_
        exact hg_sub [0, 1, 3] rfl (tbC_X0_stepsOf_30 hC hR ih x1 x3 x2 (0 : Int32) σ hw)
      · have hw := hw.2 h9
        refine hg_iconst hC dX0_stepsOf_25 hl_i1 (n := 26) rfl ?_
        refine hg_goto hC dX0_stepsOf_26 (tg := 30) rfl ?_
        exact hg_sub [0, 1, 3] rfl (tbC_X0_stepsOf_30 hC hR ih x1 x3 x2 (1 : Int32) σ hw)
set_option maxRecDepth 4000 in
theorem tC_X0_stepsOf {E : hg_Et} (hE : hg_Eok E) (l : Launch) (d : Nat) (x1 : Int32) (σ : hg_M) (P : Int32 → hg_M → Prop) (hw : wC_X0_stepsOf x1 σ P) : hg_Ni hg_FC E l yX0_stepsOf cX0_stepsOf 4 (some .int) (d + 1) (fun ad => [.ref (ad 42), .int x1]) hg_rC σ P := by
  refine hg_ni hE (by decide) (fun _ => Nat.le_of_ble_eq_true rfl) (fun X hC hR hl => ?_)
  subst hl
  have hC : hg_C hg_FC 4 (d + 1) E cX0_stepsOf RX0 X := hC
  show hg_G hg_FC 4 X 0 [(0, .ref (hg_ad X 42)), (1, .int x1)] [] σ hg_rC
  unfold wC_X0_stepsOf at hw
  refine hg_iconst hC dX0_stepsOf_0 hl_i0 (n := 1) rfl ?_
  refine hg_istore_n hC (L1 := [(2, .int (0 : Int32)), (0, .ref (hg_ad X 42)), (1, .int x1)]) dX0_stepsOf_1 rfl (by decide) rfl (n := 2) rfl ?_
  refine hg_iconst hC dX0_stepsOf_2 hl_i0 (n := 3) rfl ?_
  refine hg_istore_n hC (L1 := [(3, .int (0 : Int32)), (2, .int (0 : Int32)), (0, .ref (hg_ad X 42)), (1, .int x1)]) dX0_stepsOf_3 rfl (by decide) rfl (n := 4) rfl ?_
  obtain ⟨n9, hw⟩ := hw
  exact hg_sub [2, 3, 1, 0] rfl (tlC_X0_stepsOf_4 hC hR  n9 x1 (0 : Int32) (0 : Int32) σ hw)
def lC_X0_markTaken_15 (P : hg_M → Prop)  : Nat → Int32 → Int32 → Int32 → hg_M → Prop
  | 0, _, _, _, _ => False
  | n + 1, x1, x2, x3, σ => vp_in x2 19 ∧ ((((hg_t2 (x2).toNatClampNeg) < x3 → P σ) ∧ (¬ ((hg_t2 (x2).toNatClampNeg) < x3) → vp_in x3 6 ∧ (vp_in x1 720 ∧ (vp_in (σ (44 + (x3).toNatClampNeg) (x1).toNatClampNeg) 736 ∧ (∀ σ3 : hg_M, σ3 = hg_set σ 50 ((σ (44 + (x3).toNatClampNeg) (x1).toNatClampNeg)).toNatClampNeg (vp_nar .boolean (1 : Int32)) → ∀ v4 : Int32, v4 = x3 + (1 : Int32) → lC_X0_markTaken_15 P n x1 x2 v4 σ3))))))
def wC_X0_markTaken (x1 : Int32) (σ : hg_M) (P : hg_M → Prop) : Prop := vp_in x1 720 ∧ (∀ v1 : Int32, v1 = (σ 44 (x1).toNatClampNeg) → vp_in v1 19 ∧ (∀ v2 : Int32, v2 = (hg_t1 (v1).toNatClampNeg) → (∃ f9, lC_X0_markTaken_15 P f9 x1 v1 v2 σ)))
set_option maxRecDepth 4000 in
theorem tlC_X0_markTaken_15 {d : Nat} {E : hg_Et} {X : hg_X} {P : hg_M → Prop}  (hC : hg_C hg_FC 4 (d + 1) E cX0_markTaken RX0 X) (hR : hg_Rnv hg_FC hg_rC P X)  (n : Nat) : ∀ (x1 : Int32) (x2 : Int32) (x3 : Int32) (σ : hg_M), lC_X0_markTaken_15 P n x1 x2 x3 σ → hg_G hg_FC 4 X 15 [(0, .ref (hg_ad X 42)), (1, .int x1), (2, .int x2), (3, .int x3)] [] σ hg_rC := by
  induction n with
  | zero =>
    intro x1 x2 x3 σ hw
    rw [lC_X0_markTaken_15] at hw
    exact hw.elim
  | succ n ih =>
    intro x1 x2 x3 σ hw
    rw [lC_X0_markTaken_15] at hw
    refine hg_iload_n hC dX0_markTaken_15 rfl 3 rfl (n := 16) rfl ?_
    obtain ⟨z9, hz9⟩ := (hg_Eof hC).2.2.2.2
    refine hg_gs hC (fun A U H h => (hz9 A U H h).2.2.1) gs_RX0_65 dX0_markTaken_16 (n := 19) rfl ?_
    refine hg_iload_n hC dX0_markTaken_19 rfl 2 rfl (n := 20) rfl ?_
    obtain ⟨h9, hw⟩ := hw
    refine hg_ti hC (fun A U H h => (hz9 A U H h).2.2.2.1) dX0_markTaken_20 h9 (n := 21) rfl ?_
    refine hg_icmp_gt hC dX0_markTaken_21 (tg := 44) rfl (n := 24) rfl (fun h9 => ?_) (fun h9 => ?_)
    · have hw := hw.1 h9
      exact hg_retv hC hR dX0_markTaken_44 hw
    · have hw := hw.2 h9
      refine hg_aload_n hC dX0_markTaken_24 rfl 0 rfl (n := 25) rfl ?_
      refine hg_getr hC fl_RX0_26 dX0_markTaken_25 qC_42 kC_42 fC_0_4 rC_42_4 (n := 28) rfl ?_
      refine hg_aload_n hC dX0_markTaken_28 rfl 0 rfl (n := 29) rfl ?_
      refine hg_getr hC fl_RX0_13 dX0_markTaken_29 qC_42 kC_42 fC_0_0 rC_42_0 (n := 32) rfl ?_
      refine hg_iload_n hC dX0_markTaken_32 rfl 3 rfl (n := 33) rfl ?_
      obtain ⟨hr33, hw⟩ := hw
      refine hg_aald hC (r := 44 + (x3).toNatClampNeg) dX0_markTaken_33 qC_43 kC_43 hr33 rfl (n := 34) rfl ?_
      refine hg_iload_n hC dX0_markTaken_34 rfl 1 rfl (n := 35) rfl ?_
      obtain ⟨h9, hw⟩ := hw
      refine hg_iald hC dX0_markTaken_35 (QC_44 (hg_lt hr33)) (KC_44 (hg_lt hr33)) h9 (n := 36) rfl ?_
      refine hg_iconst hC dX0_markTaken_36 hl_i1 (n := 37) rfl ?_
      obtain ⟨h9, hw⟩ := hw
      refine hg_zast hC dX0_markTaken_37 qC_50 kC_50 h9 (n := 38) rfl (fun σ3 eσ3 => ?_)
      have hw := hw σ3 eσ3
      obtain ⟨v4, ev4⟩ : ∃ z, z = x3 + (1 : Int32) := ⟨_, rfl⟩
      have hw := hw v4 ev4
      refine hg_iinc hC (v := v4) (L1 := [(3, .int v4), (0, .ref (hg_ad X 42)), (1, .int x1), (2, .int x2)]) dX0_markTaken_38 3 rfl (by rw [hl_i1, ev4]) (by decide) rfl (n := 41) rfl ?_
      refine hg_goto hC dX0_markTaken_41 (tg := 15) rfl ?_
      exact hg_sub [1, 2, 3, 0] rfl (ih x1 x2 v4 σ3 hw)
set_option maxRecDepth 4000 in
theorem tC_X0_markTaken {E : hg_Et} (hE : hg_Eok E) (l : Launch) (d : Nat) (x1 : Int32) (σ : hg_M) (P : hg_M → Prop) (hw : wC_X0_markTaken x1 σ P) : hg_Nv hg_FC E l yX0_markTaken cX0_markTaken 4 (d + 1) (fun ad => [.ref (ad 42), .int x1]) hg_rC σ P := by
  refine hg_nv hE (by decide) (fun _ => Nat.le_of_ble_eq_true rfl) (fun X hC hR hl => ?_)
  subst hl
  have hC : hg_C hg_FC 4 (d + 1) E cX0_markTaken RX0 X := hC
  show hg_G hg_FC 4 X 0 [(0, .ref (hg_ad X 42)), (1, .int x1)] [] σ hg_rC
  unfold wC_X0_markTaken at hw
  refine hg_aload_n hC dX0_markTaken_0 rfl 0 rfl (n := 1) rfl ?_
  refine hg_getr hC fl_RX0_13 dX0_markTaken_1 qC_42 kC_42 fC_0_0 rC_42_0 (n := 4) rfl ?_
  refine hg_iconst hC dX0_markTaken_4 hl_i0 (n := 5) rfl ?_
  refine hg_aald hC (r := 44) dX0_markTaken_5 qC_43 kC_43 vi_0_6 riC_43_0 (n := 6) rfl ?_
  refine hg_iload_n hC dX0_markTaken_6 rfl 1 rfl (n := 7) rfl ?_
  obtain ⟨h9, hw⟩ := hw
  refine hg_iald hC dX0_markTaken_7 qC_44 kC_44 h9 (n := 8) rfl ?_
  refine hg_topi (fun v1 ev1 => ?_)
  have hw := hw v1 ev1
  refine hg_istore_n hC (L1 := [(2, .int v1), (0, .ref (hg_ad X 42)), (1, .int x1)]) dX0_markTaken_8 rfl (by decide) rfl (n := 9) rfl ?_
  obtain ⟨z9, hz9⟩ := (hg_Eof hC).2.2.2.2
  refine hg_gs hC (fun A U H h => (hz9 A U H h).1) gs_RX0_62 dX0_markTaken_9 (n := 12) rfl ?_
  refine hg_iload_n hC dX0_markTaken_12 rfl 0 rfl (n := 13) rfl ?_
  obtain ⟨h9, hw⟩ := hw
  refine hg_ti hC (fun A U H h => (hz9 A U H h).2.1) dX0_markTaken_13 h9 (n := 14) rfl ?_
  refine hg_topi (fun v2 ev2 => ?_)
  have hw := hw v2 ev2
  refine hg_istore_n hC (L1 := [(3, .int v2), (2, .int v1), (0, .ref (hg_ad X 42)), (1, .int x1)]) dX0_markTaken_14 rfl (by decide) rfl (n := 15) rfl ?_
  obtain ⟨n9, hw⟩ := hw
  exact hg_sub [2, 3, 1, 0] rfl (tlC_X0_markTaken_15 hC hR  n9 x1 v1 v2 σ hw)
def lC_X0_shift_37 (P : hg_M → Prop)  : Nat → Int32 → Int32 → Int32 → hg_M → Prop
  | 0, _, _, _, _ => False
  | n + 1, x1, x2, x3, σ => (((6 : Int32) ≤ x3 → P σ) ∧ (¬ ((6 : Int32) ≤ x3) → vp_in x3 6 ∧ (vp_in x3 6 ∧ (vp_in x1 720 ∧ (vp_in x2 720 ∧ (∀ σ6 : hg_M, σ6 = hg_set σ (44 + (x3).toNatClampNeg) (x2).toNatClampNeg (σ (44 + (x3).toNatClampNeg) (x1).toNatClampNeg) → ∀ v7 : Int32, v7 = x3 + (1 : Int32) → lC_X0_shift_37 P n x1 x2 v7 σ6))))))
def bC_X0_shift_35 (P : hg_M → Prop)  (x1 : Int32) (x2 : Int32) (σ : hg_M) : Prop := (∃ f9, lC_X0_shift_37 P f9 x1 x2 (0 : Int32) σ)
def wC_X0_shift (x1 : Int32) (x2 : Int32) (σ : hg_M) (P : hg_M → Prop) : Prop := wC_X0_isJump x1 σ (fun r2 σ1 => ((r2 = 0 → bC_X0_shift_35 P x1 x2 σ1) ∧ (¬ r2 = 0 → wC_X0_leadRow x1 σ1 (fun r4 σ3 => vp_in r4 6 ∧ (vp_in r4 6 ∧ (vp_in x1 720 ∧ (vp_in (σ3 (44 + (r4).toNatClampNeg) (x1).toNatClampNeg) 721 ∧ (vp_in x1 720 ∧ (∀ σ5 : hg_M, σ5 = hg_set σ3 (44 + (r4).toNatClampNeg) (x1).toNatClampNeg (σ3 52 ((σ3 (44 + (r4).toNatClampNeg) (x1).toNatClampNeg)).toNatClampNeg) → bC_X0_shift_35 P x1 x2 σ5)))))))))
set_option maxRecDepth 4000 in
theorem tlC_X0_shift_37 {d : Nat} {E : hg_Et} {X : hg_X} {P : hg_M → Prop}  (hC : hg_C hg_FC 4 (d + 2) E cX0_shift RX0 X) (hR : hg_Rnv hg_FC hg_rC P X)  (n : Nat) : ∀ (x1 : Int32) (x2 : Int32) (x3 : Int32) (σ : hg_M), lC_X0_shift_37 P n x1 x2 x3 σ → hg_G hg_FC 4 X 37 [(0, .ref (hg_ad X 42)), (1, .int x1), (2, .int x2), (3, .int x3)] [] σ hg_rC := by
  induction n with
  | zero =>
    intro x1 x2 x3 σ hw
    rw [lC_X0_shift_37] at hw
    exact hw.elim
  | succ n ih =>
    intro x1 x2 x3 σ hw
    rw [lC_X0_shift_37] at hw
    refine hg_iload_n hC dX0_shift_37 rfl 3 rfl (n := 38) rfl ?_
    refine hg_bipush hC dX0_shift_38 hl_b6 (n := 40) rfl ?_
    refine hg_icmp_ge hC dX0_shift_40 (tg := 65) rfl (n := 43) rfl (fun h9 => ?_) (fun h9 => ?_)
    · have hw := hw.1 h9
      exact hg_retv hC hR dX0_shift_65 hw
    · have hw := hw.2 h9
      refine hg_aload_n hC dX0_shift_43 rfl 0 rfl (n := 44) rfl ?_
      refine hg_getr hC fl_RX0_13 dX0_shift_44 qC_42 kC_42 fC_0_0 rC_42_0 (n := 47) rfl ?_
      refine hg_iload_n hC dX0_shift_47 rfl 3 rfl (n := 48) rfl ?_
      obtain ⟨hr48, hw⟩ := hw
      refine hg_aald hC (r := 44 + (x3).toNatClampNeg) dX0_shift_48 qC_43 kC_43 hr48 rfl (n := 49) rfl ?_
      refine hg_iload_n hC dX0_shift_49 rfl 2 rfl (n := 50) rfl ?_
      refine hg_aload_n hC dX0_shift_50 rfl 0 rfl (n := 51) rfl ?_
      refine hg_getr hC fl_RX0_13 dX0_shift_51 qC_42 kC_42 fC_0_0 rC_42_0 (n := 54) rfl ?_
      refine hg_iload_n hC dX0_shift_54 rfl 3 rfl (n := 55) rfl ?_
      obtain ⟨hr55, hw⟩ := hw
      refine hg_aald hC (r := 44 + (x3).toNatClampNeg) dX0_shift_55 qC_43 kC_43 hr55 rfl (n := 56) rfl ?_
      refine hg_iload_n hC dX0_shift_56 rfl 1 rfl (n := 57) rfl ?_
      obtain ⟨h9, hw⟩ := hw
      refine hg_iald hC dX0_shift_57 (QC_44 (hg_lt hr55)) (KC_44 (hg_lt hr55)) h9 (n := 58) rfl ?_
      obtain ⟨h9, hw⟩ := hw
      refine hg_iast hC dX0_shift_58 (QC_44 (hg_lt hr48)) (KC_44 (hg_lt hr48)) h9 (n := 59) rfl (fun σ6 eσ6 => ?_)
      have hw := hw σ6 eσ6
      obtain ⟨v7, ev7⟩ : ∃ z, z = x3 + (1 : Int32) := ⟨_, rfl⟩
      have hw := hw v7 ev7
      refine hg_iinc hC (v := v7) (L1 := [(3, .int v7), (0, .ref (hg_ad X 42)), (1, .int x1), (2, .int x2)]) dX0_shift_59 3 rfl (by rw [hl_i1, ev7]) (by decide) rfl (n := 62) rfl ?_
      refine hg_goto hC dX0_shift_62 (tg := 37) rfl ?_
      exact hg_sub [1, 2, 3, 0] rfl (ih x1 x2 v7 σ6 hw)
set_option maxRecDepth 4000 in
theorem tbC_X0_shift_35 {d : Nat} {E : hg_Et} {X : hg_X} {P : hg_M → Prop}  (hC : hg_C hg_FC 4 (d + 2) E cX0_shift RX0 X) (hR : hg_Rnv hg_FC hg_rC P X)  (x1 : Int32) (x2 : Int32) (σ : hg_M) (hw : bC_X0_shift_35 P x1 x2 σ) : hg_G hg_FC 4 X 35 [(0, .ref (hg_ad X 42)), (1, .int x1), (2, .int x2)] [] σ hg_rC := by
  unfold bC_X0_shift_35 at hw
  refine hg_iconst hC dX0_shift_35 hl_i0 (n := 36) rfl ?_
  refine hg_istore_n hC (L1 := [(3, .int (0 : Int32)), (0, .ref (hg_ad X 42)), (1, .int x1), (2, .int x2)]) dX0_shift_36 rfl (by decide) rfl (n := 37) rfl ?_
  obtain ⟨n9, hw⟩ := hw
  exact hg_sub [1, 2, 3, 0] rfl (tlC_X0_shift_37 hC hR  n9 x1 x2 (0 : Int32) σ hw)
set_option maxRecDepth 4000 in
theorem tC_X0_shift {E : hg_Et} (hE : hg_Eok E) (l : Launch) (d : Nat) (x1 : Int32) (x2 : Int32) (σ : hg_M) (P : hg_M → Prop) (hw : wC_X0_shift x1 x2 σ P) : hg_Nv hg_FC E l yX0_shift cX0_shift 4 (d + 2) (fun ad => [.ref (ad 42), .int x1, .int x2]) hg_rC σ P := by
  refine hg_nv hE (by decide) (fun _ => Nat.le_of_ble_eq_true rfl) (fun X hC hR hl => ?_)
  subst hl
  have hC : hg_C hg_FC 4 (d + 2) E cX0_shift RX0 X := hC
  show hg_G hg_FC 4 X 0 [(0, .ref (hg_ad X 42)), (1, .int x1), (2, .int x2)] [] σ hg_rC
  unfold wC_X0_shift at hw
  refine hg_aload_n hC dX0_shift_0 rfl 0 rfl (n := 1) rfl ?_
  refine hg_iload_n hC dX0_shift_1 rfl 1 rfl (n := 2) rfl ?_
  refine hg_cVi hC (tC_X0_isJump (hg_Eof hC) X.2.1 (d + 0) _ _ _ hw) sv_RX0_41 dX0_shift_2 qC_42 kC_42 c_0 rfl (rest := []) rfl (Nat.le_of_ble_eq_true rfl) (n := 5) rfl (fun r2 σ1 hw => ?_)
  refine hg_if_eq hC dX0_shift_5 (tg := 35) rfl (n := 8) rfl (fun h9 => ?_) (fun h9 => ?_)
  · have hw := hw.1 h9
    exact tbC_X0_shift_35 hC hR  x1 x2 σ1 hw
  · have hw := hw.2 h9
    refine hg_aload_n hC dX0_shift_8 rfl 0 rfl (n := 9) rfl ?_
    refine hg_iload_n hC dX0_shift_9 rfl 1 rfl (n := 10) rfl ?_
    refine hg_cVi hC (tC_X0_leadRow (hg_Eof hC) X.2.1 (d + 0) _ _ _ hw) sv_RX0_37 dX0_shift_10 qC_42 kC_42 c_0 rfl (rest := []) rfl (Nat.le_of_ble_eq_true rfl) (n := 13) rfl (fun r4 σ3 hw => ?_)
    refine hg_istore_n hC (L1 := [(3, .int r4), (0, .ref (hg_ad X 42)), (1, .int x1), (2, .int x2)]) dX0_shift_13 rfl (by decide) rfl (n := 14) rfl ?_
    refine hg_aload_n hC dX0_shift_14 rfl 1 rfl (n := 15) rfl ?_
    refine hg_getr hC fl_RX0_13 dX0_shift_15 qC_42 kC_42 fC_0_0 rC_42_0 (n := 18) rfl ?_
    refine hg_iload_n hC dX0_shift_18 rfl 0 rfl (n := 19) rfl ?_
    obtain ⟨hr19, hw⟩ := hw
    refine hg_aald hC (r := 44 + (r4).toNatClampNeg) dX0_shift_19 qC_43 kC_43 hr19 rfl (n := 20) rfl ?_
    refine hg_iload_n hC dX0_shift_20 rfl 2 rfl (n := 21) rfl ?_
    refine hg_aload_n hC dX0_shift_21 rfl 1 rfl (n := 22) rfl ?_
    refine hg_getr hC fl_RX0_33 dX0_shift_22 qC_42 kC_42 fC_0_6 rC_42_6 (n := 25) rfl ?_
    refine hg_aload_n hC dX0_shift_25 rfl 1 rfl (n := 26) rfl ?_
    refine hg_getr hC fl_RX0_13 dX0_shift_26 qC_42 kC_42 fC_0_0 rC_42_0 (n := 29) rfl ?_
    refine hg_iload_n hC dX0_shift_29 rfl 0 rfl (n := 30) rfl ?_
    obtain ⟨hr30, hw⟩ := hw
    refine hg_aald hC (r := 44 + (r4).toNatClampNeg) dX0_shift_30 qC_43 kC_43 hr30 rfl (n := 31) rfl ?_
    refine hg_iload_n hC dX0_shift_31 rfl 2 rfl (n := 32) rfl ?_
    obtain ⟨h9, hw⟩ := hw
    refine hg_iald hC dX0_shift_32 (QC_44 (hg_lt hr30)) (KC_44 (hg_lt hr30)) h9 (n := 33) rfl ?_
    obtain ⟨h9, hw⟩ := hw
    refine hg_iald hC dX0_shift_33 qC_52 kC_52 h9 (n := 34) rfl ?_
    obtain ⟨h9, hw⟩ := hw
    refine hg_iast hC dX0_shift_34 (QC_44 (hg_lt hr19)) (KC_44 (hg_lt hr19)) h9 (n := 35) rfl (fun σ5 eσ5 => ?_)
    have hw := hw σ5 eσ5
    exact hg_sub [1, 2, 3] rfl (tbC_X0_shift_35 hC hR  x1 x2 σ5 hw)
def wC_X3_begin (x1 : Int32) (σ : hg_M) (P : Int32 → hg_M → Prop) : Prop := ∀ v1 : Int32, v1 = (σ 7 8) → vp_in v1 60 ∧ (∀ σ2 : hg_M, σ2 = hg_set σ 8 (v1).toNatClampNeg (0 : Int32) → vp_in v1 60 ∧ (∀ σ3 : hg_M, σ3 = hg_set σ2 9 (v1).toNatClampNeg x1 → vp_in v1 60 ∧ (∀ σ4 : hg_M, σ4 = hg_set σ3 10 (v1).toNatClampNeg (0 : Int32) → vp_in v1 60 ∧ (∀ σ5 : hg_M, σ5 = hg_set σ4 11 (v1).toNatClampNeg (0 : Int32) → vp_in v1 60 ∧ (∀ σ6 : hg_M, σ6 = hg_set σ5 12 (v1).toNatClampNeg (v1 + (1 : Int32)) → vp_in v1 60 ∧ (∀ σ7 : hg_M, σ7 = hg_set σ6 13 (v1).toNatClampNeg (v1 + (1 : Int32)) → ∀ σ8 : hg_M, σ8 = hg_set σ7 7 8 ((σ7 7 8) + (1 : Int32)) → P v1 σ8))))))
set_option maxRecDepth 4000 in
theorem tC_X3_begin {E : hg_Et} (hE : hg_Eok E) (l : Launch) (d : Nat) (x1 : Int32) (σ : hg_M) (P : Int32 → hg_M → Prop) (hw : wC_X3_begin x1 σ P) : hg_Ni hg_FC E l yX3_begin cX3_begin 3 (some .int) (d + 1) (fun ad => [.ref (ad 7), .int x1]) hg_rC σ P := by
  refine hg_ni hE (by decide) (fun _ => Nat.le_of_ble_eq_true rfl) (fun X hC hR hl => ?_)
  subst hl
  have hC : hg_C hg_FC 3 (d + 1) E cX3_begin RX3 X := hC
  show hg_G hg_FC 3 X 0 [(0, .ref (hg_ad X 7)), (1, .int x1)] [] σ hg_rC
  unfold wC_X3_begin at hw
  refine hg_aload_n hC dX3_begin_0 rfl 0 rfl (n := 1) rfl ?_
  refine hg_geti hC fl_RX3_37 dX3_begin_1 qC_7 kC_7 fC_3_8 (n := 4) rfl ?_
  refine hg_topi (fun v1 ev1 => ?_)
  have hw := hw v1 ev1
  refine hg_istore_n hC (L1 := [(2, .int v1), (0, .ref (hg_ad X 7)), (1, .int x1)]) dX3_begin_4 rfl (by decide) rfl (n := 5) rfl ?_
  refine hg_aload_n hC dX3_begin_5 rfl 1 rfl (n := 6) rfl ?_
  refine hg_getr hC fl_RX3_9 dX3_begin_6 qC_7 kC_7 fC_3_0 rC_7_0 (n := 9) rfl ?_
  refine hg_iload_n hC dX3_begin_9 rfl 0 rfl (n := 10) rfl ?_
  refine hg_iconst hC dX3_begin_10 hl_i0 (n := 11) rfl ?_
  obtain ⟨h9, hw⟩ := hw
  refine hg_iast hC dX3_begin_11 qC_8 kC_8 h9 (n := 12) rfl (fun σ2 eσ2 => ?_)
  have hw := hw σ2 eσ2
  refine hg_aload_n hC dX3_begin_12 rfl 1 rfl (n := 13) rfl ?_
  refine hg_getr hC fl_RX3_15 dX3_begin_13 qC_7 kC_7 fC_3_1 rC_7_1 (n := 16) rfl ?_
  refine hg_iload_n hC dX3_begin_16 rfl 0 rfl (n := 17) rfl ?_
  refine hg_iload_n hC dX3_begin_17 rfl 2 rfl (n := 18) rfl ?_
  obtain ⟨h9, hw⟩ := hw
  refine hg_iast hC dX3_begin_18 qC_9 kC_9 h9 (n := 19) rfl (fun σ3 eσ3 => ?_)
  have hw := hw σ3 eσ3
  refine hg_aload_n hC dX3_begin_19 rfl 1 rfl (n := 20) rfl ?_
  refine hg_getr hC fl_RX3_18 dX3_begin_20 qC_7 kC_7 fC_3_2 rC_7_2 (n := 23) rfl ?_
  refine hg_iload_n hC dX3_begin_23 rfl 0 rfl (n := 24) rfl ?_
  refine hg_iconst hC dX3_begin_24 hl_i0 (n := 25) rfl ?_
  obtain ⟨h9, hw⟩ := hw
  refine hg_iast hC dX3_begin_25 qC_10 kC_10 h9 (n := 26) rfl (fun σ4 eσ4 => ?_)
  have hw := hw σ4 eσ4
  refine hg_aload_n hC dX3_begin_26 rfl 1 rfl (n := 27) rfl ?_
  refine hg_getr hC fl_RX3_21 dX3_begin_27 qC_7 kC_7 fC_3_3 rC_7_3 (n := 30) rfl ?_
  refine hg_iload_n hC dX3_begin_30 rfl 0 rfl (n := 31) rfl ?_
  refine hg_iconst hC dX3_begin_31 hl_i0 (n := 32) rfl ?_
  obtain ⟨h9, hw⟩ := hw
  refine hg_iast hC dX3_begin_32 qC_11 kC_11 h9 (n := 33) rfl (fun σ5 eσ5 => ?_)
  have hw := hw σ5 eσ5
  refine hg_aload_n hC dX3_begin_33 rfl 1 rfl (n := 34) rfl ?_
  refine hg_getr hC fl_RX3_24 dX3_begin_34 qC_7 kC_7 fC_3_4 rC_7_4 (n := 37) rfl ?_
  refine hg_iload_n hC dX3_begin_37 rfl 0 rfl (n := 38) rfl ?_
  refine hg_iload_n hC dX3_begin_38 rfl 0 rfl (n := 39) rfl ?_
  refine hg_iconst hC dX3_begin_39 hl_i1 (n := 40) rfl ?_
  refine hg_iadd hC dX3_begin_40 (n := 41) rfl ?_
  obtain ⟨h9, hw⟩ := hw
  refine hg_iast hC dX3_begin_41 qC_12 kC_12 h9 (n := 42) rfl (fun σ6 eσ6 => ?_)
  have hw := hw σ6 eσ6
  refine hg_aload_n hC dX3_begin_42 rfl 1 rfl (n := 43) rfl ?_
  refine hg_getr hC fl_RX3_27 dX3_begin_43 qC_7 kC_7 fC_3_5 rC_7_5 (n := 46) rfl ?_
  refine hg_iload_n hC dX3_begin_46 rfl 0 rfl (n := 47) rfl ?_
  refine hg_iload_n hC dX3_begin_47 rfl 0 rfl (n := 48) rfl ?_
  refine hg_iconst hC dX3_begin_48 hl_i1 (n := 49) rfl ?_
  refine hg_iadd hC dX3_begin_49 (n := 50) rfl ?_
  obtain ⟨h9, hw⟩ := hw
  refine hg_iast hC dX3_begin_50 qC_13 kC_13 h9 (n := 51) rfl (fun σ7 eσ7 => ?_)
  have hw := hw σ7 eσ7
  refine hg_aload_n hC dX3_begin_51 rfl 1 rfl (n := 52) rfl ?_
  refine hg_dup hC dX3_begin_52 rfl (n := 53) rfl ?_
  refine hg_geti hC fl_RX3_37 dX3_begin_53 qC_7 kC_7 fC_3_8 (n := 56) rfl ?_
  refine hg_iconst hC dX3_begin_56 hl_i1 (n := 57) rfl ?_
  refine hg_iadd hC dX3_begin_57 (n := 58) rfl ?_
  refine hg_puti hC fp_RX3_37 dX3_begin_58 qC_7 kC_7 fC_3_8 rfl rfl (n := 61) rfl (fun σ8 eσ8 => ?_)
  have hw := hw σ8 eσ8
  refine hg_iload_n hC dX3_begin_61 rfl 0 rfl (n := 62) rfl ?_
  exact hg_reti hC hR dX3_begin_62 hw
def wC_X3_putValue (x1 : Int32) (x2 : Int32) (x3 : Int32) (σ : hg_M) (P : hg_M → Prop) : Prop := vp_in x1 120 ∧ (∀ σ1 : hg_M, σ1 = hg_set σ 14 (x1).toNatClampNeg (vp_nar .boolean x2) → vp_in x1 120 ∧ (∀ σ2 : hg_M, σ2 = hg_set σ1 15 (x1).toNatClampNeg x3 → P σ2))
set_option maxRecDepth 4000 in
theorem tC_X3_putValue {E : hg_Et} (hE : hg_Eok E) (l : Launch) (d : Nat) (x1 : Int32) (x2 : Int32) (x3 : Int32) (σ : hg_M) (P : hg_M → Prop) (hw : wC_X3_putValue x1 x2 x3 σ P) : hg_Nv hg_FC E l yX3_putValue cX3_putValue 4 (d + 1) (fun ad => [.ref (ad 7), .int x1, .int x2, .int x3]) hg_rC σ P := by
  refine hg_nv hE (by decide) (fun _ => Nat.le_of_ble_eq_true rfl) (fun X hC hR hl => ?_)
  subst hl
  have hC : hg_C hg_FC 4 (d + 1) E cX3_putValue RX3 X := hC
  show hg_G hg_FC 4 X 0 [(0, .ref (hg_ad X 7)), (1, .int x1), (2, .int x2), (3, .int x3)] [] σ hg_rC
  unfold wC_X3_putValue at hw
  refine hg_aload_n hC dX3_putValue_0 rfl 0 rfl (n := 1) rfl ?_
  refine hg_getr hC fl_RX3_30 dX3_putValue_1 qC_7 kC_7 fC_3_6 rC_7_6 (n := 4) rfl ?_
  refine hg_iload_n hC dX3_putValue_4 rfl 1 rfl (n := 5) rfl ?_
  refine hg_iload_n hC dX3_putValue_5 rfl 2 rfl (n := 6) rfl ?_
  obtain ⟨h9, hw⟩ := hw
  refine hg_zast hC dX3_putValue_6 qC_14 kC_14 h9 (n := 7) rfl (fun σ1 eσ1 => ?_)
  have hw := hw σ1 eσ1
  refine hg_aload_n hC dX3_putValue_7 rfl 0 rfl (n := 8) rfl ?_
  refine hg_getr hC fl_RX3_34 dX3_putValue_8 qC_7 kC_7 fC_3_7 rC_7_7 (n := 11) rfl ?_
  refine hg_iload_n hC dX3_putValue_11 rfl 1 rfl (n := 12) rfl ?_
  refine hg_iload_n hC dX3_putValue_12 rfl 3 rfl (n := 13) rfl ?_
  obtain ⟨h9, hw⟩ := hw
  refine hg_iast hC dX3_putValue_13 qC_15 kC_15 h9 (n := 14) rfl (fun σ2 eσ2 => ?_)
  have hw := hw σ2 eσ2
  exact hg_retv hC hR dX3_putValue_14 hw
def bC_X4_append_30 (P : hg_M → Prop)   (σ : hg_M) : Prop := P σ
def wC_X4_append (x1 : Int32) (σ : hg_M) (P : hg_M → Prop) : Prop := (((600 : Int32) ≤ (σ 3 1) → bC_X4_append_30 P σ) ∧ (¬ ((600 : Int32) ≤ (σ 3 1)) → vp_in (σ 3 1) 600 ∧ (∀ σ1 : hg_M, σ1 = hg_set σ 4 ((σ 3 1)).toNatClampNeg x1 → ∀ σ2 : hg_M, σ2 = hg_set σ1 3 1 ((σ1 3 1) + (1 : Int32)) → bC_X4_append_30 P σ2)))
set_option maxRecDepth 4000 in
theorem tbC_X4_append_30 {d : Nat} {E : hg_Et} {X : hg_X} {P : hg_M → Prop}  (hC : hg_C hg_FC 2 (d + 1) E cX4_append RX4 X) (hR : hg_Rnv hg_FC hg_rC P X)   (σ : hg_M) (hw : bC_X4_append_30 P  σ) : hg_G hg_FC 2 X 30 [] [] σ hg_rC := by
  unfold bC_X4_append_30 at hw
  exact hg_retv hC hR dX4_append_30 hw
set_option maxRecDepth 4000 in
theorem tC_X4_append {E : hg_Et} (hE : hg_Eok E) (l : Launch) (d : Nat) (x1 : Int32) (σ : hg_M) (P : hg_M → Prop) (hw : wC_X4_append x1 σ P) : hg_Nv hg_FC E l yX4_append cX4_append 2 (d + 1) (fun ad => [.ref (ad 3), .int x1]) hg_rC σ P := by
  refine hg_nv hE (by decide) (fun _ => Nat.le_of_ble_eq_true rfl) (fun X hC hR hl => ?_)
  subst hl
  have hC : hg_C hg_FC 2 (d + 1) E cX4_append RX4 X := hC
  show hg_G hg_FC 2 X 0 [(0, .ref (hg_ad X 3)), (1, .int x1)] [] σ hg_rC
  unfold wC_X4_append at hw
  refine hg_aload_n hC dX4_append_0 rfl 0 rfl (n := 1) rfl ?_
  refine hg_geti hC fl_RX4_15 dX4_append_1 qC_3 kC_3 fC_4_1 (n := 4) rfl ?_
  refine hg_sipush hC dX4_append_4 hl_s600 (n := 7) rfl ?_
  refine hg_icmp_ge hC dX4_append_7 (tg := 30) rfl (n := 10) rfl (fun h9 => ?_) (fun h9 => ?_)
  · have hw := hw.1 h9
    exact hg_sub [] rfl (tbC_X4_append_30 hC hR  σ hw)
  · have hw := hw.2 h9
    refine hg_aload_n hC dX4_append_10 rfl 0 rfl (n := 11) rfl ?_
    refine hg_getr hC fl_RX4_9 dX4_append_11 qC_3 kC_3 fC_4_0 rC_3_0 (n := 14) rfl ?_
    refine hg_aload_n hC dX4_append_14 rfl 0 rfl (n := 15) rfl ?_
    refine hg_geti hC fl_RX4_15 dX4_append_15 qC_3 kC_3 fC_4_1 (n := 18) rfl ?_
    refine hg_iload_n hC dX4_append_18 rfl 1 rfl (n := 19) rfl ?_
    obtain ⟨h9, hw⟩ := hw
    refine hg_iast hC dX4_append_19 qC_4 kC_4 h9 (n := 20) rfl (fun σ1 eσ1 => ?_)
    have hw := hw σ1 eσ1
    refine hg_aload_n hC dX4_append_20 rfl 0 rfl (n := 21) rfl ?_
    refine hg_dup hC dX4_append_21 rfl (n := 22) rfl ?_
    refine hg_geti hC fl_RX4_15 dX4_append_22 qC_3 kC_3 fC_4_1 (n := 25) rfl ?_
    refine hg_iconst hC dX4_append_25 hl_i1 (n := 26) rfl ?_
    refine hg_iadd hC dX4_append_26 (n := 27) rfl ?_
    refine hg_puti hC fp_RX4_15 dX4_append_27 qC_3 kC_3 fC_4_1 rfl rfl (n := 30) rfl (fun σ2 eσ2 => ?_)
    have hw := hw σ2 eσ2
    exact hg_sub [] rfl (tbC_X4_append_30 hC hR  σ2 hw)
def wC_X4_refuse (x1 : Int32) (σ : hg_M) (P : Int32 → hg_M → Prop) : Prop := ∀ σ1 : hg_M, σ1 = hg_set σ 3 7 x1 → ∀ σ2 : hg_M, σ2 = hg_set σ1 3 8 (σ1 3 6) → (((0 : Int32) = 0 ∨ (0 : Int32) = 1) ∧ P (0 : Int32) σ2)
set_option maxRecDepth 4000 in
theorem tC_X4_refuse {E : hg_Et} (hE : hg_Eok E) (l : Launch) (d : Nat) (x1 : Int32) (σ : hg_M) (P : Int32 → hg_M → Prop) (hw : wC_X4_refuse x1 σ P) : hg_Ni hg_FC E l yX4_refuse cX4_refuse 2 (some .boolean) (d + 1) (fun ad => [.ref (ad 3), .int x1]) hg_rC σ P := by
  refine hg_ni hE (by decide) (fun _ => Nat.le_of_ble_eq_true rfl) (fun X hC hR hl => ?_)
  subst hl
  have hC : hg_C hg_FC 2 (d + 1) E cX4_refuse RX4 X := hC
  show hg_G hg_FC 2 X 0 [(0, .ref (hg_ad X 3)), (1, .int x1)] [] σ hg_rC
  unfold wC_X4_refuse at hw
  refine hg_aload_n hC dX4_refuse_0 rfl 0 rfl (n := 1) rfl ?_
  refine hg_iload_n hC dX4_refuse_1 rfl 1 rfl (n := 2) rfl ?_
  refine hg_puti hC fp_RX4_39 dX4_refuse_2 qC_3 kC_3 fC_4_7 rfl rfl (n := 5) rfl (fun σ1 eσ1 => ?_)
  have hw := hw σ1 eσ1
  refine hg_aload_n hC dX4_refuse_5 rfl 0 rfl (n := 6) rfl ?_
  refine hg_aload_n hC dX4_refuse_6 rfl 0 rfl (n := 7) rfl ?_
  refine hg_geti hC fl_RX4_36 dX4_refuse_7 qC_3 kC_3 fC_4_6 (n := 10) rfl ?_
  refine hg_puti hC fp_RX4_42 dX4_refuse_10 qC_3 kC_3 fC_4_8 rfl rfl (n := 13) rfl (fun σ2 eσ2 => ?_)
  have hw := hw σ2 eσ2
  refine hg_iconst hC dX4_refuse_13 hl_i0 (n := 14) rfl ?_
  exact hg_retz hC hR dX4_refuse_14 hw
def bC_X4_nextByte_76 (P : Int32 → hg_M → Prop)  (t0 : Int32) (σ : hg_M) : Prop := P t0 σ
def bC_X4_nextByte_52 (P : Int32 → hg_M → Prop)   (σ : hg_M) : Prop := (((σ 3 1) ≤ (σ 3 6) → bC_X4_nextByte_76 P (-1 : Int32) σ) ∧ (¬ ((σ 3 1) ≤ (σ 3 6)) → vp_in (σ 3 6) 600 ∧ (bC_X4_nextByte_76 P (σ 4 ((σ 3 6)).toNatClampNeg) σ)))
def bC_X4_nextByte_39 (P : Int32 → hg_M → Prop) (J0 : hg_M → Prop)  (σ : hg_M) : Prop := ∀ σ1 : hg_M, σ1 = hg_set σ 3 6 ((σ 3 6) + (1 : Int32)) → J0 σ1
def lC_X4_nextByte_0 (P : Int32 → hg_M → Prop)  : Nat → hg_M → Prop
  | 0, _ => False
  | n + 1, σ => (((σ 3 1) ≤ (σ 3 6) → bC_X4_nextByte_52 P σ) ∧ (¬ ((σ 3 1) ≤ (σ 3 6)) → vp_in (σ 3 6) 600 ∧ ((((σ 4 ((σ 3 6)).toNatClampNeg) = (32 : Int32) → bC_X4_nextByte_39 P (fun k0 => lC_X4_nextByte_0 P n k0) σ) ∧ (¬ ((σ 4 ((σ 3 6)).toNatClampNeg) = (32 : Int32)) → vp_in (σ 3 6) 600 ∧ ((((σ 4 ((σ 3 6)).toNatClampNeg) ≠ (10 : Int32) → bC_X4_nextByte_52 P σ) ∧ ((σ 4 ((σ 3 6)).toNatClampNeg) = (10 : Int32) → bC_X4_nextByte_39 P (fun k0 => lC_X4_nextByte_0 P n k0) σ))))))))
def wC_X4_nextByte  (σ : hg_M) (P : Int32 → hg_M → Prop) : Prop := (∃ f9, lC_X4_nextByte_0 P f9 σ)
set_option maxRecDepth 4000 in
theorem tbC_X4_nextByte_76 {d : Nat} {E : hg_Et} {X : hg_X} {P : Int32 → hg_M → Prop}  (hC : hg_C hg_FC 1 (d + 1) E cX4_nextByte RX4 X) (hR : hg_Rni hg_FC (some .int) hg_rC P X)  (t0 : Int32) (σ : hg_M) (hw : bC_X4_nextByte_76 P t0 σ) : hg_G hg_FC 1 X 76 [] [.int t0] σ hg_rC := by
  unfold bC_X4_nextByte_76 at hw
  exact hg_reti hC hR dX4_nextByte_76 hw
set_option maxRecDepth 4000 in
theorem tbC_X4_nextByte_52 {d : Nat} {E : hg_Et} {X : hg_X} {P : Int32 → hg_M → Prop}  (hC : hg_C hg_FC 1 (d + 1) E cX4_nextByte RX4 X) (hR : hg_Rni hg_FC (some .int) hg_rC P X)   (σ : hg_M) (hw : bC_X4_nextByte_52 P  σ) : hg_G hg_FC 1 X 52 [(0, .ref (hg_ad X 3))] [] σ hg_rC := by
  unfold bC_X4_nextByte_52 at hw
  refine hg_aload_n hC dX4_nextByte_52 rfl 0 rfl (n := 53) rfl ?_
  refine hg_geti hC fl_RX4_36 dX4_nextByte_53 qC_3 kC_3 fC_4_6 (n := 56) rfl ?_
  refine hg_aload_n hC dX4_nextByte_56 rfl 0 rfl (n := 57) rfl ?_
  refine hg_geti hC fl_RX4_15 dX4_nextByte_57 qC_3 kC_3 fC_4_1 (n := 60) rfl ?_
  refine hg_icmp_ge hC dX4_nextByte_60 (tg := 75) rfl (n := 63) rfl (fun h9 => ?_) (fun h9 => ?_)
  · have hw := hw.1 h9
    refine hg_iconst hC dX4_nextByte_75 hl_im1 (n := 76) rfl ?_
    exact hg_sub [] rfl (tbC_X4_nextByte_76 hC hR  (-1 : Int32) σ hw)
  · have hw := hw.2 h9
    refine hg_aload_n hC dX4_nextByte_63 rfl 0 rfl (n := 64) rfl ?_
    refine hg_getr hC fl_RX4_9 dX4_nextByte_64 qC_3 kC_3 fC_4_0 rC_3_0 (n := 67) rfl ?_
    refine hg_aload_n hC dX4_nextByte_67 rfl 0 rfl (n := 68) rfl ?_
    refine hg_geti hC fl_RX4_36 dX4_nextByte_68 qC_3 kC_3 fC_4_6 (n := 71) rfl ?_
    obtain ⟨h9, hw⟩ := hw
    refine hg_iald hC dX4_nextByte_71 qC_4 kC_4 h9 (n := 72) rfl ?_
    refine hg_goto hC dX4_nextByte_72 (tg := 76) rfl ?_
    exact hg_sub [] rfl (tbC_X4_nextByte_76 hC hR  (σ 4 ((σ 3 6)).toNatClampNeg) σ hw)
set_option maxRecDepth 4000 in
theorem tbC_X4_nextByte_39 {d : Nat} {E : hg_Et} {X : hg_X} {P : Int32 → hg_M → Prop} {J0 : hg_M → Prop} (hC : hg_C hg_FC 1 (d + 1) E cX4_nextByte RX4 X) (hR : hg_Rni hg_FC (some .int) hg_rC P X) (hJ0 : ∀  (σ : hg_M), J0  σ → hg_G hg_FC 1 X 0 [(0, .ref (hg_ad X 3))] [] σ hg_rC)  (σ : hg_M) (hw : bC_X4_nextByte_39 P J0  σ) : hg_G hg_FC 1 X 39 [(0, .ref (hg_ad X 3))] [] σ hg_rC := by
  unfold bC_X4_nextByte_39 at hw
  refine hg_aload_n hC dX4_nextByte_39 rfl 0 rfl (n := 40) rfl ?_
  refine hg_dup hC dX4_nextByte_40 rfl (n := 41) rfl ?_
  refine hg_geti hC fl_RX4_36 dX4_nextByte_41 qC_3 kC_3 fC_4_6 (n := 44) rfl ?_
  refine hg_iconst hC dX4_nextByte_44 hl_i1 (n := 45) rfl ?_
  refine hg_iadd hC dX4_nextByte_45 (n := 46) rfl ?_
  refine hg_puti hC fp_RX4_36 dX4_nextByte_46 qC_3 kC_3 fC_4_6 rfl rfl (n := 49) rfl (fun σ1 eσ1 => ?_)
  have hw := hw σ1 eσ1
  refine hg_goto hC dX4_nextByte_49 (tg := 0) rfl ?_
  exact hJ0 σ1 hw
set_option maxRecDepth 4000 in
theorem tlC_X4_nextByte_0 {d : Nat} {E : hg_Et} {X : hg_X} {P : Int32 → hg_M → Prop}  (hC : hg_C hg_FC 1 (d + 1) E cX4_nextByte RX4 X) (hR : hg_Rni hg_FC (some .int) hg_rC P X)  (n : Nat) : ∀  (σ : hg_M), lC_X4_nextByte_0 P n  σ → hg_G hg_FC 1 X 0 [(0, .ref (hg_ad X 3))] [] σ hg_rC := by
  induction n with
  | zero =>
    intro  σ hw
    rw [lC_X4_nextByte_0] at hw
    exact hw.elim
  | succ n ih =>
    intro  σ hw
    rw [lC_X4_nextByte_0] at hw
    refine hg_aload_n hC dX4_nextByte_0 rfl 0 rfl (n := 1) rfl ?_
    refine hg_geti hC fl_RX4_36 dX4_nextByte_1 qC_3 kC_3 fC_4_6 (n := 4) rfl ?_
    refine hg_aload_n hC dX4_nextByte_4 rfl 0 rfl (n := 5) rfl ?_
    refine hg_geti hC fl_RX4_15 dX4_nextByte_5 qC_3 kC_3 fC_4_1 (n := 8) rfl ?_
    refine hg_icmp_ge hC dX4_nextByte_8 (tg := 52) rfl (n := 11) rfl (fun h9 => ?_) (fun h9 => ?_)
    · have hw := hw.1 h9
      exact tbC_X4_nextByte_52 hC hR  σ hw
    · have hw := hw.2 h9
      refine hg_aload_n hC dX4_nextByte_11 rfl 0 rfl (n := 12) rfl ?_
      refine hg_getr hC fl_RX4_9 dX4_nextByte_12 qC_3 kC_3 fC_4_0 rC_3_0 (n := 15) rfl ?_
      refine hg_aload_n hC dX4_nextByte_15 rfl 0 rfl (n := 16) rfl ?_
      refine hg_geti hC fl_RX4_36 dX4_nextByte_16 qC_3 kC_3 fC_4_6 (n := 19) rfl ?_
      obtain ⟨h9, hw⟩ := hw
      refine hg_iald hC dX4_nextByte_19 qC_4 kC_4 h9 (n := 20) rfl ?_
      refine hg_bipush hC dX4_nextByte_20 hl_b32 (n := 22) rfl ?_
      refine hg_icmp_eq hC dX4_nextByte_22 (tg := 39) rfl (n := 25) rfl (fun h9 => ?_) (fun h9 => ?_)
      · have hw := hw.1 h9
        exact tbC_X4_nextByte_39 hC hR ih σ hw
      · have hw := hw.2 h9
        refine hg_aload_n hC dX4_nextByte_25 rfl 0 rfl (n := 26) rfl ?_
        refine hg_getr hC fl_RX4_9 dX4_nextByte_26 qC_3 kC_3 fC_4_0 rC_3_0 (n := 29) rfl ?_
        refine hg_aload_n hC dX4_nextByte_29 rfl 0 rfl (n := 30) rfl ?_
        refine hg_geti hC fl_RX4_36 dX4_nextByte_30 qC_3 kC_3 fC_4_6 (n := 33) rfl ?_
        obtain ⟨h9, hw⟩ := hw
        refine hg_iald hC dX4_nextByte_33 qC_4 kC_4 h9 (n := 34) rfl ?_
        refine hg_bipush hC dX4_nextByte_34 hl_b10 (n := 36) rfl ?_
        refine hg_icmp_ne hC dX4_nextByte_36 (tg := 52) rfl (n := 39) rfl (fun h9 => ?_) (fun h9 => ?_)
        · have hw := hw.1 h9
          exact tbC_X4_nextByte_52 hC hR  σ hw
        · have hw := hw.2 h9
          exact tbC_X4_nextByte_39 hC hR ih σ hw
set_option maxRecDepth 4000 in
theorem tC_X4_nextByte {E : hg_Et} (hE : hg_Eok E) (l : Launch) (d : Nat)  (σ : hg_M) (P : Int32 → hg_M → Prop) (hw : wC_X4_nextByte  σ P) : hg_Ni hg_FC E l yX4_nextByte cX4_nextByte 1 (some .int) (d + 1) (fun ad => [.ref (ad 3)]) hg_rC σ P := by
  refine hg_ni hE (by decide) (fun _ => Nat.le_of_ble_eq_true rfl) (fun X hC hR hl => ?_)
  subst hl
  have hC : hg_C hg_FC 1 (d + 1) E cX4_nextByte RX4 X := hC
  show hg_G hg_FC 1 X 0 [(0, .ref (hg_ad X 3))] [] σ hg_rC
  unfold wC_X4_nextByte at hw
  obtain ⟨n9, hw⟩ := hw
  exact tlC_X4_nextByte_0 hC hR  n9 σ hw
def wC_X4_takeByte (x1 : Int32) (σ : hg_M) (P : Int32 → hg_M → Prop) : Prop := wC_X4_nextByte σ (fun r2 σ1 => ((r2 = x1 → ∀ σ3 : hg_M, σ3 = hg_set σ1 3 6 ((σ1 3 6) + (1 : Int32)) → (((1 : Int32) = 0 ∨ (1 : Int32) = 1) ∧ P (1 : Int32) σ3)) ∧ (¬ (r2 = x1) → wC_X4_refuse (1 : Int32) σ1 (fun r5 σ4 => ((r5 = 0 ∨ r5 = 1) ∧ P r5 σ4)))))
set_option maxRecDepth 4000 in
theorem tC_X4_takeByte {E : hg_Et} (hE : hg_Eok E) (l : Launch) (d : Nat) (x1 : Int32) (σ : hg_M) (P : Int32 → hg_M → Prop) (hw : wC_X4_takeByte x1 σ P) : hg_Ni hg_FC E l yX4_takeByte cX4_takeByte 2 (some .boolean) (d + 2) (fun ad => [.ref (ad 3), .int x1]) hg_rC σ P := by
  refine hg_ni hE (by decide) (fun _ => Nat.le_of_ble_eq_true rfl) (fun X hC hR hl => ?_)
  subst hl
  have hC : hg_C hg_FC 2 (d + 2) E cX4_takeByte RX4 X := hC
  show hg_G hg_FC 2 X 0 [(0, .ref (hg_ad X 3)), (1, .int x1)] [] σ hg_rC
  unfold wC_X4_takeByte at hw
  refine hg_aload_n hC dX4_takeByte_0 rfl 0 rfl (n := 1) rfl ?_
  refine hg_cVi hC (tC_X4_nextByte (hg_Eof hC) X.2.1 (d + 0) _ _ hw) sv_RX4_48 dX4_takeByte_1 qC_3 kC_3 c_4 rfl (rest := []) rfl (Nat.le_of_ble_eq_true rfl) (n := 4) rfl (fun r2 σ1 hw => ?_)
  refine hg_iload_n hC dX4_takeByte_4 rfl 1 rfl (n := 5) rfl ?_
  refine hg_icmp_eq hC dX4_takeByte_5 (tg := 14) rfl (n := 8) rfl (fun h9 => ?_) (fun h9 => ?_)
  · have hw := hw.1 h9
    refine hg_aload_n hC dX4_takeByte_14 rfl 0 rfl (n := 15) rfl ?_
    refine hg_dup hC dX4_takeByte_15 rfl (n := 16) rfl ?_
    refine hg_geti hC fl_RX4_36 dX4_takeByte_16 qC_3 kC_3 fC_4_6 (n := 19) rfl ?_
    refine hg_iconst hC dX4_takeByte_19 hl_i1 (n := 20) rfl ?_
    refine hg_iadd hC dX4_takeByte_20 (n := 21) rfl ?_
    refine hg_puti hC fp_RX4_36 dX4_takeByte_21 qC_3 kC_3 fC_4_6 rfl rfl (n := 24) rfl (fun σ3 eσ3 => ?_)
    have hw := hw σ3 eσ3
    refine hg_iconst hC dX4_takeByte_24 hl_i1 (n := 25) rfl ?_
    exact hg_retz hC hR dX4_takeByte_25 hw
  · have hw := hw.2 h9
    refine hg_aload_n hC dX4_takeByte_8 rfl 0 rfl (n := 9) rfl ?_
    refine hg_iconst hC dX4_takeByte_9 hl_i1 (n := 10) rfl ?_
    refine hg_cVi hC (tC_X4_refuse (hg_Eof hC) X.2.1 (d + 0) _ _ _ hw) sv_RX4_52 dX4_takeByte_10 qC_3 kC_3 c_4 rfl (rest := []) rfl (Nat.le_of_ble_eq_true rfl) (n := 13) rfl (fun r5 σ4 hw => ?_)
    exact hg_retz hC hR dX4_takeByte_13 hw
def bC_X4_closeSide_98 (P : Int32 → hg_M → Prop)  (x1 : Int32) (σ : hg_M) : Prop := vp_in x1 60 ∧ (∀ σ10 : hg_M, σ10 = hg_set σ 13 (x1).toNatClampNeg (σ 7 8) → ∀ σ11 : hg_M, σ11 = hg_set σ10 3 5 ((σ10 3 5) - (1 : Int32)) → (((1 : Int32) = 0 ∨ (1 : Int32) = 1) ∧ P (1 : Int32) σ11))
def wC_X4_closeSide  (σ : hg_M) (P : Int32 → hg_M → Prop) : Prop := (((σ 3 5) ≠ 0 → ∀ σ1 : hg_M, σ1 = hg_set σ 3 6 ((σ 3 6) + (1 : Int32)) → vp_in ((σ1 3 5) - (1 : Int32)) 6 ∧ (∀ v2 : Int32, v2 = (σ1 5 (((σ1 3 5) - (1 : Int32))).toNatClampNeg) → vp_in ((σ1 3 5) - (1 : Int32)) 6 ∧ ((((σ1 6 (((σ1 3 5) - (1 : Int32))).toNatClampNeg) ≠ 0 → bC_X4_closeSide_98 P v2 σ1) ∧ ((σ1 6 (((σ1 3 5) - (1 : Int32))).toNatClampNeg) = 0 → vp_in v2 60 ∧ (∀ σ3 : hg_M, σ3 = hg_set σ1 12 (v2).toNatClampNeg (σ1 7 8) → wC_X4_nextByte σ3 (fun r5 σ4 => ((r5 ≠ (123 : Int32) → bC_X4_closeSide_98 P v2 σ4) ∧ (r5 = (123 : Int32) → ∀ σ6 : hg_M, σ6 = hg_set σ4 3 6 ((σ4 3 6) + (1 : Int32)) → vp_in ((σ6 3 5) - (1 : Int32)) 6 ∧ (∀ σ7 : hg_M, σ7 = hg_set σ6 6 (((σ6 3 5) - (1 : Int32))).toNatClampNeg (vp_nar .boolean (1 : Int32)) → (((1 : Int32) = 0 ∨ (1 : Int32) = 1) ∧ P (1 : Int32) σ7))))))))))) ∧ ((σ 3 5) = 0 → wC_X4_refuse (1 : Int32) σ (fun r9 σ8 => ((r9 = 0 ∨ r9 = 1) ∧ P r9 σ8))))
set_option maxRecDepth 4000 in
theorem tbC_X4_closeSide_98 {d : Nat} {E : hg_Et} {X : hg_X} {P : Int32 → hg_M → Prop}  (hC : hg_C hg_FC 2 (d + 2) E cX4_closeSide RX4 X) (hR : hg_Rni hg_FC (some .boolean) hg_rC P X)  (x1 : Int32) (σ : hg_M) (hw : bC_X4_closeSide_98 P x1 σ) : hg_G hg_FC 2 X 98 [(0, .ref (hg_ad X 3)), (1, .int x1)] [] σ hg_rC := by
  unfold bC_X4_closeSide_98 at hw
  refine hg_aload_n hC dX4_closeSide_98 rfl 0 rfl (n := 99) rfl ?_
  refine hg_getr hC fl_RX4_22 dX4_closeSide_99 qC_3 kC_3 fC_4_2 rC_3_2 (n := 102) rfl ?_
  refine hg_getr hC fl_RX4_66 dX4_closeSide_102 qC_7 kC_7 fC_3_5 rC_7_5 (n := 105) rfl ?_
  refine hg_iload_n hC dX4_closeSide_105 rfl 1 rfl (n := 106) rfl ?_
  refine hg_aload_n hC dX4_closeSide_106 rfl 0 rfl (n := 107) rfl ?_
  refine hg_getr hC fl_RX4_22 dX4_closeSide_107 qC_3 kC_3 fC_4_2 rC_3_2 (n := 110) rfl ?_
  refine hg_geti hC fl_RX4_45 dX4_closeSide_110 qC_7 kC_7 fC_3_8 (n := 113) rfl ?_
  obtain ⟨h9, hw⟩ := hw
  refine hg_iast hC dX4_closeSide_113 qC_13 kC_13 h9 (n := 114) rfl (fun σ10 eσ10 => ?_)
  have hw := hw σ10 eσ10
  refine hg_aload_n hC dX4_closeSide_114 rfl 0 rfl (n := 115) rfl ?_
  refine hg_dup hC dX4_closeSide_115 rfl (n := 116) rfl ?_
  refine hg_geti hC fl_RX4_33 dX4_closeSide_116 qC_3 kC_3 fC_4_5 (n := 119) rfl ?_
  refine hg_iconst hC dX4_closeSide_119 hl_i1 (n := 120) rfl ?_
  refine hg_isub hC dX4_closeSide_120 (n := 121) rfl ?_
  refine hg_puti hC fp_RX4_33 dX4_closeSide_121 qC_3 kC_3 fC_4_5 rfl rfl (n := 124) rfl (fun σ11 eσ11 => ?_)
  have hw := hw σ11 eσ11
  refine hg_iconst hC dX4_closeSide_124 hl_i1 (n := 125) rfl ?_
  exact hg_retz hC hR dX4_closeSide_125 hw
set_option maxRecDepth 4000 in
theorem tC_X4_closeSide {E : hg_Et} (hE : hg_Eok E) (l : Launch) (d : Nat)  (σ : hg_M) (P : Int32 → hg_M → Prop) (hw : wC_X4_closeSide  σ P) : hg_Ni hg_FC E l yX4_closeSide cX4_closeSide 2 (some .boolean) (d + 2) (fun ad => [.ref (ad 3)]) hg_rC σ P := by
  refine hg_ni hE (by decide) (fun _ => Nat.le_of_ble_eq_true rfl) (fun X hC hR hl => ?_)
  subst hl
  have hC : hg_C hg_FC 2 (d + 2) E cX4_closeSide RX4 X := hC
  show hg_G hg_FC 2 X 0 [(0, .ref (hg_ad X 3))] [] σ hg_rC
  unfold wC_X4_closeSide at hw
  refine hg_aload_n hC dX4_closeSide_0 rfl 0 rfl (n := 1) rfl ?_
  refine hg_geti hC fl_RX4_33 dX4_closeSide_1 qC_3 kC_3 fC_4_5 (n := 4) rfl ?_
  refine hg_if_ne hC dX4_closeSide_4 (tg := 13) rfl (n := 7) rfl (fun h9 => ?_) (fun h9 => ?_)
  · have hw := hw.1 h9
    refine hg_aload_n hC dX4_closeSide_13 rfl 0 rfl (n := 14) rfl ?_
    refine hg_dup hC dX4_closeSide_14 rfl (n := 15) rfl ?_
    refine hg_geti hC fl_RX4_36 dX4_closeSide_15 qC_3 kC_3 fC_4_6 (n := 18) rfl ?_
    refine hg_iconst hC dX4_closeSide_18 hl_i1 (n := 19) rfl ?_
    refine hg_iadd hC dX4_closeSide_19 (n := 20) rfl ?_
    refine hg_puti hC fp_RX4_36 dX4_closeSide_20 qC_3 kC_3 fC_4_6 rfl rfl (n := 23) rfl (fun σ1 eσ1 => ?_)
    have hw := hw σ1 eσ1
    refine hg_aload_n hC dX4_closeSide_23 rfl 0 rfl (n := 24) rfl ?_
    refine hg_getr hC fl_RX4_26 dX4_closeSide_24 qC_3 kC_3 fC_4_3 rC_3_3 (n := 27) rfl ?_
    refine hg_aload_n hC dX4_closeSide_27 rfl 0 rfl (n := 28) rfl ?_
    refine hg_geti hC fl_RX4_33 dX4_closeSide_28 qC_3 kC_3 fC_4_5 (n := 31) rfl ?_
    refine hg_iconst hC dX4_closeSide_31 hl_i1 (n := 32) rfl ?_
    refine hg_isub hC dX4_closeSide_32 (n := 33) rfl ?_
    obtain ⟨h9, hw⟩ := hw
    refine hg_iald hC dX4_closeSide_33 qC_5 kC_5 h9 (n := 34) rfl ?_
    refine hg_topi (fun v2 ev2 => ?_)
    have hw := hw v2 ev2
    refine hg_istore_n hC (L1 := [(1, .int v2), (0, .ref (hg_ad X 3))]) dX4_closeSide_34 rfl (by decide) rfl (n := 35) rfl ?_
    refine hg_aload_n hC dX4_closeSide_35 rfl 1 rfl (n := 36) rfl ?_
    refine hg_getr hC fl_RX4_29 dX4_closeSide_36 qC_3 kC_3 fC_4_4 rC_3_4 (n := 39) rfl ?_
    refine hg_aload_n hC dX4_closeSide_39 rfl 1 rfl (n := 40) rfl ?_
    refine hg_geti hC fl_RX4_33 dX4_closeSide_40 qC_3 kC_3 fC_4_5 (n := 43) rfl ?_
    refine hg_iconst hC dX4_closeSide_43 hl_i1 (n := 44) rfl ?_
    refine hg_isub hC dX4_closeSide_44 (n := 45) rfl ?_
    obtain ⟨h9, hw⟩ := hw
    refine hg_zald hC dX4_closeSide_45 qC_6 kC_6 h9 (n := 46) rfl ?_
    refine hg_if_ne hC dX4_closeSide_46 (tg := 98) rfl (n := 49) rfl (fun h9 => ?_) (fun h9 => ?_)
    · have hw := hw.1 h9
      exact hg_sub [1, 0] rfl (tbC_X4_closeSide_98 hC hR  v2 σ1 hw)
    · have hw := hw.2 h9
      refine hg_aload_n hC dX4_closeSide_49 rfl 1 rfl (n := 50) rfl ?_
      refine hg_getr hC fl_RX4_22 dX4_closeSide_50 qC_3 kC_3 fC_4_2 rC_3_2 (n := 53) rfl ?_
      refine hg_getr hC fl_RX4_63 dX4_closeSide_53 qC_7 kC_7 fC_3_4 rC_7_4 (n := 56) rfl ?_
      refine hg_iload_n hC dX4_closeSide_56 rfl 0 rfl (n := 57) rfl ?_
      refine hg_aload_n hC dX4_closeSide_57 rfl 1 rfl (n := 58) rfl ?_
      refine hg_getr hC fl_RX4_22 dX4_closeSide_58 qC_3 kC_3 fC_4_2 rC_3_2 (n := 61) rfl ?_
      refine hg_geti hC fl_RX4_45 dX4_closeSide_61 qC_7 kC_7 fC_3_8 (n := 64) rfl ?_
      obtain ⟨h9, hw⟩ := hw
      refine hg_iast hC dX4_closeSide_64 qC_12 kC_12 h9 (n := 65) rfl (fun σ3 eσ3 => ?_)
      have hw := hw σ3 eσ3
      refine hg_aload_n hC dX4_closeSide_65 rfl 1 rfl (n := 66) rfl ?_
      refine hg_cVi hC (tC_X4_nextByte (hg_Eof hC) X.2.1 (d + 0) _ _ hw) sv_RX4_48 dX4_closeSide_66 qC_3 kC_3 c_4 rfl (rest := []) rfl (Nat.le_of_ble_eq_true rfl) (n := 69) rfl (fun r5 σ4 hw => ?_)
      refine hg_bipush hC dX4_closeSide_69 hl_b123 (n := 71) rfl ?_
      refine hg_icmp_ne hC dX4_closeSide_71 (tg := 98) rfl (n := 74) rfl (fun h9 => ?_) (fun h9 => ?_)
      · have hw := hw.1 h9
        exact hg_sub [1, 0] rfl (tbC_X4_closeSide_98 hC hR  v2 σ4 hw)
      · have hw := hw.2 h9
        refine hg_aload_n hC dX4_closeSide_74 rfl 1 rfl (n := 75) rfl ?_
        refine hg_dup hC dX4_closeSide_75 rfl (n := 76) rfl ?_
        refine hg_geti hC fl_RX4_36 dX4_closeSide_76 qC_3 kC_3 fC_4_6 (n := 79) rfl ?_
        refine hg_iconst hC dX4_closeSide_79 hl_i1 (n := 80) rfl ?_
        refine hg_iadd hC dX4_closeSide_80 (n := 81) rfl ?_
        refine hg_puti hC fp_RX4_36 dX4_closeSide_81 qC_3 kC_3 fC_4_6 rfl rfl (n := 84) rfl (fun σ6 eσ6 => ?_)
        have hw := hw σ6 eσ6
        refine hg_aload_n hC dX4_closeSide_84 rfl 1 rfl (n := 85) rfl ?_
        refine hg_getr hC fl_RX4_29 dX4_closeSide_85 qC_3 kC_3 fC_4_4 rC_3_4 (n := 88) rfl ?_
        refine hg_aload_n hC dX4_closeSide_88 rfl 1 rfl (n := 89) rfl ?_
        refine hg_geti hC fl_RX4_33 dX4_closeSide_89 qC_3 kC_3 fC_4_5 (n := 92) rfl ?_
        refine hg_iconst hC dX4_closeSide_92 hl_i1 (n := 93) rfl ?_
        refine hg_isub hC dX4_closeSide_93 (n := 94) rfl ?_
        refine hg_iconst hC dX4_closeSide_94 hl_i1 (n := 95) rfl ?_
        obtain ⟨h9, hw⟩ := hw
        refine hg_zast hC dX4_closeSide_95 qC_6 kC_6 h9 (n := 96) rfl (fun σ7 eσ7 => ?_)
        have hw := hw σ7 eσ7
        refine hg_iconst hC dX4_closeSide_96 hl_i1 (n := 97) rfl ?_
        exact hg_retz hC hR dX4_closeSide_97 hw
  · have hw := hw.2 h9
    refine hg_aload_n hC dX4_closeSide_7 rfl 0 rfl (n := 8) rfl ?_
    refine hg_iconst hC dX4_closeSide_8 hl_i1 (n := 9) rfl ?_
    refine hg_cVi hC (tC_X4_refuse (hg_Eof hC) X.2.1 (d + 0) _ _ _ hw) sv_RX4_52 dX4_closeSide_9 qC_3 kC_3 c_4 rfl (rest := []) rfl (Nat.le_of_ble_eq_true rfl) (n := 12) rfl (fun r9 σ8 hw => ?_)
    exact hg_retz hC hR dX4_closeSide_12 hw
def bC_X4_isVariable_17 (P : Int32 → hg_M → Prop)  (t0 : Int32) (σ : hg_M) : Prop := ((t0 = 0 ∨ t0 = 1) ∧ P t0 σ)
def bC_X4_isVariable_16 (P : Int32 → hg_M → Prop)   (σ : hg_M) : Prop := bC_X4_isVariable_17 P (0 : Int32) σ
def wC_X4_isVariable (x0 : Int32) (σ : hg_M) (P : Int32 → hg_M → Prop) : Prop := ((x0 < (97 : Int32) → bC_X4_isVariable_16 P σ) ∧ (¬ (x0 < (97 : Int32)) → (((113 : Int32) ≤ x0 → bC_X4_isVariable_16 P σ) ∧ (¬ ((113 : Int32) ≤ x0) → bC_X4_isVariable_17 P (1 : Int32) σ))))
set_option maxRecDepth 4000 in
theorem tbC_X4_isVariable_17 {d : Nat} {E : hg_Et} {X : hg_X} {P : Int32 → hg_M → Prop}  (hC : hg_C hg_FC 1 (d + 1) E cX4_isVariable RX4 X) (hR : hg_Rni hg_FC (some .boolean) hg_rC P X)  (t0 : Int32) (σ : hg_M) (hw : bC_X4_isVariable_17 P t0 σ) : hg_G hg_FC 1 X 17 [] [.int t0] σ hg_rC := by
  unfold bC_X4_isVariable_17 at hw
  exact hg_retz hC hR dX4_isVariable_17 hw
set_option maxRecDepth 4000 in
theorem tbC_X4_isVariable_16 {d : Nat} {E : hg_Et} {X : hg_X} {P : Int32 → hg_M → Prop}  (hC : hg_C hg_FC 1 (d + 1) E cX4_isVariable RX4 X) (hR : hg_Rni hg_FC (some .boolean) hg_rC P X)   (σ : hg_M) (hw : bC_X4_isVariable_16 P  σ) : hg_G hg_FC 1 X 16 [] [] σ hg_rC := by
  unfold bC_X4_isVariable_16 at hw
  refine hg_iconst hC dX4_isVariable_16 hl_i0 (n := 17) rfl ?_
  exact tbC_X4_isVariable_17 hC hR  (0 : Int32) σ hw
set_option maxRecDepth 4000 in
theorem tC_X4_isVariable {E : hg_Et} (hE : hg_Eok E) (l : Launch) (d : Nat) (x0 : Int32) (σ : hg_M) (P : Int32 → hg_M → Prop) (hw : wC_X4_isVariable x0 σ P) : hg_Ni hg_FC E l yX4_isVariable cX4_isVariable 1 (some .boolean) (d + 1) (fun ad => [.int x0]) hg_rC σ P := by
  refine hg_ni hE (by decide) (fun _ => Nat.le_of_ble_eq_true rfl) (fun X hC hR hl => ?_)
  subst hl
  have hC : hg_C hg_FC 1 (d + 1) E cX4_isVariable RX4 X := hC
  show hg_G hg_FC 1 X 0 [(0, .int x0)] [] σ hg_rC
  unfold wC_X4_isVariable at hw
  refine hg_iload_n hC dX4_isVariable_0 rfl 0 rfl (n := 1) rfl ?_
  refine hg_bipush hC dX4_isVariable_1 hl_b97 (n := 3) rfl ?_
  refine hg_icmp_lt hC dX4_isVariable_3 (tg := 16) rfl (n := 6) rfl (fun h9 => ?_) (fun h9 => ?_)
  · have hw := hw.1 h9
    exact hg_sub [] rfl (tbC_X4_isVariable_16 hC hR  σ hw)
  · have hw := hw.2 h9
    refine hg_iload_n hC dX4_isVariable_6 rfl 0 rfl (n := 7) rfl ?_
    refine hg_bipush hC dX4_isVariable_7 hl_b113 (n := 9) rfl ?_
    refine hg_icmp_ge hC dX4_isVariable_9 (tg := 16) rfl (n := 12) rfl (fun h9 => ?_) (fun h9 => ?_)
    · have hw := hw.1 h9
      exact hg_sub [] rfl (tbC_X4_isVariable_16 hC hR  σ hw)
    · have hw := hw.2 h9
      refine hg_iconst hC dX4_isVariable_12 hl_i1 (n := 13) rfl ?_
      refine hg_goto hC dX4_isVariable_13 (tg := 17) rfl ?_
      exact hg_sub [] rfl (tbC_X4_isVariable_17 hC hR  (1 : Int32) σ hw)
def bC_X4_isFigure_17 (P : Int32 → hg_M → Prop)  (t0 : Int32) (σ : hg_M) : Prop := ((t0 = 0 ∨ t0 = 1) ∧ P t0 σ)
def bC_X4_isFigure_16 (P : Int32 → hg_M → Prop)   (σ : hg_M) : Prop := bC_X4_isFigure_17 P (0 : Int32) σ
def wC_X4_isFigure (x0 : Int32) (σ : hg_M) (P : Int32 → hg_M → Prop) : Prop := ((x0 < (48 : Int32) → bC_X4_isFigure_16 P σ) ∧ (¬ (x0 < (48 : Int32)) → (((57 : Int32) < x0 → bC_X4_isFigure_16 P σ) ∧ (¬ ((57 : Int32) < x0) → bC_X4_isFigure_17 P (1 : Int32) σ))))
set_option maxRecDepth 4000 in
theorem tbC_X4_isFigure_17 {d : Nat} {E : hg_Et} {X : hg_X} {P : Int32 → hg_M → Prop}  (hC : hg_C hg_FC 1 (d + 1) E cX4_isFigure RX4 X) (hR : hg_Rni hg_FC (some .boolean) hg_rC P X)  (t0 : Int32) (σ : hg_M) (hw : bC_X4_isFigure_17 P t0 σ) : hg_G hg_FC 1 X 17 [] [.int t0] σ hg_rC := by
  unfold bC_X4_isFigure_17 at hw
  exact hg_retz hC hR dX4_isFigure_17 hw
set_option maxRecDepth 4000 in
theorem tbC_X4_isFigure_16 {d : Nat} {E : hg_Et} {X : hg_X} {P : Int32 → hg_M → Prop}  (hC : hg_C hg_FC 1 (d + 1) E cX4_isFigure RX4 X) (hR : hg_Rni hg_FC (some .boolean) hg_rC P X)   (σ : hg_M) (hw : bC_X4_isFigure_16 P  σ) : hg_G hg_FC 1 X 16 [] [] σ hg_rC := by
  unfold bC_X4_isFigure_16 at hw
  refine hg_iconst hC dX4_isFigure_16 hl_i0 (n := 17) rfl ?_
  exact tbC_X4_isFigure_17 hC hR  (0 : Int32) σ hw
set_option maxRecDepth 4000 in
theorem tC_X4_isFigure {E : hg_Et} (hE : hg_Eok E) (l : Launch) (d : Nat) (x0 : Int32) (σ : hg_M) (P : Int32 → hg_M → Prop) (hw : wC_X4_isFigure x0 σ P) : hg_Ni hg_FC E l yX4_isFigure cX4_isFigure 1 (some .boolean) (d + 1) (fun ad => [.int x0]) hg_rC σ P := by
  refine hg_ni hE (by decide) (fun _ => Nat.le_of_ble_eq_true rfl) (fun X hC hR hl => ?_)
  subst hl
  have hC : hg_C hg_FC 1 (d + 1) E cX4_isFigure RX4 X := hC
  show hg_G hg_FC 1 X 0 [(0, .int x0)] [] σ hg_rC
  unfold wC_X4_isFigure at hw
  refine hg_iload_n hC dX4_isFigure_0 rfl 0 rfl (n := 1) rfl ?_
  refine hg_bipush hC dX4_isFigure_1 hl_b48 (n := 3) rfl ?_
  refine hg_icmp_lt hC dX4_isFigure_3 (tg := 16) rfl (n := 6) rfl (fun h9 => ?_) (fun h9 => ?_)
  · have hw := hw.1 h9
    exact hg_sub [] rfl (tbC_X4_isFigure_16 hC hR  σ hw)
  · have hw := hw.2 h9
    refine hg_iload_n hC dX4_isFigure_6 rfl 0 rfl (n := 7) rfl ?_
    refine hg_bipush hC dX4_isFigure_7 hl_b57 (n := 9) rfl ?_
    refine hg_icmp_gt hC dX4_isFigure_9 (tg := 16) rfl (n := 12) rfl (fun h9 => ?_) (fun h9 => ?_)
    · have hw := hw.1 h9
      exact hg_sub [] rfl (tbC_X4_isFigure_16 hC hR  σ hw)
    · have hw := hw.2 h9
      refine hg_iconst hC dX4_isFigure_12 hl_i1 (n := 13) rfl ?_
      refine hg_goto hC dX4_isFigure_13 (tg := 17) rfl ?_
      exact hg_sub [] rfl (tbC_X4_isFigure_17 hC hR  (1 : Int32) σ hw)
def lC_X4_placeIn_2 (i0 : Nat) (P : Int32 → hg_M → Prop)  : Nat → Int32 → Int32 → hg_M → Prop
  | 0, _, _, _ => False
  | n + 1, x1, x2, σ => (((Int32.ofNat (hg_len i0)) ≤ x2 → P (-1 : Int32) σ) ∧ (¬ ((Int32.ofNat (hg_len i0)) ≤ x2) → (vp_in x2 (hg_len i0) ∧ (¬ x2 < 0) ∧ x2 < Int32.ofNat (hg_len i0)) ∧ ((((hg_ch i0 (x2).toNatClampNeg) ≠ x1 → ∀ v1 : Int32, v1 = x2 + (1 : Int32) → lC_X4_placeIn_2 i0 P n x1 v1 σ) ∧ ((hg_ch i0 (x2).toNatClampNeg) = x1 → P x2 σ)))))
def wC_X4_placeIn (i0 : Nat) (x1 : Int32) (σ : hg_M) (P : Int32 → hg_M → Prop) : Prop := (∃ f9, lC_X4_placeIn_2 i0 P f9 x1 (0 : Int32) σ)
set_option maxRecDepth 4000 in
theorem tlC_X4_placeIn_2 {d : Nat} {E : hg_Et} {X : hg_X} {i0 a0 v0 : Nat} {P : Int32 → hg_M → Prop}  (hs0 : hg_Es E i0 a0 v0) (hC : hg_C hg_FC 3 (d + 5) E cX4_placeIn RX4 X) (hR : hg_Rni hg_FC (some .int) hg_rC P X)  (n : Nat) : ∀ (x1 : Int32) (x2 : Int32) (σ : hg_M), lC_X4_placeIn_2 i0 P n x1 x2 σ → hg_G hg_FC 3 X 2 [(0, .ref a0), (1, .int x1), (2, .int x2)] [] σ hg_rC := by
  induction n with
  | zero =>
    intro x1 x2 σ hw
    rw [lC_X4_placeIn_2] at hw
    exact hw.elim
  | succ n ih =>
    intro x1 x2 σ hw
    rw [lC_X4_placeIn_2] at hw
    refine hg_iload_n hC dX4_placeIn_2 rfl 2 rfl (n := 3) rfl ?_
    refine hg_aload_n hC dX4_placeIn_3 rfl 0 rfl (n := 4) rfl ?_
    refine hg_cTi hC (fun A U H h => (hs0 A U H h).1) (ts_length (hg_Eof hC) X.2.1 (d + 2) hs0 σ (fun r s1 => r = (Int32.ofNat (hg_len i0)) ∧ s1 = σ) ⟨rfl, rfl⟩) sv_RX4_132 dX4_placeIn_4 rfl (rest := [.int x2]) rfl (Nat.le_of_ble_eq_true rfl) (n := 7) rfl (fun r9 s9 h8 => ?_)
    rw [h8.1, h8.2]
    refine hg_icmp_ge hC dX4_placeIn_7 (tg := 27) rfl (n := 10) rfl (fun h9 => ?_) (fun h9 => ?_)
    · have hw := hw.1 h9
      refine hg_iconst hC dX4_placeIn_27 hl_im1 (n := 28) rfl ?_
      exact hg_reti hC hR dX4_placeIn_28 hw
    · have hw := hw.2 h9
      refine hg_aload_n hC dX4_placeIn_10 rfl 0 rfl (n := 11) rfl ?_
      refine hg_iload_n hC dX4_placeIn_11 rfl 2 rfl (n := 12) rfl ?_
      obtain ⟨h9, hw⟩ := hw
      refine hg_cTi hC (fun A U H h => (hs0 A U H h).1) (ts_charAt (hg_Eof hC) X.2.1 (d + 0) hs0 x2 σ (fun r s1 => r = (hg_ch i0 (x2).toNatClampNeg) ∧ s1 = σ) h9.1 (hg_chn _ _) h9.2.1 h9.2.2 ⟨rfl, rfl⟩) sv_RX4_136 dX4_placeIn_12 rfl (rest := []) rfl (Nat.le_of_ble_eq_true rfl) (n := 15) rfl (fun r9 s9 h8 => ?_)
      rw [h8.1, h8.2]
      refine hg_iload_n hC dX4_placeIn_15 rfl 1 rfl (n := 16) rfl ?_
      refine hg_icmp_ne hC dX4_placeIn_16 (tg := 21) rfl (n := 19) rfl (fun h9 => ?_) (fun h9 => ?_)
      · have hw := hw.1 h9
        obtain ⟨v1, ev1⟩ : ∃ z, z = x2 + (1 : Int32) := ⟨_, rfl⟩
        have hw := hw v1 ev1
        refine hg_iinc hC (v := v1) (L1 := [(2, .int v1), (0, .ref a0), (1, .int x1)]) dX4_placeIn_21 2 rfl (by rw [hl_i1, ev1]) (by decide) rfl (n := 24) rfl ?_
        refine hg_goto hC dX4_placeIn_24 (tg := 2) rfl ?_
        exact hg_sub [1, 2, 0] rfl (ih x1 v1 σ hw)
      · have hw := hw.2 h9
        refine hg_iload_n hC dX4_placeIn_19 rfl 2 rfl (n := 20) rfl ?_
        exact hg_reti hC hR dX4_placeIn_20 hw
set_option maxRecDepth 4000 in
theorem tC_X4_placeIn {E : hg_Et} (hE : hg_Eok E) (l : Launch) (d : Nat) {i0 a0 v0 : Nat} (hs0 : hg_Es E i0 a0 v0) (x1 : Int32) (σ : hg_M) (P : Int32 → hg_M → Prop) (hw : wC_X4_placeIn i0 x1 σ P) : hg_Ni hg_FC E l yX4_placeIn cX4_placeIn 3 (some .int) (d + 5) (fun ad => [.ref a0, .int x1]) hg_rC σ P := by
  refine hg_ni hE (by decide) (fun _ => Nat.le_of_ble_eq_true rfl) (fun X hC hR hl => ?_)
  subst hl
  have hC : hg_C hg_FC 3 (d + 5) E cX4_placeIn RX4 X := hC
  show hg_G hg_FC 3 X 0 [(0, .ref a0), (1, .int x1)] [] σ hg_rC
  unfold wC_X4_placeIn at hw
  refine hg_iconst hC dX4_placeIn_0 hl_i0 (n := 1) rfl ?_
  refine hg_istore_n hC (L1 := [(2, .int (0 : Int32)), (0, .ref a0), (1, .int x1)]) dX4_placeIn_1 rfl (by decide) rfl (n := 2) rfl ?_
  obtain ⟨n9, hw⟩ := hw
  exact hg_sub [1, 2, 0] rfl (tlC_X4_placeIn_2 hs0 hC hR  n9 x1 (0 : Int32) σ hw)
def bC_X2_convertedBranches_25 (P : Int32 → hg_M → Prop) (J4 : Int32 → Int32 → hg_M → Prop) (x2 : Int32) (t0 : Int32) (t1 : Int32) (σ : hg_M) : Prop := ∀ v1 : Int32, v1 = (t0 + t1) → ∀ v2 : Int32, v2 = x2 + (1 : Int32) → J4 v1 v2 σ
def lC_X2_convertedBranches_4 (P : Int32 → hg_M → Prop)  : Nat → Int32 → Int32 → hg_M → Prop
  | 0, _, _, _ => False
  | n + 1, x1, x2, σ => (((60 : Int32) ≤ x2 → P x1 σ) ∧ (¬ ((60 : Int32) ≤ x2) → vp_in x2 60 ∧ ((((σ 26 (x2).toNatClampNeg) = 0 → bC_X2_convertedBranches_25 P (fun k0 k1 k2 => lC_X2_convertedBranches_4 P n k0 k1 k2) x2 x1 (0 : Int32) σ) ∧ (¬ (σ 26 (x2).toNatClampNeg) = 0 → bC_X2_convertedBranches_25 P (fun k0 k1 k2 => lC_X2_convertedBranches_4 P n k0 k1 k2) x2 x1 (1 : Int32) σ)))))
def wC_X2_convertedBranches  (σ : hg_M) (P : Int32 → hg_M → Prop) : Prop := (∃ f9, lC_X2_convertedBranches_4 P f9 (0 : Int32) (0 : Int32) σ)
set_option maxRecDepth 4000 in
theorem tbC_X2_convertedBranches_25 {d : Nat} {E : hg_Et} {X : hg_X} {P : Int32 → hg_M → Prop} {J4 : Int32 → Int32 → hg_M → Prop} (hC : hg_C hg_FC 3 (d + 1) E cX2_convertedBranches RX2 X) (hR : hg_Rni hg_FC (some .int) hg_rC P X) (hJ4 : ∀ (x1 : Int32) (x2 : Int32) (σ : hg_M), J4 x1 x2 σ → hg_G hg_FC 3 X 4 [(0, .ref (hg_ad X 25)), (1, .int x1), (2, .int x2)] [] σ hg_rC) (x2 : Int32) (t0 : Int32) (t1 : Int32) (σ : hg_M) (hw : bC_X2_convertedBranches_25 P J4 x2 t0 t1 σ) : hg_G hg_FC 3 X 25 [(0, .ref (hg_ad X 25)), (2, .int x2)] [.int t1, .int t0] σ hg_rC := by
  unfold bC_X2_convertedBranches_25 at hw
  refine hg_iadd hC dX2_convertedBranches_25 (n := 26) rfl ?_
  refine hg_topi (fun v1 ev1 => ?_)
  have hw := hw v1 ev1
  refine hg_istore_n hC (L1 := [(1, .int v1), (0, .ref (hg_ad X 25)), (2, .int x2)]) dX2_convertedBranches_26 rfl (by decide) rfl (n := 27) rfl ?_
  obtain ⟨v2, ev2⟩ : ∃ z, z = x2 + (1 : Int32) := ⟨_, rfl⟩
  have hw := hw v2 ev2
  refine hg_iinc hC (v := v2) (L1 := [(2, .int v2), (1, .int v1), (0, .ref (hg_ad X 25))]) dX2_convertedBranches_27 2 rfl (by rw [hl_i1, ev2]) (by decide) rfl (n := 30) rfl ?_
  refine hg_goto hC dX2_convertedBranches_30 (tg := 4) rfl ?_
  exact hg_sub [2, 1, 0] rfl (hJ4 v1 v2 σ hw)
set_option maxRecDepth 4000 in
theorem tlC_X2_convertedBranches_4 {d : Nat} {E : hg_Et} {X : hg_X} {P : Int32 → hg_M → Prop}  (hC : hg_C hg_FC 3 (d + 1) E cX2_convertedBranches RX2 X) (hR : hg_Rni hg_FC (some .int) hg_rC P X)  (n : Nat) : ∀ (x1 : Int32) (x2 : Int32) (σ : hg_M), lC_X2_convertedBranches_4 P n x1 x2 σ → hg_G hg_FC 3 X 4 [(0, .ref (hg_ad X 25)), (1, .int x1), (2, .int x2)] [] σ hg_rC := by
  induction n with
  | zero =>
    intro x1 x2 σ hw
    rw [lC_X2_convertedBranches_4] at hw
    exact hw.elim
  | succ n ih =>
    intro x1 x2 σ hw
    rw [lC_X2_convertedBranches_4] at hw
    refine hg_iload_n hC dX2_convertedBranches_4 rfl 2 rfl (n := 5) rfl ?_
    refine hg_bipush hC dX2_convertedBranches_5 hl_b60 (n := 7) rfl ?_
    refine hg_icmp_ge hC dX2_convertedBranches_7 (tg := 33) rfl (n := 10) rfl (fun h9 => ?_) (fun h9 => ?_)
    · have hw := hw.1 h9
      refine hg_iload_n hC dX2_convertedBranches_33 rfl 1 rfl (n := 34) rfl ?_
      exact hg_reti hC hR dX2_convertedBranches_34 hw
    · have hw := hw.2 h9
      refine hg_iload_n hC dX2_convertedBranches_10 rfl 1 rfl (n := 11) rfl ?_
      refine hg_aload_n hC dX2_convertedBranches_11 rfl 0 rfl (n := 12) rfl ?_
      refine hg_getr hC fl_RX2_18 dX2_convertedBranches_12 qC_25 kC_25 fC_2_1 rC_25_1 (n := 15) rfl ?_
      refine hg_iload_n hC dX2_convertedBranches_15 rfl 2 rfl (n := 16) rfl ?_
      obtain ⟨h9, hw⟩ := hw
      refine hg_zald hC dX2_convertedBranches_16 qC_26 kC_26 h9 (n := 17) rfl ?_
      refine hg_if_eq hC dX2_convertedBranches_17 (tg := 24) rfl (n := 20) rfl (fun h9 => ?_) (fun h9 => ?_)
      · have hw := hw.1 h9
        refine hg_iconst hC dX2_convertedBranches_24 hl_i0 (n := 25) rfl ?_
        exact hg_sub [0, 2] rfl (tbC_X2_convertedBranches_25 hC hR ih x2 x1 (0 : Int32) σ hw)
      · have hw := hw.2 h9
        refine hg_iconst hC dX2_convertedBranches_20 hl_i1 (n := 21) rfl ?_
        refine hg_goto hC dX2_convertedBranches_21 (tg := 25) rfl ?_
        exact hg_sub [0, 2] rfl (tbC_X2_convertedBranches_25 hC hR ih x2 x1 (1 : Int32) σ hw)
set_option maxRecDepth 4000 in
theorem tC_X2_convertedBranches {E : hg_Et} (hE : hg_Eok E) (l : Launch) (d : Nat)  (σ : hg_M) (P : Int32 → hg_M → Prop) (hw : wC_X2_convertedBranches  σ P) : hg_Ni hg_FC E l yX2_convertedBranches cX2_convertedBranches 3 (some .int) (d + 1) (fun ad => [.ref (ad 25)]) hg_rC σ P := by
  refine hg_ni hE (by decide) (fun _ => Nat.le_of_ble_eq_true rfl) (fun X hC hR hl => ?_)
  subst hl
  have hC : hg_C hg_FC 3 (d + 1) E cX2_convertedBranches RX2 X := hC
  show hg_G hg_FC 3 X 0 [(0, .ref (hg_ad X 25))] [] σ hg_rC
  unfold wC_X2_convertedBranches at hw
  refine hg_iconst hC dX2_convertedBranches_0 hl_i0 (n := 1) rfl ?_
  refine hg_istore_n hC (L1 := [(1, .int (0 : Int32)), (0, .ref (hg_ad X 25))]) dX2_convertedBranches_1 rfl (by decide) rfl (n := 2) rfl ?_
  refine hg_iconst hC dX2_convertedBranches_2 hl_i0 (n := 3) rfl ?_
  refine hg_istore_n hC (L1 := [(2, .int (0 : Int32)), (1, .int (0 : Int32)), (0, .ref (hg_ad X 25))]) dX2_convertedBranches_3 rfl (by decide) rfl (n := 4) rfl ?_
  obtain ⟨n9, hw⟩ := hw
  exact hg_sub [2, 1, 0] rfl (tlC_X2_convertedBranches_4 hC hR  n9 (0 : Int32) (0 : Int32) σ hw)
def lC_X2_beginCode_14 (P : hg_M → Prop)  : Nat → Int32 → hg_M → Prop
  | 0, _, _ => False
  | n + 1, x1, σ => (((16 : Int32) ≤ x1 → P σ) ∧ (¬ ((16 : Int32) ≤ x1) → vp_in x1 16 ∧ (∀ σ3 : hg_M, σ3 = hg_set σ 27 (x1).toNatClampNeg x1 → ∀ v4 : Int32, v4 = x1 + (1 : Int32) → lC_X2_beginCode_14 P n v4 σ3)))
def wC_X2_beginCode  (σ : hg_M) (P : hg_M → Prop) : Prop := wC_X0_clear σ (fun σ1 => ∀ σ2 : hg_M, σ2 = hg_set σ1 25 5 (-1 : Int32) → (∃ f9, lC_X2_beginCode_14 P f9 (0 : Int32) σ2))
set_option maxRecDepth 4000 in
theorem tlC_X2_beginCode_14 {d : Nat} {E : hg_Et} {X : hg_X} {P : hg_M → Prop}  (hC : hg_C hg_FC 2 (d + 2) E cX2_beginCode RX2 X) (hR : hg_Rnv hg_FC hg_rC P X)  (n : Nat) : ∀ (x1 : Int32) (σ : hg_M), lC_X2_beginCode_14 P n x1 σ → hg_G hg_FC 2 X 14 [(0, .ref (hg_ad X 25)), (1, .int x1)] [] σ hg_rC := by
  induction n with
  | zero =>
    intro x1 σ hw
    rw [lC_X2_beginCode_14] at hw
    exact hw.elim
  | succ n ih =>
    intro x1 σ hw
    rw [lC_X2_beginCode_14] at hw
    refine hg_iload_n hC dX2_beginCode_14 rfl 1 rfl (n := 15) rfl ?_
    refine hg_bipush hC dX2_beginCode_15 hl_b16 (n := 17) rfl ?_
    refine hg_icmp_ge hC dX2_beginCode_17 (tg := 33) rfl (n := 20) rfl (fun h9 => ?_) (fun h9 => ?_)
    · have hw := hw.1 h9
      exact hg_retv hC hR dX2_beginCode_33 hw
    · have hw := hw.2 h9
      refine hg_aload_n hC dX2_beginCode_20 rfl 0 rfl (n := 21) rfl ?_
      refine hg_getr hC fl_RX2_22 dX2_beginCode_21 qC_25 kC_25 fC_2_2 rC_25_2 (n := 24) rfl ?_
      refine hg_iload_n hC dX2_beginCode_24 rfl 1 rfl (n := 25) rfl ?_
      refine hg_iload_n hC dX2_beginCode_25 rfl 1 rfl (n := 26) rfl ?_
      obtain ⟨h9, hw⟩ := hw
      refine hg_iast hC dX2_beginCode_26 qC_27 kC_27 h9 (n := 27) rfl (fun σ3 eσ3 => ?_)
      have hw := hw σ3 eσ3
      obtain ⟨v4, ev4⟩ : ∃ z, z = x1 + (1 : Int32) := ⟨_, rfl⟩
      have hw := hw v4 ev4
      refine hg_iinc hC (v := v4) (L1 := [(1, .int v4), (0, .ref (hg_ad X 25))]) dX2_beginCode_27 1 rfl (by rw [hl_i1, ev4]) (by decide) rfl (n := 30) rfl ?_
      refine hg_goto hC dX2_beginCode_30 (tg := 14) rfl ?_
      exact hg_sub [1, 0] rfl (ih v4 σ3 hw)
set_option maxRecDepth 4000 in
theorem tC_X2_beginCode {E : hg_Et} (hE : hg_Eok E) (l : Launch) (d : Nat)  (σ : hg_M) (P : hg_M → Prop) (hw : wC_X2_beginCode  σ P) : hg_Nv hg_FC E l yX2_beginCode cX2_beginCode 2 (d + 2) (fun ad => [.ref (ad 25)]) hg_rC σ P := by
  refine hg_nv hE (by decide) (fun _ => Nat.le_of_ble_eq_true rfl) (fun X hC hR hl => ?_)
  subst hl
  have hC : hg_C hg_FC 2 (d + 2) E cX2_beginCode RX2 X := hC
  show hg_G hg_FC 2 X 0 [(0, .ref (hg_ad X 25))] [] σ hg_rC
  unfold wC_X2_beginCode at hw
  refine hg_aload_n hC dX2_beginCode_0 rfl 0 rfl (n := 1) rfl ?_
  refine hg_getr hC fl_RX2_12 dX2_beginCode_1 qC_25 kC_25 fC_2_0 rC_25_0 (n := 4) rfl ?_
  refine hg_cVv hC (tC_X0_clear (hg_Eof hC) X.2.1 (d + 0) _ _ hw) sv_RX2_61 dX2_beginCode_4 qC_42 kC_42 c_0 rfl (rest := []) rfl (Nat.le_of_ble_eq_true rfl) (n := 7) rfl (fun σ1 hw => ?_)
  refine hg_aload_n hC dX2_beginCode_7 rfl 0 rfl (n := 8) rfl ?_
  refine hg_iconst hC dX2_beginCode_8 hl_im1 (n := 9) rfl ?_
  refine hg_puti hC fp_RX2_34 dX2_beginCode_9 qC_25 kC_25 fC_2_5 rfl rfl (n := 12) rfl (fun σ2 eσ2 => ?_)
  have hw := hw σ2 eσ2
  refine hg_iconst hC dX2_beginCode_12 hl_i0 (n := 13) rfl ?_
  refine hg_istore_n hC (L1 := [(1, .int (0 : Int32)), (0, .ref (hg_ad X 25))]) dX2_beginCode_13 rfl (by decide) rfl (n := 14) rfl ?_
  obtain ⟨n9, hw⟩ := hw
  exact hg_sub [1, 0] rfl (tlC_X2_beginCode_14 hC hR  n9 (0 : Int32) σ2 hw)
def bC_X2_mayConvert_78 (P : Int32 → hg_M → Prop)  (t0 : Int32) (σ : hg_M) : Prop := ((t0 = 0 ∨ t0 = 1) ∧ P t0 σ)
def bC_X2_mayConvert_55 (P : Int32 → hg_M → Prop)   (σ : hg_M) : Prop := (((0 : Int32) = 0 ∨ (0 : Int32) = 1) ∧ P (0 : Int32) σ)
def bC_X2_mayConvert_38 (P : Int32 → hg_M → Prop) (J4 : Int32 → Int32 → hg_M → Prop) (x2 : Int32) (x3 : Int32) (t0 : Int32) (σ : hg_M) : Prop := ((t0 ≠ 0 → bC_X2_mayConvert_55 P σ) ∧ (t0 = 0 → vp_in x3 60 ∧ ((((σ 17 (x3).toNatClampNeg) ≠ (4 : Int32) → ∀ v2 : Int32, v2 = x3 + (1 : Int32) → J4 x2 v2 σ) ∧ ((σ 17 (x3).toNatClampNeg) = (4 : Int32) → bC_X2_mayConvert_55 P σ)))))
def bC_X2_mayConvert_37 (P : Int32 → hg_M → Prop) (J4 : Int32 → Int32 → hg_M → Prop) (x2 : Int32) (x3 : Int32) (σ : hg_M) : Prop := bC_X2_mayConvert_38 P J4 x2 x3 (0 : Int32) σ
def lC_X2_mayConvert_4 (P : Int32 → hg_M → Prop)  : Nat → Int32 → Int32 → hg_M → Prop
  | 0, _, _, _ => False
  | n + 1, x2, x3, σ => vp_in x2 60 ∧ ((((σ 22 (x2).toNatClampNeg) ≤ x3 → vp_in x2 60 ∧ ((((σ 17 (x2).toNatClampNeg) ≠ (5 : Int32) → bC_X2_mayConvert_78 P (0 : Int32) σ) ∧ ((σ 17 (x2).toNatClampNeg) = (5 : Int32) → bC_X2_mayConvert_78 P (1 : Int32) σ)))) ∧ (¬ ((σ 22 (x2).toNatClampNeg) ≤ x3) → vp_in x3 60 ∧ ((((σ 17 (x3).toNatClampNeg) ≠ (5 : Int32) → bC_X2_mayConvert_37 P (fun k0 k1 k2 => lC_X2_mayConvert_4 P n k0 k1 k2) x2 x3 σ) ∧ ((σ 17 (x3).toNatClampNeg) = (5 : Int32) → vp_in x3 60 ∧ ((((σ 26 (x3).toNatClampNeg) ≠ 0 → bC_X2_mayConvert_37 P (fun k0 k1 k2 => lC_X2_mayConvert_4 P n k0 k1 k2) x2 x3 σ) ∧ ((σ 26 (x3).toNatClampNeg) = 0 → bC_X2_mayConvert_38 P (fun k0 k1 k2 => lC_X2_mayConvert_4 P n k0 k1 k2) x2 x3 (1 : Int32) σ)))))))))
def wC_X2_mayConvert (x2 : Int32) (σ : hg_M) (P : Int32 → hg_M → Prop) : Prop := ∀ v1 : Int32, v1 = (x2 + (1 : Int32)) → (∃ f9, lC_X2_mayConvert_4 P f9 x2 v1 σ)
set_option maxRecDepth 4000 in
theorem tbC_X2_mayConvert_78 {d : Nat} {E : hg_Et} {X : hg_X} {P : Int32 → hg_M → Prop}  (hC : hg_C hg_FC 5 (d + 1) E cX2_mayConvert RX2 X) (hR : hg_Rni hg_FC (some .boolean) hg_rC P X)  (t0 : Int32) (σ : hg_M) (hw : bC_X2_mayConvert_78 P t0 σ) : hg_G hg_FC 5 X 78 [] [.int t0] σ hg_rC := by
  unfold bC_X2_mayConvert_78 at hw
  exact hg_retz hC hR dX2_mayConvert_78 hw
set_option maxRecDepth 4000 in
theorem tbC_X2_mayConvert_55 {d : Nat} {E : hg_Et} {X : hg_X} {P : Int32 → hg_M → Prop}  (hC : hg_C hg_FC 5 (d + 1) E cX2_mayConvert RX2 X) (hR : hg_Rni hg_FC (some .boolean) hg_rC P X)   (σ : hg_M) (hw : bC_X2_mayConvert_55 P  σ) : hg_G hg_FC 5 X 55 [] [] σ hg_rC := by
  unfold bC_X2_mayConvert_55 at hw
  refine hg_iconst hC dX2_mayConvert_55 hl_i0 (n := 56) rfl ?_
  exact hg_retz hC hR dX2_mayConvert_56 hw
set_option maxRecDepth 4000 in
theorem tbC_X2_mayConvert_38 {d : Nat} {E : hg_Et} {X : hg_X} {P : Int32 → hg_M → Prop} {J4 : Int32 → Int32 → hg_M → Prop} (hC : hg_C hg_FC 5 (d + 1) E cX2_mayConvert RX2 X) (hR : hg_Rni hg_FC (some .boolean) hg_rC P X) (hJ4 : ∀ (x2 : Int32) (x3 : Int32) (σ : hg_M), J4 x2 x3 σ → hg_G hg_FC 5 X 4 [(0, .ref (hg_ad X 25)), (1, .ref (hg_ad X 16)), (2, .int x2), (3, .int x3)] [] σ hg_rC) (x2 : Int32) (x3 : Int32) (t0 : Int32) (σ : hg_M) (hw : bC_X2_mayConvert_38 P J4 x2 x3 t0 σ) : hg_G hg_FC 5 X 38 [(0, .ref (hg_ad X 25)), (1, .ref (hg_ad X 16)), (2, .int x2), (3, .int x3)] [.int t0] σ hg_rC := by
  unfold bC_X2_mayConvert_38 at hw
  refine hg_istore hC (L1 := [(4, .int t0), (0, .ref (hg_ad X 25)), (1, .ref (hg_ad X 16)), (2, .int x2), (3, .int x3)]) dX2_mayConvert_38 (by decide) rfl (n := 40) rfl ?_
  refine hg_iload hC dX2_mayConvert_40 0 rfl (n := 42) rfl ?_
  refine hg_if_ne hC dX2_mayConvert_42 (tg := 55) rfl (n := 45) rfl (fun h9 => ?_) (fun h9 => ?_)
  · have hw := hw.1 h9
    exact hg_sub [] rfl (tbC_X2_mayConvert_55 hC hR  σ hw)
  · have hw := hw.2 h9
    refine hg_aload_n hC dX2_mayConvert_45 rfl 2 rfl (n := 46) rfl ?_
    refine hg_getr hC fl_RX2_67 dX2_mayConvert_46 qC_16 kC_16 fC_3_0 rC_16_0 (n := 49) rfl ?_
    refine hg_iload_n hC dX2_mayConvert_49 rfl 4 rfl (n := 50) rfl ?_
    obtain ⟨h9, hw⟩ := hw
    refine hg_iald hC dX2_mayConvert_50 qC_17 kC_17 h9 (n := 51) rfl ?_
    refine hg_iconst hC dX2_mayConvert_51 hl_i4 (n := 52) rfl ?_
    refine hg_icmp_ne hC dX2_mayConvert_52 (tg := 57) rfl (n := 55) rfl (fun h9 => ?_) (fun h9 => ?_)
    · have hw := hw.1 h9
      obtain ⟨v2, ev2⟩ : ∃ z, z = x3 + (1 : Int32) := ⟨_, rfl⟩
      have hw := hw v2 ev2
      refine hg_iinc hC (v := v2) (L1 := [(3, .int v2), (4, .int t0), (0, .ref (hg_ad X 25)), (1, .ref (hg_ad X 16)), (2, .int x2)]) dX2_mayConvert_57 4 rfl (by rw [hl_i1, ev2]) (by decide) rfl (n := 60) rfl ?_
      refine hg_goto hC dX2_mayConvert_60 (tg := 4) rfl ?_
      exact hg_sub [2, 3, 4, 0] rfl (hJ4 x2 v2 σ hw)
    · have hw := hw.2 h9
      exact hg_sub [] rfl (tbC_X2_mayConvert_55 hC hR  σ hw)
set_option maxRecDepth 4000 in
theorem tbC_X2_mayConvert_37 {d : Nat} {E : hg_Et} {X : hg_X} {P : Int32 → hg_M → Prop} {J4 : Int32 → Int32 → hg_M → Prop} (hC : hg_C hg_FC 5 (d + 1) E cX2_mayConvert RX2 X) (hR : hg_Rni hg_FC (some .boolean) hg_rC P X) (hJ4 : ∀ (x2 : Int32) (x3 : Int32) (σ : hg_M), J4 x2 x3 σ → hg_G hg_FC 5 X 4 [(0, .ref (hg_ad X 25)), (1, .ref (hg_ad X 16)), (2, .int x2), (3, .int x3)] [] σ hg_rC) (x2 : Int32) (x3 : Int32) (σ : hg_M) (hw : bC_X2_mayConvert_37 P J4 x2 x3 σ) : hg_G hg_FC 5 X 37 [(0, .ref (hg_ad X 25)), (1, .ref (hg_ad X 16)), (2, .int x2), (3, .int x3)] [] σ hg_rC := by
  unfold bC_X2_mayConvert_37 at hw
  refine hg_iconst hC dX2_mayConvert_37 hl_i0 (n := 38) rfl ?_
  exact tbC_X2_mayConvert_38 hC hR hJ4 x2 x3 (0 : Int32) σ hw
set_option maxRecDepth 4000 in
theorem tlC_X2_mayConvert_4 {d : Nat} {E : hg_Et} {X : hg_X} {P : Int32 → hg_M → Prop}  (hC : hg_C hg_FC 5 (d + 1) E cX2_mayConvert RX2 X) (hR : hg_Rni hg_FC (some .boolean) hg_rC P X)  (n : Nat) : ∀ (x2 : Int32) (x3 : Int32) (σ : hg_M), lC_X2_mayConvert_4 P n x2 x3 σ → hg_G hg_FC 5 X 4 [(0, .ref (hg_ad X 25)), (1, .ref (hg_ad X 16)), (2, .int x2), (3, .int x3)] [] σ hg_rC := by
  induction n with
  | zero =>
    intro x2 x3 σ hw
    rw [lC_X2_mayConvert_4] at hw
    exact hw.elim
  | succ n ih =>
    intro x2 x3 σ hw
    rw [lC_X2_mayConvert_4] at hw
    refine hg_iload_n hC dX2_mayConvert_4 rfl 3 rfl (n := 5) rfl ?_
    refine hg_aload_n hC dX2_mayConvert_5 rfl 1 rfl (n := 6) rfl ?_
    refine hg_getr hC fl_RX2_64 dX2_mayConvert_6 qC_16 kC_16 fC_3_5 rC_16_5 (n := 9) rfl ?_
    refine hg_iload_n hC dX2_mayConvert_9 rfl 2 rfl (n := 10) rfl ?_
    obtain ⟨h9, hw⟩ := hw
    refine hg_iald hC dX2_mayConvert_10 qC_22 kC_22 h9 (n := 11) rfl ?_
    refine hg_icmp_ge hC dX2_mayConvert_11 (tg := 63) rfl (n := 14) rfl (fun h9 => ?_) (fun h9 => ?_)
    · have hw := hw.1 h9
      refine hg_aload_n hC dX2_mayConvert_63 rfl 1 rfl (n := 64) rfl ?_
      refine hg_getr hC fl_RX2_67 dX2_mayConvert_64 qC_16 kC_16 fC_3_0 rC_16_0 (n := 67) rfl ?_
      refine hg_iload_n hC dX2_mayConvert_67 rfl 2 rfl (n := 68) rfl ?_
      obtain ⟨h9, hw⟩ := hw
      refine hg_iald hC dX2_mayConvert_68 qC_17 kC_17 h9 (n := 69) rfl ?_
      refine hg_iconst hC dX2_mayConvert_69 hl_i5 (n := 70) rfl ?_
      refine hg_icmp_ne hC dX2_mayConvert_70 (tg := 77) rfl (n := 73) rfl (fun h9 => ?_) (fun h9 => ?_)
      · have hw := hw.1 h9
        refine hg_iconst hC dX2_mayConvert_77 hl_i0 (n := 78) rfl ?_
        exact hg_sub [] rfl (tbC_X2_mayConvert_78 hC hR  (0 : Int32) σ hw)
      · have hw := hw.2 h9
        refine hg_iconst hC dX2_mayConvert_73 hl_i1 (n := 74) rfl ?_
        refine hg_goto hC dX2_mayConvert_74 (tg := 78) rfl ?_
        exact hg_sub [] rfl (tbC_X2_mayConvert_78 hC hR  (1 : Int32) σ hw)
    · have hw := hw.2 h9
      refine hg_aload_n hC dX2_mayConvert_14 rfl 1 rfl (n := 15) rfl ?_
      refine hg_getr hC fl_RX2_67 dX2_mayConvert_15 qC_16 kC_16 fC_3_0 rC_16_0 (n := 18) rfl ?_
      refine hg_iload_n hC dX2_mayConvert_18 rfl 3 rfl (n := 19) rfl ?_
      obtain ⟨h9, hw⟩ := hw
      refine hg_iald hC dX2_mayConvert_19 qC_17 kC_17 h9 (n := 20) rfl ?_
      refine hg_iconst hC dX2_mayConvert_20 hl_i5 (n := 21) rfl ?_
      refine hg_icmp_ne hC dX2_mayConvert_21 (tg := 37) rfl (n := 24) rfl (fun h9 => ?_) (fun h9 => ?_)
      · have hw := hw.1 h9
        exact tbC_X2_mayConvert_37 hC hR ih x2 x3 σ hw
      · have hw := hw.2 h9
        refine hg_aload_n hC dX2_mayConvert_24 rfl 0 rfl (n := 25) rfl ?_
        refine hg_getr hC fl_RX2_18 dX2_mayConvert_25 qC_25 kC_25 fC_2_1 rC_25_1 (n := 28) rfl ?_
        refine hg_iload_n hC dX2_mayConvert_28 rfl 3 rfl (n := 29) rfl ?_
        obtain ⟨h9, hw⟩ := hw
        refine hg_zald hC dX2_mayConvert_29 qC_26 kC_26 h9 (n := 30) rfl ?_
        refine hg_if_ne hC dX2_mayConvert_30 (tg := 37) rfl (n := 33) rfl (fun h9 => ?_) (fun h9 => ?_)
        · have hw := hw.1 h9
          exact tbC_X2_mayConvert_37 hC hR ih x2 x3 σ hw
        · have hw := hw.2 h9
          refine hg_iconst hC dX2_mayConvert_33 hl_i1 (n := 34) rfl ?_
          refine hg_goto hC dX2_mayConvert_34 (tg := 38) rfl ?_
          exact tbC_X2_mayConvert_38 hC hR ih x2 x3 (1 : Int32) σ hw
set_option maxRecDepth 4000 in
theorem tC_X2_mayConvert {E : hg_Et} (hE : hg_Eok E) (l : Launch) (d : Nat) (x2 : Int32) (σ : hg_M) (P : Int32 → hg_M → Prop) (hw : wC_X2_mayConvert x2 σ P) : hg_Ni hg_FC E l yX2_mayConvert cX2_mayConvert 5 (some .boolean) (d + 1) (fun ad => [.ref (ad 25), .ref (ad 16), .int x2]) hg_rC σ P := by
  refine hg_ni hE (by decide) (fun _ => Nat.le_of_ble_eq_true rfl) (fun X hC hR hl => ?_)
  subst hl
  have hC : hg_C hg_FC 5 (d + 1) E cX2_mayConvert RX2 X := hC
  show hg_G hg_FC 5 X 0 [(0, .ref (hg_ad X 25)), (1, .ref (hg_ad X 16)), (2, .int x2)] [] σ hg_rC
  unfold wC_X2_mayConvert at hw
  refine hg_iload_n hC dX2_mayConvert_0 rfl 2 rfl (n := 1) rfl ?_
  refine hg_iconst hC dX2_mayConvert_1 hl_i1 (n := 2) rfl ?_
  refine hg_iadd hC dX2_mayConvert_2 (n := 3) rfl ?_
  refine hg_topi (fun v1 ev1 => ?_)
  have hw := hw v1 ev1
  refine hg_istore_n hC (L1 := [(3, .int v1), (0, .ref (hg_ad X 25)), (1, .ref (hg_ad X 16)), (2, .int x2)]) dX2_mayConvert_3 rfl (by decide) rfl (n := 4) rfl ?_
  obtain ⟨n9, hw⟩ := hw
  exact hg_sub [1, 2, 3, 0] rfl (tlC_X2_mayConvert_4 hC hR  n9 x2 v1 σ hw)
def bC_X2_valueRegister_37 (P : Int32 → hg_M → Prop)  (t0 : Int32) (σ : hg_M) : Prop := P t0 σ
def wC_X2_valueRegister (x2 : Int32) (σ : hg_M) (P : Int32 → hg_M → Prop) : Prop := vp_in x2 120 ∧ (∀ v1 : Int32, v1 = (σ 24 (x2).toNatClampNeg) → vp_in x2 120 ∧ ((((σ 23 (x2).toNatClampNeg) = 0 → wC_X0_add (0 : Int32) (-1 : Int32) v1 (0 : Int32) (0 : Int32) σ (fun r3 σ2 => bC_X2_valueRegister_37 P r3 σ2)) ∧ (¬ (σ 23 (x2).toNatClampNeg) = 0 → vp_in v1 16 ∧ (bC_X2_valueRegister_37 P (σ 27 (v1).toNatClampNeg) σ)))))
set_option maxRecDepth 4000 in
theorem tbC_X2_valueRegister_37 {d : Nat} {E : hg_Et} {X : hg_X} {P : Int32 → hg_M → Prop}  (hC : hg_C hg_FC 4 (d + 2) E cX2_valueRegister RX2 X) (hR : hg_Rni hg_FC (some .int) hg_rC P X)  (t0 : Int32) (σ : hg_M) (hw : bC_X2_valueRegister_37 P t0 σ) : hg_G hg_FC 4 X 37 [] [.int t0] σ hg_rC := by
  unfold bC_X2_valueRegister_37 at hw
  exact hg_reti hC hR dX2_valueRegister_37 hw
set_option maxRecDepth 4000 in
theorem tC_X2_valueRegister {E : hg_Et} (hE : hg_Eok E) (l : Launch) (d : Nat) (x2 : Int32) (σ : hg_M) (P : Int32 → hg_M → Prop) (hw : wC_X2_valueRegister x2 σ P) : hg_Ni hg_FC E l yX2_valueRegister cX2_valueRegister 4 (some .int) (d + 2) (fun ad => [.ref (ad 25), .ref (ad 16), .int x2]) hg_rC σ P := by
  refine hg_ni hE (by decide) (fun _ => Nat.le_of_ble_eq_true rfl) (fun X hC hR hl => ?_)
  subst hl
  have hC : hg_C hg_FC 4 (d + 2) E cX2_valueRegister RX2 X := hC
  show hg_G hg_FC 4 X 0 [(0, .ref (hg_ad X 25)), (1, .ref (hg_ad X 16)), (2, .int x2)] [] σ hg_rC
  unfold wC_X2_valueRegister at hw
  refine hg_aload_n hC dX2_valueRegister_0 rfl 1 rfl (n := 1) rfl ?_
  refine hg_getr hC fl_RX2_89 dX2_valueRegister_1 qC_16 kC_16 fC_3_7 rC_16_7 (n := 4) rfl ?_
  refine hg_iload_n hC dX2_valueRegister_4 rfl 2 rfl (n := 5) rfl ?_
  obtain ⟨h9, hw⟩ := hw
  refine hg_iald hC dX2_valueRegister_5 qC_24 kC_24 h9 (n := 6) rfl ?_
  refine hg_topi (fun v1 ev1 => ?_)
  have hw := hw v1 ev1
  refine hg_istore_n hC (L1 := [(3, .int v1), (0, .ref (hg_ad X 25)), (1, .ref (hg_ad X 16)), (2, .int x2)]) dX2_valueRegister_6 rfl (by decide) rfl (n := 7) rfl ?_
  refine hg_aload_n hC dX2_valueRegister_7 rfl 2 rfl (n := 8) rfl ?_
  refine hg_getr hC fl_RX2_92 dX2_valueRegister_8 qC_16 kC_16 fC_3_6 rC_16_6 (n := 11) rfl ?_
  refine hg_iload_n hC dX2_valueRegister_11 rfl 3 rfl (n := 12) rfl ?_
  obtain ⟨h9, hw⟩ := hw
  refine hg_zald hC dX2_valueRegister_12 qC_23 kC_23 h9 (n := 13) rfl ?_
  refine hg_if_eq hC dX2_valueRegister_13 (tg := 25) rfl (n := 16) rfl (fun h9 => ?_) (fun h9 => ?_)
  · have hw := hw.1 h9
    refine hg_aload_n hC dX2_valueRegister_25 rfl 1 rfl (n := 26) rfl ?_
    refine hg_getr hC fl_RX2_12 dX2_valueRegister_26 qC_25 kC_25 fC_2_0 rC_25_0 (n := 29) rfl ?_
    refine hg_iconst hC dX2_valueRegister_29 hl_i0 (n := 30) rfl ?_
    refine hg_iconst hC dX2_valueRegister_30 hl_im1 (n := 31) rfl ?_
    refine hg_iload_n hC dX2_valueRegister_31 rfl 0 rfl (n := 32) rfl ?_
    refine hg_iconst hC dX2_valueRegister_32 hl_i0 (n := 33) rfl ?_
    refine hg_iconst hC dX2_valueRegister_33 hl_i0 (n := 34) rfl ?_
    refine hg_cVi hC (tC_X0_add (hg_Eof hC) X.2.1 (d + 0) _ _ _ _ _ _ _ hw) sv_RX2_95 dX2_valueRegister_34 qC_42 kC_42 c_0 rfl (rest := []) rfl (Nat.le_of_ble_eq_true rfl) (n := 37) rfl (fun r3 σ2 hw => ?_)
    exact hg_sub [] rfl (tbC_X2_valueRegister_37 hC hR  r3 σ2 hw)
  · have hw := hw.2 h9
    refine hg_aload_n hC dX2_valueRegister_16 rfl 1 rfl (n := 17) rfl ?_
    refine hg_getr hC fl_RX2_22 dX2_valueRegister_17 qC_25 kC_25 fC_2_2 rC_25_2 (n := 20) rfl ?_
    refine hg_iload_n hC dX2_valueRegister_20 rfl 0 rfl (n := 21) rfl ?_
    obtain ⟨h9, hw⟩ := hw
    refine hg_iald hC dX2_valueRegister_21 qC_27 kC_27 h9 (n := 22) rfl ?_
    refine hg_goto hC dX2_valueRegister_22 (tg := 37) rfl ?_
    exact hg_sub [] rfl (tbC_X2_valueRegister_37 hC hR  (σ 27 (v1).toNatClampNeg) σ hw)
def wC_X2_testRegister (x2 : Int32) (σ : hg_M) (P : Int32 → hg_M → Prop) : Prop := wC_X2_valueRegister ((2 : Int32) * x2) σ (fun r2 σ1 => wC_X2_valueRegister (((2 : Int32) * x2) + (1 : Int32)) σ1 (fun r4 σ3 => vp_in x2 60 ∧ (wC_X0_add (σ3 20 (x2).toNatClampNeg) (-1 : Int32) r2 r4 (0 : Int32) σ3 (fun r6 σ5 => P r6 σ5))))
set_option maxRecDepth 4000 in
theorem tC_X2_testRegister {E : hg_Et} (hE : hg_Eok E) (l : Launch) (d : Nat) (x2 : Int32) (σ : hg_M) (P : Int32 → hg_M → Prop) (hw : wC_X2_testRegister x2 σ P) : hg_Ni hg_FC E l yX2_testRegister cX2_testRegister 5 (some .int) (d + 3) (fun ad => [.ref (ad 25), .ref (ad 16), .int x2]) hg_rC σ P := by
  refine hg_ni hE (by decide) (fun _ => Nat.le_of_ble_eq_true rfl) (fun X hC hR hl => ?_)
  subst hl
  have hC : hg_C hg_FC 5 (d + 3) E cX2_testRegister RX2 X := hC
  show hg_G hg_FC 5 X 0 [(0, .ref (hg_ad X 25)), (1, .ref (hg_ad X 16)), (2, .int x2)] [] σ hg_rC
  unfold wC_X2_testRegister at hw
  refine hg_aload_n hC dX2_testRegister_0 rfl 0 rfl (n := 1) rfl ?_
  refine hg_aload_n hC dX2_testRegister_1 rfl 1 rfl (n := 2) rfl ?_
  refine hg_iconst hC dX2_testRegister_2 hl_i2 (n := 3) rfl ?_
  refine hg_iload_n hC dX2_testRegister_3 rfl 2 rfl (n := 4) rfl ?_
  refine hg_imul hC dX2_testRegister_4 (n := 5) rfl ?_
  refine hg_cVi hC (tC_X2_valueRegister (hg_Eof hC) X.2.1 (d + 0) _ _ _ hw) sv_RX2_99 dX2_testRegister_5 qC_25 kC_25 c_2 rfl (rest := []) rfl (Nat.le_of_ble_eq_true rfl) (n := 8) rfl (fun r2 σ1 hw => ?_)
  refine hg_istore_n hC (L1 := [(3, .int r2), (0, .ref (hg_ad X 25)), (1, .ref (hg_ad X 16)), (2, .int x2)]) dX2_testRegister_8 rfl (by decide) rfl (n := 9) rfl ?_
  refine hg_aload_n hC dX2_testRegister_9 rfl 1 rfl (n := 10) rfl ?_
  refine hg_aload_n hC dX2_testRegister_10 rfl 2 rfl (n := 11) rfl ?_
  refine hg_iconst hC dX2_testRegister_11 hl_i2 (n := 12) rfl ?_
  refine hg_iload_n hC dX2_testRegister_12 rfl 3 rfl (n := 13) rfl ?_
  refine hg_imul hC dX2_testRegister_13 (n := 14) rfl ?_
  refine hg_iconst hC dX2_testRegister_14 hl_i1 (n := 15) rfl ?_
  refine hg_iadd hC dX2_testRegister_15 (n := 16) rfl ?_
  refine hg_cVi hC (tC_X2_valueRegister (hg_Eof hC) X.2.1 (d + 0) _ _ _ hw) sv_RX2_99 dX2_testRegister_16 qC_25 kC_25 c_2 rfl (rest := []) rfl (Nat.le_of_ble_eq_true rfl) (n := 19) rfl (fun r4 σ3 hw => ?_)
  refine hg_istore hC (L1 := [(4, .int r4), (3, .int r2), (0, .ref (hg_ad X 25)), (1, .ref (hg_ad X 16)), (2, .int x2)]) dX2_testRegister_19 (by decide) rfl (n := 21) rfl ?_
  refine hg_aload_n hC dX2_testRegister_21 rfl 2 rfl (n := 22) rfl ?_
  refine hg_getr hC fl_RX2_12 dX2_testRegister_22 qC_25 kC_25 fC_2_0 rC_25_0 (n := 25) rfl ?_
  refine hg_aload_n hC dX2_testRegister_25 rfl 3 rfl (n := 26) rfl ?_
  refine hg_getr hC fl_RX2_103 dX2_testRegister_26 qC_16 kC_16 fC_3_3 rC_16_3 (n := 29) rfl ?_
  refine hg_iload_n hC dX2_testRegister_29 rfl 4 rfl (n := 30) rfl ?_
  obtain ⟨h9, hw⟩ := hw
  refine hg_iald hC dX2_testRegister_30 qC_20 kC_20 h9 (n := 31) rfl ?_
  refine hg_iconst hC dX2_testRegister_31 hl_im1 (n := 32) rfl ?_
  refine hg_iload_n hC dX2_testRegister_32 rfl 1 rfl (n := 33) rfl ?_
  refine hg_iload hC dX2_testRegister_33 0 rfl (n := 35) rfl ?_
  refine hg_iconst hC dX2_testRegister_35 hl_i0 (n := 36) rfl ?_
  refine hg_cVi hC (tC_X0_add (hg_Eof hC) X.2.1 (d + 1) _ _ _ _ _ _ _ hw) sv_RX2_95 dX2_testRegister_36 qC_42 kC_42 c_0 rfl (rest := []) rfl (Nat.le_of_ble_eq_true rfl) (n := 39) rfl (fun r6 σ5 hw => ?_)
  exact hg_reti hC hR dX2_testRegister_39 hw
def bC_X2_lowerPlainly_204 (P : hg_M → Prop)   (σ : hg_M) : Prop := P σ
def bC_X2_lowerPlainly_48 (P : hg_M → Prop)  (x2 : Int32) (x3 : Int32) (σ : hg_M) : Prop := wC_X2_valueRegister ((2 : Int32) * x2) σ (fun r5 σ4 => vp_in x2 60 ∧ ((((((σ4 17 (x2).toNatClampNeg)).toInt < 0 ∨ 3 < ((σ4 17 (x2).toNatClampNeg)).toInt) → wC_X0_add (18 : Int32) r5 (0 : Int32) (0 : Int32) (0 : Int32) σ4 (fun r7 σ6 => bC_X2_lowerPlainly_204 P σ6)) ∧ (((σ4 17 (x2).toNatClampNeg)).toInt = 0 → wC_X0_add (1 : Int32) x3 r5 (0 : Int32) (0 : Int32) σ4 (fun r9 σ8 => bC_X2_lowerPlainly_204 P σ8)) ∧ (((σ4 17 (x2).toNatClampNeg)).toInt = 1 → vp_in x2 60 ∧ (wC_X2_valueRegister (((2 : Int32) * x2) + (1 : Int32)) σ4 (fun r11 σ10 => wC_X0_add (σ4 20 (x2).toNatClampNeg) x3 r5 r11 (0 : Int32) σ10 (fun r13 σ12 => bC_X2_lowerPlainly_204 P σ12)))) ∧ (((σ4 17 (x2).toNatClampNeg)).toInt = 2 → wC_X0_add (14 : Int32) x3 r5 (0 : Int32) (0 : Int32) σ4 (fun r15 σ14 => bC_X2_lowerPlainly_204 P σ14)) ∧ (((σ4 17 (x2).toNatClampNeg)).toInt = 3 → wC_X2_valueRegister (((2 : Int32) * x2) + (1 : Int32)) σ4 (fun r17 σ16 => wC_X0_add (15 : Int32) r5 r17 (0 : Int32) (0 : Int32) σ16 (fun r19 σ18 => bC_X2_lowerPlainly_204 P σ18))))))
def wC_X2_lowerPlainly (x2 : Int32) (σ : hg_M) (P : hg_M → Prop) : Prop := vp_in x2 60 ∧ (∀ v1 : Int32, v1 = (σ 19 (x2).toNatClampNeg) → vp_in x2 60 ∧ ((((σ 17 (x2).toNatClampNeg) ≠ 0 → bC_X2_lowerPlainly_48 P x2 v1 σ) ∧ ((σ 17 (x2).toNatClampNeg) = 0 → vp_in ((2 : Int32) * x2) 120 ∧ ((((σ 23 (((2 : Int32) * x2)).toNatClampNeg) ≠ 0 → bC_X2_lowerPlainly_48 P x2 v1 σ) ∧ ((σ 23 (((2 : Int32) * x2)).toNatClampNeg) = 0 → vp_in ((2 : Int32) * x2) 120 ∧ (wC_X0_add (0 : Int32) v1 (σ 24 (((2 : Int32) * x2)).toNatClampNeg) (0 : Int32) (0 : Int32) σ (fun r3 σ2 => P σ2)))))))))
set_option maxRecDepth 4000 in
theorem tbC_X2_lowerPlainly_204 {d : Nat} {E : hg_Et} {X : hg_X} {P : hg_M → Prop}  (hC : hg_C hg_FC 5 (d + 3) E cX2_lowerPlainly RX2 X) (hR : hg_Rnv hg_FC hg_rC P X)   (σ : hg_M) (hw : bC_X2_lowerPlainly_204 P  σ) : hg_G hg_FC 5 X 204 [] [] σ hg_rC := by
  unfold bC_X2_lowerPlainly_204 at hw
  exact hg_retv hC hR dX2_lowerPlainly_204 hw
set_option maxRecDepth 4000 in
theorem tbC_X2_lowerPlainly_48 {d : Nat} {E : hg_Et} {X : hg_X} {P : hg_M → Prop}  (hC : hg_C hg_FC 5 (d + 3) E cX2_lowerPlainly RX2 X) (hR : hg_Rnv hg_FC hg_rC P X)  (x2 : Int32) (x3 : Int32) (σ : hg_M) (hw : bC_X2_lowerPlainly_48 P x2 x3 σ) : hg_G hg_FC 5 X 48 [(0, .ref (hg_ad X 25)), (1, .ref (hg_ad X 16)), (2, .int x2), (3, .int x3)] [] σ hg_rC := by
  unfold bC_X2_lowerPlainly_48 at hw
  refine hg_aload_n hC dX2_lowerPlainly_48 rfl 0 rfl (n := 49) rfl ?_
  refine hg_aload_n hC dX2_lowerPlainly_49 rfl 1 rfl (n := 50) rfl ?_
  refine hg_iconst hC dX2_lowerPlainly_50 hl_i2 (n := 51) rfl ?_
  refine hg_iload_n hC dX2_lowerPlainly_51 rfl 2 rfl (n := 52) rfl ?_
  refine hg_imul hC dX2_lowerPlainly_52 (n := 53) rfl ?_
  refine hg_cVi hC (tC_X2_valueRegister (hg_Eof hC) X.2.1 (d + 0) _ _ _ hw) sv_RX2_99 dX2_lowerPlainly_53 qC_25 kC_25 c_2 rfl (rest := []) rfl (Nat.le_of_ble_eq_true rfl) (n := 56) rfl (fun r5 σ4 hw => ?_)
  refine hg_istore hC (L1 := [(4, .int r5), (0, .ref (hg_ad X 25)), (1, .ref (hg_ad X 16)), (2, .int x2), (3, .int x3)]) dX2_lowerPlainly_56 (by decide) rfl (n := 58) rfl ?_
  refine hg_aload_n hC dX2_lowerPlainly_58 rfl 2 rfl (n := 59) rfl ?_
  refine hg_getr hC fl_RX2_67 dX2_lowerPlainly_59 qC_16 kC_16 fC_3_0 rC_16_0 (n := 62) rfl ?_
  refine hg_iload_n hC dX2_lowerPlainly_62 rfl 3 rfl (n := 63) rfl ?_
  obtain ⟨h9, hw⟩ := hw
  refine hg_iald hC dX2_lowerPlainly_63 qC_17 kC_17 h9 (n := 64) rfl ?_
  by_cases hsw : ((σ4 17 (x2).toNatClampNeg)).toInt < 0 ∨ 3 < ((σ4 17 (x2).toNatClampNeg)).toInt
  · have hw := hw.1 hsw
    refine hg_tout hC dX2_lowerPlainly_64 hsw (tg := 189) rfl ?_
    refine hg_aload_n hC dX2_lowerPlainly_189 rfl 1 rfl (n := 190) rfl ?_
    refine hg_getr hC fl_RX2_12 dX2_lowerPlainly_190 qC_25 kC_25 fC_2_0 rC_25_0 (n := 193) rfl ?_
    refine hg_bipush hC dX2_lowerPlainly_193 hl_b18 (n := 195) rfl ?_
    refine hg_iload hC dX2_lowerPlainly_195 0 rfl (n := 197) rfl ?_
    refine hg_iconst hC dX2_lowerPlainly_197 hl_i0 (n := 198) rfl ?_
    refine hg_iconst hC dX2_lowerPlainly_198 hl_i0 (n := 199) rfl ?_
    refine hg_iconst hC dX2_lowerPlainly_199 hl_i0 (n := 200) rfl ?_
    refine hg_cVi hC (tC_X0_add (hg_Eof hC) X.2.1 (d + 1) _ _ _ _ _ _ _ hw) sv_RX2_95 dX2_lowerPlainly_200 qC_42 kC_42 c_0 rfl (rest := []) rfl (Nat.le_of_ble_eq_true rfl) (n := 203) rfl (fun r7 σ6 hw => ?_)
    refine hg_pop hC dX2_lowerPlainly_203 rfl (n := 204) rfl ?_
    exact hg_sub [] rfl (tbC_X2_lowerPlainly_204 hC hR  σ6 hw)
  · rcases (show ((σ4 17 (x2).toNatClampNeg)).toInt = 0 ∨ ((σ4 17 (x2).toNatClampNeg)).toInt = 1 ∨ ((σ4 17 (x2).toNatClampNeg)).toInt = 2 ∨ ((σ4 17 (x2).toNatClampNeg)).toInt = 3 by omega) with hsx | hsx | hsx | hsx
    · have hw := hw.2.1 hsx
      refine hg_tin hC dX2_lowerPlainly_64 hsx (by decide) (by decide) (by rfl) (tg := 96) rfl ?_
      refine hg_aload_n hC dX2_lowerPlainly_96 rfl 1 rfl (n := 97) rfl ?_
      refine hg_getr hC fl_RX2_12 dX2_lowerPlainly_97 qC_25 kC_25 fC_2_0 rC_25_0 (n := 100) rfl ?_
      refine hg_iconst hC dX2_lowerPlainly_100 hl_i1 (n := 101) rfl ?_
      refine hg_iload_n hC dX2_lowerPlainly_101 rfl 4 rfl (n := 102) rfl ?_
      refine hg_iload hC dX2_lowerPlainly_102 0 rfl (n := 104) rfl ?_
      refine hg_iconst hC dX2_lowerPlainly_104 hl_i0 (n := 105) rfl ?_
      refine hg_iconst hC dX2_lowerPlainly_105 hl_i0 (n := 106) rfl ?_
      refine hg_cVi hC (tC_X0_add (hg_Eof hC) X.2.1 (d + 1) _ _ _ _ _ _ _ hw) sv_RX2_95 dX2_lowerPlainly_106 qC_42 kC_42 c_0 rfl (rest := []) rfl (Nat.le_of_ble_eq_true rfl) (n := 109) rfl (fun r9 σ8 hw => ?_)
      refine hg_pop hC dX2_lowerPlainly_109 rfl (n := 110) rfl ?_
      refine hg_goto hC dX2_lowerPlainly_110 (tg := 204) rfl ?_
      exact hg_sub [] rfl (tbC_X2_lowerPlainly_204 hC hR  σ8 hw)
    · have hw := hw.2.2.1 hsx
      refine hg_tin hC dX2_lowerPlainly_64 hsx (by decide) (by decide) (by rfl) (tg := 113) rfl ?_
      refine hg_aload_n hC dX2_lowerPlainly_113 rfl 1 rfl (n := 114) rfl ?_
      refine hg_getr hC fl_RX2_12 dX2_lowerPlainly_114 qC_25 kC_25 fC_2_0 rC_25_0 (n := 117) rfl ?_
      refine hg_aload_n hC dX2_lowerPlainly_117 rfl 2 rfl (n := 118) rfl ?_
      refine hg_getr hC fl_RX2_103 dX2_lowerPlainly_118 qC_16 kC_16 fC_3_3 rC_16_3 (n := 121) rfl ?_
      refine hg_iload_n hC dX2_lowerPlainly_121 rfl 3 rfl (n := 122) rfl ?_
      obtain ⟨h9, hw⟩ := hw
      refine hg_iald hC dX2_lowerPlainly_122 qC_20 kC_20 h9 (n := 123) rfl ?_
      refine hg_iload_n hC dX2_lowerPlainly_123 rfl 4 rfl (n := 124) rfl ?_
      refine hg_iload hC dX2_lowerPlainly_124 0 rfl (n := 126) rfl ?_
      refine hg_aload_n hC dX2_lowerPlainly_126 rfl 1 rfl (n := 127) rfl ?_
      refine hg_aload_n hC dX2_lowerPlainly_127 rfl 2 rfl (n := 128) rfl ?_
      refine hg_iconst hC dX2_lowerPlainly_128 hl_i2 (n := 129) rfl ?_
      refine hg_iload_n hC dX2_lowerPlainly_129 rfl 3 rfl (n := 130) rfl ?_
      refine hg_imul hC dX2_lowerPlainly_130 (n := 131) rfl ?_
      refine hg_iconst hC dX2_lowerPlainly_131 hl_i1 (n := 132) rfl ?_
      refine hg_iadd hC dX2_lowerPlainly_132 (n := 133) rfl ?_
      refine hg_cVi hC (tC_X2_valueRegister (hg_Eof hC) X.2.1 (d + 0) _ _ _ hw) sv_RX2_99 dX2_lowerPlainly_133 qC_25 kC_25 c_2 rfl (rest := [.int r5, .int x3, .int (σ4 20 (x2).toNatClampNeg), .ref (hg_ad X 42)]) rfl (Nat.le_of_ble_eq_true rfl) (n := 136) rfl (fun r11 σ10 hw => ?_)
      refine hg_iconst hC dX2_lowerPlainly_136 hl_i0 (n := 137) rfl ?_
      refine hg_cVi hC (tC_X0_add (hg_Eof hC) X.2.1 (d + 1) _ _ _ _ _ _ _ hw) sv_RX2_95 dX2_lowerPlainly_137 qC_42 kC_42 c_0 rfl (rest := []) rfl (Nat.le_of_ble_eq_true rfl) (n := 140) rfl (fun r13 σ12 hw => ?_)
      refine hg_pop hC dX2_lowerPlainly_140 rfl (n := 141) rfl ?_
      refine hg_goto hC dX2_lowerPlainly_141 (tg := 204) rfl ?_
      exact hg_sub [] rfl (tbC_X2_lowerPlainly_204 hC hR  σ12 hw)
    · have hw := hw.2.2.2.1 hsx
      refine hg_tin hC dX2_lowerPlainly_64 hsx (by decide) (by decide) (by rfl) (tg := 144) rfl ?_
      refine hg_aload_n hC dX2_lowerPlainly_144 rfl 1 rfl (n := 145) rfl ?_
      refine hg_getr hC fl_RX2_12 dX2_lowerPlainly_145 qC_25 kC_25 fC_2_0 rC_25_0 (n := 148) rfl ?_
      refine hg_bipush hC dX2_lowerPlainly_148 hl_b14 (n := 150) rfl ?_
      refine hg_iload_n hC dX2_lowerPlainly_150 rfl 4 rfl (n := 151) rfl ?_
      refine hg_iload hC dX2_lowerPlainly_151 0 rfl (n := 153) rfl ?_
      refine hg_iconst hC dX2_lowerPlainly_153 hl_i0 (n := 154) rfl ?_
      refine hg_iconst hC dX2_lowerPlainly_154 hl_i0 (n := 155) rfl ?_
      refine hg_cVi hC (tC_X0_add (hg_Eof hC) X.2.1 (d + 1) _ _ _ _ _ _ _ hw) sv_RX2_95 dX2_lowerPlainly_155 qC_42 kC_42 c_0 rfl (rest := []) rfl (Nat.le_of_ble_eq_true rfl) (n := 158) rfl (fun r15 σ14 hw => ?_)
      refine hg_pop hC dX2_lowerPlainly_158 rfl (n := 159) rfl ?_
      refine hg_goto hC dX2_lowerPlainly_159 (tg := 204) rfl ?_
      exact hg_sub [] rfl (tbC_X2_lowerPlainly_204 hC hR  σ14 hw)
    · have hw := hw.2.2.2.2 hsx
      refine hg_tin hC dX2_lowerPlainly_64 hsx (by decide) (by decide) (by rfl) (tg := 162) rfl ?_
      refine hg_aload_n hC dX2_lowerPlainly_162 rfl 1 rfl (n := 163) rfl ?_
      refine hg_getr hC fl_RX2_12 dX2_lowerPlainly_163 qC_25 kC_25 fC_2_0 rC_25_0 (n := 166) rfl ?_
      refine hg_bipush hC dX2_lowerPlainly_166 hl_b15 (n := 168) rfl ?_
      refine hg_iload hC dX2_lowerPlainly_168 0 rfl (n := 170) rfl ?_
      refine hg_aload_n hC dX2_lowerPlainly_170 rfl 1 rfl (n := 171) rfl ?_
      refine hg_aload_n hC dX2_lowerPlainly_171 rfl 2 rfl (n := 172) rfl ?_
      refine hg_iconst hC dX2_lowerPlainly_172 hl_i2 (n := 173) rfl ?_
      refine hg_iload_n hC dX2_lowerPlainly_173 rfl 3 rfl (n := 174) rfl ?_
      refine hg_imul hC dX2_lowerPlainly_174 (n := 175) rfl ?_
      refine hg_iconst hC dX2_lowerPlainly_175 hl_i1 (n := 176) rfl ?_
      refine hg_iadd hC dX2_lowerPlainly_176 (n := 177) rfl ?_
      refine hg_cVi hC (tC_X2_valueRegister (hg_Eof hC) X.2.1 (d + 0) _ _ _ hw) sv_RX2_99 dX2_lowerPlainly_177 qC_25 kC_25 c_2 rfl (rest := [.int r5, .int (15 : Int32), .ref (hg_ad X 42)]) rfl (Nat.le_of_ble_eq_true rfl) (n := 180) rfl (fun r17 σ16 hw => ?_)
      refine hg_iconst hC dX2_lowerPlainly_180 hl_i0 (n := 181) rfl ?_
      refine hg_iconst hC dX2_lowerPlainly_181 hl_i0 (n := 182) rfl ?_
      refine hg_cVi hC (tC_X0_add (hg_Eof hC) X.2.1 (d + 1) _ _ _ _ _ _ _ hw) sv_RX2_95 dX2_lowerPlainly_182 qC_42 kC_42 c_0 rfl (rest := []) rfl (Nat.le_of_ble_eq_true rfl) (n := 185) rfl (fun r19 σ18 hw => ?_)
      refine hg_pop hC dX2_lowerPlainly_185 rfl (n := 186) rfl ?_
      refine hg_goto hC dX2_lowerPlainly_186 (tg := 204) rfl ?_
      exact hg_sub [] rfl (tbC_X2_lowerPlainly_204 hC hR  σ18 hw)
set_option maxRecDepth 4000 in
theorem tC_X2_lowerPlainly {E : hg_Et} (hE : hg_Eok E) (l : Launch) (d : Nat) (x2 : Int32) (σ : hg_M) (P : hg_M → Prop) (hw : wC_X2_lowerPlainly x2 σ P) : hg_Nv hg_FC E l yX2_lowerPlainly cX2_lowerPlainly 5 (d + 3) (fun ad => [.ref (ad 25), .ref (ad 16), .int x2]) hg_rC σ P := by
  refine hg_nv hE (by decide) (fun _ => Nat.le_of_ble_eq_true rfl) (fun X hC hR hl => ?_)
  subst hl
  have hC : hg_C hg_FC 5 (d + 3) E cX2_lowerPlainly RX2 X := hC
  show hg_G hg_FC 5 X 0 [(0, .ref (hg_ad X 25)), (1, .ref (hg_ad X 16)), (2, .int x2)] [] σ hg_rC
  unfold wC_X2_lowerPlainly at hw
  refine hg_aload_n hC dX2_lowerPlainly_0 rfl 1 rfl (n := 1) rfl ?_
  refine hg_getr hC fl_RX2_106 dX2_lowerPlainly_1 qC_16 kC_16 fC_3_2 rC_16_2 (n := 4) rfl ?_
  refine hg_iload_n hC dX2_lowerPlainly_4 rfl 2 rfl (n := 5) rfl ?_
  obtain ⟨h9, hw⟩ := hw
  refine hg_iald hC dX2_lowerPlainly_5 qC_19 kC_19 h9 (n := 6) rfl ?_
  refine hg_topi (fun v1 ev1 => ?_)
  have hw := hw v1 ev1
  refine hg_istore_n hC (L1 := [(3, .int v1), (0, .ref (hg_ad X 25)), (1, .ref (hg_ad X 16)), (2, .int x2)]) dX2_lowerPlainly_6 rfl (by decide) rfl (n := 7) rfl ?_
  refine hg_aload_n hC dX2_lowerPlainly_7 rfl 2 rfl (n := 8) rfl ?_
  refine hg_getr hC fl_RX2_67 dX2_lowerPlainly_8 qC_16 kC_16 fC_3_0 rC_16_0 (n := 11) rfl ?_
  refine hg_iload_n hC dX2_lowerPlainly_11 rfl 3 rfl (n := 12) rfl ?_
  obtain ⟨h9, hw⟩ := hw
  refine hg_iald hC dX2_lowerPlainly_12 qC_17 kC_17 h9 (n := 13) rfl ?_
  refine hg_if_ne hC dX2_lowerPlainly_13 (tg := 48) rfl (n := 16) rfl (fun h9 => ?_) (fun h9 => ?_)
  · have hw := hw.1 h9
    exact hg_sub [1, 2, 3, 0] rfl (tbC_X2_lowerPlainly_48 hC hR  x2 v1 σ hw)
  · have hw := hw.2 h9
    refine hg_aload_n hC dX2_lowerPlainly_16 rfl 2 rfl (n := 17) rfl ?_
    refine hg_getr hC fl_RX2_92 dX2_lowerPlainly_17 qC_16 kC_16 fC_3_6 rC_16_6 (n := 20) rfl ?_
    refine hg_iconst hC dX2_lowerPlainly_20 hl_i2 (n := 21) rfl ?_
    refine hg_iload_n hC dX2_lowerPlainly_21 rfl 3 rfl (n := 22) rfl ?_
    refine hg_imul hC dX2_lowerPlainly_22 (n := 23) rfl ?_
    obtain ⟨h9, hw⟩ := hw
    refine hg_zald hC dX2_lowerPlainly_23 qC_23 kC_23 h9 (n := 24) rfl ?_
    refine hg_if_ne hC dX2_lowerPlainly_24 (tg := 48) rfl (n := 27) rfl (fun h9 => ?_) (fun h9 => ?_)
    · have hw := hw.1 h9
      exact hg_sub [1, 2, 3, 0] rfl (tbC_X2_lowerPlainly_48 hC hR  x2 v1 σ hw)
    · have hw := hw.2 h9
      refine hg_aload_n hC dX2_lowerPlainly_27 rfl 1 rfl (n := 28) rfl ?_
      refine hg_getr hC fl_RX2_12 dX2_lowerPlainly_28 qC_25 kC_25 fC_2_0 rC_25_0 (n := 31) rfl ?_
      refine hg_iconst hC dX2_lowerPlainly_31 hl_i0 (n := 32) rfl ?_
      refine hg_iload_n hC dX2_lowerPlainly_32 rfl 0 rfl (n := 33) rfl ?_
      refine hg_aload_n hC dX2_lowerPlainly_33 rfl 2 rfl (n := 34) rfl ?_
      refine hg_getr hC fl_RX2_89 dX2_lowerPlainly_34 qC_16 kC_16 fC_3_7 rC_16_7 (n := 37) rfl ?_
      refine hg_iconst hC dX2_lowerPlainly_37 hl_i2 (n := 38) rfl ?_
      refine hg_iload_n hC dX2_lowerPlainly_38 rfl 3 rfl (n := 39) rfl ?_
      refine hg_imul hC dX2_lowerPlainly_39 (n := 40) rfl ?_
      obtain ⟨h9, hw⟩ := hw
      refine hg_iald hC dX2_lowerPlainly_40 qC_24 kC_24 h9 (n := 41) rfl ?_
      refine hg_iconst hC dX2_lowerPlainly_41 hl_i0 (n := 42) rfl ?_
      refine hg_iconst hC dX2_lowerPlainly_42 hl_i0 (n := 43) rfl ?_
      refine hg_cVi hC (tC_X0_add (hg_Eof hC) X.2.1 (d + 1) _ _ _ _ _ _ _ hw) sv_RX2_95 dX2_lowerPlainly_43 qC_42 kC_42 c_0 rfl (rest := []) rfl (Nat.le_of_ble_eq_true rfl) (n := 46) rfl (fun r3 σ2 hw => ?_)
      refine hg_pop hC dX2_lowerPlainly_46 rfl (n := 47) rfl ?_
      exact hg_retv hC hR dX2_lowerPlainly_47 hw
def wC_X2_chosenOr (x1 : Int32) (x2 : Int32) (σ : hg_M) (P : Int32 → hg_M → Prop) : Prop := wC_X0_add (0 : Int32) (-1 : Int32) x2 (0 : Int32) (0 : Int32) σ (fun r2 σ1 => wC_X0_add (13 : Int32) (-1 : Int32) (σ1 25 5) x1 r2 σ1 (fun r4 σ3 => P r4 σ3))
set_option maxRecDepth 4000 in
theorem tC_X2_chosenOr {E : hg_Et} (hE : hg_Eok E) (l : Launch) (d : Nat) (x1 : Int32) (x2 : Int32) (σ : hg_M) (P : Int32 → hg_M → Prop) (hw : wC_X2_chosenOr x1 x2 σ P) : hg_Ni hg_FC E l yX2_chosenOr cX2_chosenOr 4 (some .int) (d + 2) (fun ad => [.ref (ad 25), .int x1, .int x2]) hg_rC σ P := by
  refine hg_ni hE (by decide) (fun _ => Nat.le_of_ble_eq_true rfl) (fun X hC hR hl => ?_)
  subst hl
  have hC : hg_C hg_FC 4 (d + 2) E cX2_chosenOr RX2 X := hC
  show hg_G hg_FC 4 X 0 [(0, .ref (hg_ad X 25)), (1, .int x1), (2, .int x2)] [] σ hg_rC
  unfold wC_X2_chosenOr at hw
  refine hg_aload_n hC dX2_chosenOr_0 rfl 0 rfl (n := 1) rfl ?_
  refine hg_getr hC fl_RX2_12 dX2_chosenOr_1 qC_25 kC_25 fC_2_0 rC_25_0 (n := 4) rfl ?_
  refine hg_iconst hC dX2_chosenOr_4 hl_i0 (n := 5) rfl ?_
  refine hg_iconst hC dX2_chosenOr_5 hl_im1 (n := 6) rfl ?_
  refine hg_iload_n hC dX2_chosenOr_6 rfl 2 rfl (n := 7) rfl ?_
  refine hg_iconst hC dX2_chosenOr_7 hl_i0 (n := 8) rfl ?_
  refine hg_iconst hC dX2_chosenOr_8 hl_i0 (n := 9) rfl ?_
  refine hg_cVi hC (tC_X0_add (hg_Eof hC) X.2.1 (d + 0) _ _ _ _ _ _ _ hw) sv_RX2_95 dX2_chosenOr_9 qC_42 kC_42 c_0 rfl (rest := []) rfl (Nat.le_of_ble_eq_true rfl) (n := 12) rfl (fun r2 σ1 hw => ?_)
  refine hg_istore_n hC (L1 := [(3, .int r2), (0, .ref (hg_ad X 25)), (1, .int x1), (2, .int x2)]) dX2_chosenOr_12 rfl (by decide) rfl (n := 13) rfl ?_
  refine hg_aload_n hC dX2_chosenOr_13 rfl 1 rfl (n := 14) rfl ?_
  refine hg_getr hC fl_RX2_12 dX2_chosenOr_14 qC_25 kC_25 fC_2_0 rC_25_0 (n := 17) rfl ?_
  refine hg_bipush hC dX2_chosenOr_17 hl_b13 (n := 19) rfl ?_
  refine hg_iconst hC dX2_chosenOr_19 hl_im1 (n := 20) rfl ?_
  refine hg_aload_n hC dX2_chosenOr_20 rfl 1 rfl (n := 21) rfl ?_
  refine hg_geti hC fl_RX2_34 dX2_chosenOr_21 qC_25 kC_25 fC_2_5 (n := 24) rfl ?_
  refine hg_iload_n hC dX2_chosenOr_24 rfl 2 rfl (n := 25) rfl ?_
  refine hg_iload_n hC dX2_chosenOr_25 rfl 0 rfl (n := 26) rfl ?_
  refine hg_cVi hC (tC_X0_add (hg_Eof hC) X.2.1 (d + 0) _ _ _ _ _ _ _ hw) sv_RX2_95 dX2_chosenOr_26 qC_42 kC_42 c_0 rfl (rest := []) rfl (Nat.le_of_ble_eq_true rfl) (n := 29) rfl (fun r4 σ3 hw => ?_)
  exact hg_reti hC hR dX2_chosenOr_29 hw
def wC_X2_guardedWrite (x1 : Int32) (x2 : Int32) (σ : hg_M) (P : hg_M → Prop) : Prop := wC_X0_add (14 : Int32) (-1 : Int32) x1 (0 : Int32) (0 : Int32) σ (fun r2 σ1 => wC_X0_add (13 : Int32) (-1 : Int32) (σ1 25 5) x2 r2 σ1 (fun r4 σ3 => wC_X0_add (15 : Int32) x1 r4 (0 : Int32) (0 : Int32) σ3 (fun r6 σ5 => P σ5)))
set_option maxRecDepth 4000 in
theorem tC_X2_guardedWrite {E : hg_Et} (hE : hg_Eok E) (l : Launch) (d : Nat) (x1 : Int32) (x2 : Int32) (σ : hg_M) (P : hg_M → Prop) (hw : wC_X2_guardedWrite x1 x2 σ P) : hg_Nv hg_FC E l yX2_guardedWrite cX2_guardedWrite 5 (d + 2) (fun ad => [.ref (ad 25), .int x1, .int x2]) hg_rC σ P := by
  refine hg_nv hE (by decide) (fun _ => Nat.le_of_ble_eq_true rfl) (fun X hC hR hl => ?_)
  subst hl
  have hC : hg_C hg_FC 5 (d + 2) E cX2_guardedWrite RX2 X := hC
  show hg_G hg_FC 5 X 0 [(0, .ref (hg_ad X 25)), (1, .int x1), (2, .int x2)] [] σ hg_rC
  unfold wC_X2_guardedWrite at hw
  refine hg_aload_n hC dX2_guardedWrite_0 rfl 0 rfl (n := 1) rfl ?_
  refine hg_getr hC fl_RX2_12 dX2_guardedWrite_1 qC_25 kC_25 fC_2_0 rC_25_0 (n := 4) rfl ?_
  refine hg_bipush hC dX2_guardedWrite_4 hl_b14 (n := 6) rfl ?_
  refine hg_iconst hC dX2_guardedWrite_6 hl_im1 (n := 7) rfl ?_
  refine hg_iload_n hC dX2_guardedWrite_7 rfl 1 rfl (n := 8) rfl ?_
  refine hg_iconst hC dX2_guardedWrite_8 hl_i0 (n := 9) rfl ?_
  refine hg_iconst hC dX2_guardedWrite_9 hl_i0 (n := 10) rfl ?_
  refine hg_cVi hC (tC_X0_add (hg_Eof hC) X.2.1 (d + 0) _ _ _ _ _ _ _ hw) sv_RX2_95 dX2_guardedWrite_10 qC_42 kC_42 c_0 rfl (rest := []) rfl (Nat.le_of_ble_eq_true rfl) (n := 13) rfl (fun r2 σ1 hw => ?_)
  refine hg_istore_n hC (L1 := [(3, .int r2), (0, .ref (hg_ad X 25)), (1, .int x1), (2, .int x2)]) dX2_guardedWrite_13 rfl (by decide) rfl (n := 14) rfl ?_
  refine hg_aload_n hC dX2_guardedWrite_14 rfl 1 rfl (n := 15) rfl ?_
  refine hg_getr hC fl_RX2_12 dX2_guardedWrite_15 qC_25 kC_25 fC_2_0 rC_25_0 (n := 18) rfl ?_
  refine hg_bipush hC dX2_guardedWrite_18 hl_b13 (n := 20) rfl ?_
  refine hg_iconst hC dX2_guardedWrite_20 hl_im1 (n := 21) rfl ?_
  refine hg_aload_n hC dX2_guardedWrite_21 rfl 1 rfl (n := 22) rfl ?_
  refine hg_geti hC fl_RX2_34 dX2_guardedWrite_22 qC_25 kC_25 fC_2_5 (n := 25) rfl ?_
  refine hg_iload_n hC dX2_guardedWrite_25 rfl 3 rfl (n := 26) rfl ?_
  refine hg_iload_n hC dX2_guardedWrite_26 rfl 0 rfl (n := 27) rfl ?_
  refine hg_cVi hC (tC_X0_add (hg_Eof hC) X.2.1 (d + 0) _ _ _ _ _ _ _ hw) sv_RX2_95 dX2_guardedWrite_27 qC_42 kC_42 c_0 rfl (rest := []) rfl (Nat.le_of_ble_eq_true rfl) (n := 30) rfl (fun r4 σ3 hw => ?_)
  refine hg_istore hC (L1 := [(4, .int r4), (3, .int r2), (0, .ref (hg_ad X 25)), (1, .int x1), (2, .int x2)]) dX2_guardedWrite_30 (by decide) rfl (n := 32) rfl ?_
  refine hg_aload_n hC dX2_guardedWrite_32 rfl 2 rfl (n := 33) rfl ?_
  refine hg_getr hC fl_RX2_12 dX2_guardedWrite_33 qC_25 kC_25 fC_2_0 rC_25_0 (n := 36) rfl ?_
  refine hg_bipush hC dX2_guardedWrite_36 hl_b15 (n := 38) rfl ?_
  refine hg_iload_n hC dX2_guardedWrite_38 rfl 3 rfl (n := 39) rfl ?_
  refine hg_iload hC dX2_guardedWrite_39 0 rfl (n := 41) rfl ?_
  refine hg_iconst hC dX2_guardedWrite_41 hl_i0 (n := 42) rfl ?_
  refine hg_iconst hC dX2_guardedWrite_42 hl_i0 (n := 43) rfl ?_
  refine hg_cVi hC (tC_X0_add (hg_Eof hC) X.2.1 (d + 0) _ _ _ _ _ _ _ hw) sv_RX2_95 dX2_guardedWrite_43 qC_42 kC_42 c_0 rfl (rest := []) rfl (Nat.le_of_ble_eq_true rfl) (n := 46) rfl (fun r6 σ5 hw => ?_)
  refine hg_pop hC dX2_guardedWrite_46 rfl (n := 47) rfl ?_
  exact hg_retv hC hR dX2_guardedWrite_47 hw
def bC_X2_guardWithin_22 (P : Int32 → hg_M → Prop)  (t0 : Int32) (σ : hg_M) : Prop := P t0 σ
def wC_X2_guardWithin (x1 : Int32) (x2 : Int32) (σ : hg_M) (P : Int32 → hg_M → Prop) : Prop := ((x1 ≠ (-1 : Int32) → wC_X0_add (7 : Int32) (-1 : Int32) x1 x2 (0 : Int32) σ (fun r2 σ1 => bC_X2_guardWithin_22 P r2 σ1)) ∧ (x1 = (-1 : Int32) → bC_X2_guardWithin_22 P x2 σ))
set_option maxRecDepth 4000 in
theorem tbC_X2_guardWithin_22 {d : Nat} {E : hg_Et} {X : hg_X} {P : Int32 → hg_M → Prop}  (hC : hg_C hg_FC 3 (d + 2) E cX2_guardWithin RX2 X) (hR : hg_Rni hg_FC (some .int) hg_rC P X)  (t0 : Int32) (σ : hg_M) (hw : bC_X2_guardWithin_22 P t0 σ) : hg_G hg_FC 3 X 22 [] [.int t0] σ hg_rC := by
  unfold bC_X2_guardWithin_22 at hw
  exact hg_reti hC hR dX2_guardWithin_22 hw
set_option maxRecDepth 4000 in
theorem tC_X2_guardWithin {E : hg_Et} (hE : hg_Eok E) (l : Launch) (d : Nat) (x1 : Int32) (x2 : Int32) (σ : hg_M) (P : Int32 → hg_M → Prop) (hw : wC_X2_guardWithin x1 x2 σ P) : hg_Ni hg_FC E l yX2_guardWithin cX2_guardWithin 3 (some .int) (d + 2) (fun ad => [.ref (ad 25), .int x1, .int x2]) hg_rC σ P := by
  refine hg_ni hE (by decide) (fun _ => Nat.le_of_ble_eq_true rfl) (fun X hC hR hl => ?_)
  subst hl
  have hC : hg_C hg_FC 3 (d + 2) E cX2_guardWithin RX2 X := hC
  show hg_G hg_FC 3 X 0 [(0, .ref (hg_ad X 25)), (1, .int x1), (2, .int x2)] [] σ hg_rC
  unfold wC_X2_guardWithin at hw
  refine hg_iload_n hC dX2_guardWithin_0 rfl 1 rfl (n := 1) rfl ?_
  refine hg_iconst hC dX2_guardWithin_1 hl_im1 (n := 2) rfl ?_
  refine hg_icmp_ne hC dX2_guardWithin_2 (tg := 9) rfl (n := 5) rfl (fun h9 => ?_) (fun h9 => ?_)
  · have hw := hw.1 h9
    refine hg_aload_n hC dX2_guardWithin_9 rfl 0 rfl (n := 10) rfl ?_
    refine hg_getr hC fl_RX2_12 dX2_guardWithin_10 qC_25 kC_25 fC_2_0 rC_25_0 (n := 13) rfl ?_
    refine hg_bipush hC dX2_guardWithin_13 hl_b7 (n := 15) rfl ?_
    refine hg_iconst hC dX2_guardWithin_15 hl_im1 (n := 16) rfl ?_
    refine hg_iload_n hC dX2_guardWithin_16 rfl 1 rfl (n := 17) rfl ?_
    refine hg_iload_n hC dX2_guardWithin_17 rfl 2 rfl (n := 18) rfl ?_
    refine hg_iconst hC dX2_guardWithin_18 hl_i0 (n := 19) rfl ?_
    refine hg_cVi hC (tC_X0_add (hg_Eof hC) X.2.1 (d + 0) _ _ _ _ _ _ _ hw) sv_RX2_95 dX2_guardWithin_19 qC_42 kC_42 c_0 rfl (rest := []) rfl (Nat.le_of_ble_eq_true rfl) (n := 22) rfl (fun r2 σ1 hw => ?_)
    exact hg_sub [] rfl (tbC_X2_guardWithin_22 hC hR  r2 σ1 hw)
  · have hw := hw.2 h9
    refine hg_iload_n hC dX2_guardWithin_5 rfl 2 rfl (n := 6) rfl ?_
    refine hg_goto hC dX2_guardWithin_6 (tg := 22) rfl ?_
    exact hg_sub [] rfl (tbC_X2_guardWithin_22 hC hR  x2 σ hw)
def bC_X2_chooseSides_73 (P : hg_M → Prop) (J2 : Int32 → Int32 → Int32 → hg_M → Prop) (x1 : Int32) (x2 : Int32) (x3 : Int32) (σ : hg_M) : Prop := ∀ v3 : Int32, v3 = x3 + (1 : Int32) → J2 x1 x2 v3 σ
def bC_X2_chooseSides_52 (P : hg_M → Prop) (J2 : Int32 → Int32 → Int32 → hg_M → Prop) (x1 : Int32) (x2 : Int32) (x3 : Int32) (x4 : Int32) (x5 : Int32) (σ : hg_M) : Prop := wC_X0_add (13 : Int32) (-1 : Int32) x1 x4 x5 σ (fun r5 σ4 => vp_in x3 16 ∧ (∀ σ6 : hg_M, σ6 = hg_set σ4 27 (x3).toNatClampNeg r5 → bC_X2_chooseSides_73 P J2 x1 x2 x3 σ6))
def lC_X2_chooseSides_2 (P : hg_M → Prop)  : Nat → Int32 → Int32 → Int32 → hg_M → Prop
  | 0, _, _, _, _ => False
  | n + 1, x1, x2, x3, σ => (((16 : Int32) ≤ x3 → P σ) ∧ (¬ ((16 : Int32) ≤ x3) → vp_in x2 6 ∧ (vp_in x3 16 ∧ (∀ v1 : Int32, v1 = (σ (36 + (x2).toNatClampNeg) (x3).toNatClampNeg) → vp_in x3 16 ∧ (∀ v2 : Int32, v2 = (σ 27 (x3).toNatClampNeg) → vp_in x2 6 ∧ (vp_in x3 16 ∧ (((v1 ≠ (σ (29 + (x2).toNatClampNeg) (x3).toNatClampNeg) → bC_X2_chooseSides_52 P (fun k0 k1 k2 k3 => lC_X2_chooseSides_2 P n k0 k1 k2 k3) x1 x2 x3 v1 v2 σ) ∧ (v1 = (σ (29 + (x2).toNatClampNeg) (x3).toNatClampNeg) → vp_in x2 6 ∧ (vp_in x3 16 ∧ (((v2 = (σ (29 + (x2).toNatClampNeg) (x3).toNatClampNeg) → bC_X2_chooseSides_73 P (fun k0 k1 k2 k3 => lC_X2_chooseSides_2 P n k0 k1 k2 k3) x1 x2 x3 σ) ∧ (¬ (v2 = (σ (29 + (x2).toNatClampNeg) (x3).toNatClampNeg)) → bC_X2_chooseSides_52 P (fun k0 k1 k2 k3 => lC_X2_chooseSides_2 P n k0 k1 k2 k3) x1 x2 x3 v1 v2 σ)))))))))))))
def wC_X2_chooseSides (x1 : Int32) (x2 : Int32) (σ : hg_M) (P : hg_M → Prop) : Prop := (∃ f9, lC_X2_chooseSides_2 P f9 x1 x2 (0 : Int32) σ)
set_option maxRecDepth 4000 in
theorem tbC_X2_chooseSides_73 {d : Nat} {E : hg_Et} {X : hg_X} {P : hg_M → Prop} {J2 : Int32 → Int32 → Int32 → hg_M → Prop} (hC : hg_C hg_FC 6 (d + 2) E cX2_chooseSides RX2 X) (hR : hg_Rnv hg_FC hg_rC P X) (hJ2 : ∀ (x1 : Int32) (x2 : Int32) (x3 : Int32) (σ : hg_M), J2 x1 x2 x3 σ → hg_G hg_FC 6 X 2 [(0, .ref (hg_ad X 25)), (1, .int x1), (2, .int x2), (3, .int x3)] [] σ hg_rC) (x1 : Int32) (x2 : Int32) (x3 : Int32) (σ : hg_M) (hw : bC_X2_chooseSides_73 P J2 x1 x2 x3 σ) : hg_G hg_FC 6 X 73 [(0, .ref (hg_ad X 25)), (1, .int x1), (2, .int x2), (3, .int x3)] [] σ hg_rC := by
  unfold bC_X2_chooseSides_73 at hw
  obtain ⟨v3, ev3⟩ : ∃ z, z = x3 + (1 : Int32) := ⟨_, rfl⟩
  have hw := hw v3 ev3
  refine hg_iinc hC (v := v3) (L1 := [(3, .int v3), (0, .ref (hg_ad X 25)), (1, .int x1), (2, .int x2)]) dX2_chooseSides_73 3 rfl (by rw [hl_i1, ev3]) (by decide) rfl (n := 76) rfl ?_
  refine hg_goto hC dX2_chooseSides_76 (tg := 2) rfl ?_
  exact hg_sub [1, 2, 3, 0] rfl (hJ2 x1 x2 v3 σ hw)
set_option maxRecDepth 4000 in
theorem tbC_X2_chooseSides_52 {d : Nat} {E : hg_Et} {X : hg_X} {P : hg_M → Prop} {J2 : Int32 → Int32 → Int32 → hg_M → Prop} (hC : hg_C hg_FC 6 (d + 2) E cX2_chooseSides RX2 X) (hR : hg_Rnv hg_FC hg_rC P X) (hJ2 : ∀ (x1 : Int32) (x2 : Int32) (x3 : Int32) (σ : hg_M), J2 x1 x2 x3 σ → hg_G hg_FC 6 X 2 [(0, .ref (hg_ad X 25)), (1, .int x1), (2, .int x2), (3, .int x3)] [] σ hg_rC) (x1 : Int32) (x2 : Int32) (x3 : Int32) (x4 : Int32) (x5 : Int32) (σ : hg_M) (hw : bC_X2_chooseSides_52 P J2 x1 x2 x3 x4 x5 σ) : hg_G hg_FC 6 X 52 [(0, .ref (hg_ad X 25)), (1, .int x1), (2, .int x2), (3, .int x3), (4, .int x4), (5, .int x5)] [] σ hg_rC := by
  unfold bC_X2_chooseSides_52 at hw
  refine hg_aload_n hC dX2_chooseSides_52 rfl 0 rfl (n := 53) rfl ?_
  refine hg_getr hC fl_RX2_22 dX2_chooseSides_53 qC_25 kC_25 fC_2_2 rC_25_2 (n := 56) rfl ?_
  refine hg_iload_n hC dX2_chooseSides_56 rfl 3 rfl (n := 57) rfl ?_
  refine hg_aload_n hC dX2_chooseSides_57 rfl 0 rfl (n := 58) rfl ?_
  refine hg_getr hC fl_RX2_12 dX2_chooseSides_58 qC_25 kC_25 fC_2_0 rC_25_0 (n := 61) rfl ?_
  refine hg_bipush hC dX2_chooseSides_61 hl_b13 (n := 63) rfl ?_
  refine hg_iconst hC dX2_chooseSides_63 hl_im1 (n := 64) rfl ?_
  refine hg_iload_n hC dX2_chooseSides_64 rfl 1 rfl (n := 65) rfl ?_
  refine hg_iload hC dX2_chooseSides_65 4 rfl (n := 67) rfl ?_
  refine hg_iload hC dX2_chooseSides_67 5 rfl (n := 69) rfl ?_
  refine hg_cVi hC (tC_X0_add (hg_Eof hC) X.2.1 (d + 0) _ _ _ _ _ _ _ hw) sv_RX2_95 dX2_chooseSides_69 qC_42 kC_42 c_0 rfl (rest := [.int x3, .ref (hg_ad X 27)]) rfl (Nat.le_of_ble_eq_true rfl) (n := 72) rfl (fun r5 σ4 hw => ?_)
  obtain ⟨h9, hw⟩ := hw
  refine hg_iast hC dX2_chooseSides_72 qC_27 kC_27 h9 (n := 73) rfl (fun σ6 eσ6 => ?_)
  have hw := hw σ6 eσ6
  exact hg_sub [0, 1, 2, 3] rfl (tbC_X2_chooseSides_73 hC hR hJ2 x1 x2 x3 σ6 hw)
set_option maxRecDepth 4000 in
theorem tlC_X2_chooseSides_2 {d : Nat} {E : hg_Et} {X : hg_X} {P : hg_M → Prop}  (hC : hg_C hg_FC 6 (d + 2) E cX2_chooseSides RX2 X) (hR : hg_Rnv hg_FC hg_rC P X)  (n : Nat) : ∀ (x1 : Int32) (x2 : Int32) (x3 : Int32) (σ : hg_M), lC_X2_chooseSides_2 P n x1 x2 x3 σ → hg_G hg_FC 6 X 2 [(0, .ref (hg_ad X 25)), (1, .int x1), (2, .int x2), (3, .int x3)] [] σ hg_rC := by
  induction n with
  | zero =>
    intro x1 x2 x3 σ hw
    rw [lC_X2_chooseSides_2] at hw
    exact hw.elim
  | succ n ih =>
    intro x1 x2 x3 σ hw
    rw [lC_X2_chooseSides_2] at hw
    refine hg_iload_n hC dX2_chooseSides_2 rfl 3 rfl (n := 3) rfl ?_
    refine hg_bipush hC dX2_chooseSides_3 hl_b16 (n := 5) rfl ?_
    refine hg_icmp_ge hC dX2_chooseSides_5 (tg := 79) rfl (n := 8) rfl (fun h9 => ?_) (fun h9 => ?_)
    · have hw := hw.1 h9
      exact hg_retv hC hR dX2_chooseSides_79 hw
    · have hw := hw.2 h9
      refine hg_aload_n hC dX2_chooseSides_8 rfl 0 rfl (n := 9) rfl ?_
      refine hg_getr hC fl_RX2_31 dX2_chooseSides_9 qC_25 kC_25 fC_2_4 rC_25_4 (n := 12) rfl ?_
      refine hg_iload_n hC dX2_chooseSides_12 rfl 2 rfl (n := 13) rfl ?_
      obtain ⟨hr13, hw⟩ := hw
      refine hg_aald hC (r := 36 + (x2).toNatClampNeg) dX2_chooseSides_13 qC_35 kC_35 hr13 rfl (n := 14) rfl ?_
      refine hg_iload_n hC dX2_chooseSides_14 rfl 3 rfl (n := 15) rfl ?_
      obtain ⟨h9, hw⟩ := hw
      refine hg_iald hC dX2_chooseSides_15 (QC_36 (hg_lt hr13)) (KC_36 (hg_lt hr13)) h9 (n := 16) rfl ?_
      refine hg_topi (fun v1 ev1 => ?_)
      have hw := hw v1 ev1
      refine hg_istore hC (L1 := [(4, .int v1), (0, .ref (hg_ad X 25)), (1, .int x1), (2, .int x2), (3, .int x3)]) dX2_chooseSides_16 (by decide) rfl (n := 18) rfl ?_
      refine hg_aload_n hC dX2_chooseSides_18 rfl 1 rfl (n := 19) rfl ?_
      refine hg_getr hC fl_RX2_22 dX2_chooseSides_19 qC_25 kC_25 fC_2_2 rC_25_2 (n := 22) rfl ?_
      refine hg_iload_n hC dX2_chooseSides_22 rfl 4 rfl (n := 23) rfl ?_
      obtain ⟨h9, hw⟩ := hw
      refine hg_iald hC dX2_chooseSides_23 qC_27 kC_27 h9 (n := 24) rfl ?_
      refine hg_topi (fun v2 ev2 => ?_)
      have hw := hw v2 ev2
      refine hg_istore hC (L1 := [(5, .int v2), (4, .int v1), (0, .ref (hg_ad X 25)), (1, .int x1), (2, .int x2), (3, .int x3)]) dX2_chooseSides_24 (by decide) rfl (n := 26) rfl ?_
      refine hg_iload hC dX2_chooseSides_26 1 rfl (n := 28) rfl ?_
      refine hg_aload_n hC dX2_chooseSides_28 rfl 2 rfl (n := 29) rfl ?_
      refine hg_getr hC fl_RX2_28 dX2_chooseSides_29 qC_25 kC_25 fC_2_3 rC_25_3 (n := 32) rfl ?_
      refine hg_iload_n hC dX2_chooseSides_32 rfl 4 rfl (n := 33) rfl ?_
      obtain ⟨hr33, hw⟩ := hw
      refine hg_aald hC (r := 29 + (x2).toNatClampNeg) dX2_chooseSides_33 qC_28 kC_28 hr33 rfl (n := 34) rfl ?_
      refine hg_iload_n hC dX2_chooseSides_34 rfl 5 rfl (n := 35) rfl ?_
      obtain ⟨h9, hw⟩ := hw
      refine hg_iald hC dX2_chooseSides_35 (QC_29 (hg_lt hr33)) (KC_29 (hg_lt hr33)) h9 (n := 36) rfl ?_
      refine hg_icmp_ne hC dX2_chooseSides_36 (tg := 52) rfl (n := 39) rfl (fun h9 => ?_) (fun h9 => ?_)
      · have hw := hw.1 h9
        exact hg_sub [2, 3, 4, 5, 1, 0] rfl (tbC_X2_chooseSides_52 hC hR ih x1 x2 x3 v1 v2 σ hw)
      · have hw := hw.2 h9
        refine hg_iload hC dX2_chooseSides_39 0 rfl (n := 41) rfl ?_
        refine hg_aload_n hC dX2_chooseSides_41 rfl 2 rfl (n := 42) rfl ?_
        refine hg_getr hC fl_RX2_28 dX2_chooseSides_42 qC_25 kC_25 fC_2_3 rC_25_3 (n := 45) rfl ?_
        refine hg_iload_n hC dX2_chooseSides_45 rfl 4 rfl (n := 46) rfl ?_
        obtain ⟨hr46, hw⟩ := hw
        refine hg_aald hC (r := 29 + (x2).toNatClampNeg) dX2_chooseSides_46 qC_28 kC_28 hr46 rfl (n := 47) rfl ?_
        refine hg_iload_n hC dX2_chooseSides_47 rfl 5 rfl (n := 48) rfl ?_
        obtain ⟨h9, hw⟩ := hw
        refine hg_iald hC dX2_chooseSides_48 (QC_29 (hg_lt hr46)) (KC_29 (hg_lt hr46)) h9 (n := 49) rfl ?_
        refine hg_icmp_eq hC dX2_chooseSides_49 (tg := 73) rfl (n := 52) rfl (fun h9 => ?_) (fun h9 => ?_)
        · have hw := hw.1 h9
          exact hg_sub [2, 3, 4, 5] rfl (tbC_X2_chooseSides_73 hC hR ih x1 x2 x3 σ hw)
        · have hw := hw.2 h9
          exact hg_sub [2, 3, 4, 5, 1, 0] rfl (tbC_X2_chooseSides_52 hC hR ih x1 x2 x3 v1 v2 σ hw)
set_option maxRecDepth 4000 in
theorem tC_X2_chooseSides {E : hg_Et} (hE : hg_Eok E) (l : Launch) (d : Nat) (x1 : Int32) (x2 : Int32) (σ : hg_M) (P : hg_M → Prop) (hw : wC_X2_chooseSides x1 x2 σ P) : hg_Nv hg_FC E l yX2_chooseSides cX2_chooseSides 6 (d + 2) (fun ad => [.ref (ad 25), .int x1, .int x2]) hg_rC σ P := by
  refine hg_nv hE (by decide) (fun _ => Nat.le_of_ble_eq_true rfl) (fun X hC hR hl => ?_)
  subst hl
  have hC : hg_C hg_FC 6 (d + 2) E cX2_chooseSides RX2 X := hC
  show hg_G hg_FC 6 X 0 [(0, .ref (hg_ad X 25)), (1, .int x1), (2, .int x2)] [] σ hg_rC
  unfold wC_X2_chooseSides at hw
  refine hg_iconst hC dX2_chooseSides_0 hl_i0 (n := 1) rfl ?_
  refine hg_istore_n hC (L1 := [(3, .int (0 : Int32)), (0, .ref (hg_ad X 25)), (1, .int x1), (2, .int x2)]) dX2_chooseSides_1 rfl (by decide) rfl (n := 2) rfl ?_
  obtain ⟨n9, hw⟩ := hw
  exact hg_sub [1, 2, 3, 0] rfl (tlC_X2_chooseSides_2 hC hR  n9 x1 x2 (0 : Int32) σ hw)
def bC_X2_moveBack_43 (P : hg_M → Prop) (J2 : Int32 → hg_M → Prop) (x1 : Int32) (σ : hg_M) : Prop := ∀ v4 : Int32, v4 = x1 + (1 : Int32) → J2 v4 σ
def lC_X2_moveBack_2 (P : hg_M → Prop)  : Nat → Int32 → hg_M → Prop
  | 0, _, _ => False
  | n + 1, x1, σ => (((16 : Int32) ≤ x1 → P σ) ∧ (¬ ((16 : Int32) ≤ x1) → vp_in x1 16 ∧ ((((σ 27 (x1).toNatClampNeg) = x1 → bC_X2_moveBack_43 P (fun k0 k1 => lC_X2_moveBack_2 P n k0 k1) x1 σ) ∧ (¬ ((σ 27 (x1).toNatClampNeg) = x1) → vp_in x1 16 ∧ (wC_X0_add (1 : Int32) x1 (σ 27 (x1).toNatClampNeg) (0 : Int32) (0 : Int32) σ (fun r2 σ1 => vp_in x1 16 ∧ (∀ σ3 : hg_M, σ3 = hg_set σ1 27 (x1).toNatClampNeg x1 → bC_X2_moveBack_43 P (fun k0 k1 => lC_X2_moveBack_2 P n k0 k1) x1 σ3))))))))
def wC_X2_moveBack  (σ : hg_M) (P : hg_M → Prop) : Prop := (∃ f9, lC_X2_moveBack_2 P f9 (0 : Int32) σ)
set_option maxRecDepth 4000 in
theorem tbC_X2_moveBack_43 {d : Nat} {E : hg_Et} {X : hg_X} {P : hg_M → Prop} {J2 : Int32 → hg_M → Prop} (hC : hg_C hg_FC 2 (d + 2) E cX2_moveBack RX2 X) (hR : hg_Rnv hg_FC hg_rC P X) (hJ2 : ∀ (x1 : Int32) (σ : hg_M), J2 x1 σ → hg_G hg_FC 2 X 2 [(0, .ref (hg_ad X 25)), (1, .int x1)] [] σ hg_rC) (x1 : Int32) (σ : hg_M) (hw : bC_X2_moveBack_43 P J2 x1 σ) : hg_G hg_FC 2 X 43 [(0, .ref (hg_ad X 25)), (1, .int x1)] [] σ hg_rC := by
  unfold bC_X2_moveBack_43 at hw
  obtain ⟨v4, ev4⟩ : ∃ z, z = x1 + (1 : Int32) := ⟨_, rfl⟩
  have hw := hw v4 ev4
  refine hg_iinc hC (v := v4) (L1 := [(1, .int v4), (0, .ref (hg_ad X 25))]) dX2_moveBack_43 1 rfl (by rw [hl_i1, ev4]) (by decide) rfl (n := 46) rfl ?_
  refine hg_goto hC dX2_moveBack_46 (tg := 2) rfl ?_
  exact hg_sub [1, 0] rfl (hJ2 v4 σ hw)
set_option maxRecDepth 4000 in
theorem tlC_X2_moveBack_2 {d : Nat} {E : hg_Et} {X : hg_X} {P : hg_M → Prop}  (hC : hg_C hg_FC 2 (d + 2) E cX2_moveBack RX2 X) (hR : hg_Rnv hg_FC hg_rC P X)  (n : Nat) : ∀ (x1 : Int32) (σ : hg_M), lC_X2_moveBack_2 P n x1 σ → hg_G hg_FC 2 X 2 [(0, .ref (hg_ad X 25)), (1, .int x1)] [] σ hg_rC := by
  induction n with
  | zero =>
    intro x1 σ hw
    rw [lC_X2_moveBack_2] at hw
    exact hw.elim
  | succ n ih =>
    intro x1 σ hw
    rw [lC_X2_moveBack_2] at hw
    refine hg_iload_n hC dX2_moveBack_2 rfl 1 rfl (n := 3) rfl ?_
    refine hg_bipush hC dX2_moveBack_3 hl_b16 (n := 5) rfl ?_
    refine hg_icmp_ge hC dX2_moveBack_5 (tg := 49) rfl (n := 8) rfl (fun h9 => ?_) (fun h9 => ?_)
    · have hw := hw.1 h9
      exact hg_retv hC hR dX2_moveBack_49 hw
    · have hw := hw.2 h9
      refine hg_aload_n hC dX2_moveBack_8 rfl 0 rfl (n := 9) rfl ?_
      refine hg_getr hC fl_RX2_22 dX2_moveBack_9 qC_25 kC_25 fC_2_2 rC_25_2 (n := 12) rfl ?_
      refine hg_iload_n hC dX2_moveBack_12 rfl 1 rfl (n := 13) rfl ?_
      obtain ⟨h9, hw⟩ := hw
      refine hg_iald hC dX2_moveBack_13 qC_27 kC_27 h9 (n := 14) rfl ?_
      refine hg_iload_n hC dX2_moveBack_14 rfl 1 rfl (n := 15) rfl ?_
      refine hg_icmp_eq hC dX2_moveBack_15 (tg := 43) rfl (n := 18) rfl (fun h9 => ?_) (fun h9 => ?_)
      · have hw := hw.1 h9
        exact tbC_X2_moveBack_43 hC hR ih x1 σ hw
      · have hw := hw.2 h9
        refine hg_aload_n hC dX2_moveBack_18 rfl 0 rfl (n := 19) rfl ?_
        refine hg_getr hC fl_RX2_12 dX2_moveBack_19 qC_25 kC_25 fC_2_0 rC_25_0 (n := 22) rfl ?_
        refine hg_iconst hC dX2_moveBack_22 hl_i1 (n := 23) rfl ?_
        refine hg_iload_n hC dX2_moveBack_23 rfl 1 rfl (n := 24) rfl ?_
        refine hg_aload_n hC dX2_moveBack_24 rfl 0 rfl (n := 25) rfl ?_
        refine hg_getr hC fl_RX2_22 dX2_moveBack_25 qC_25 kC_25 fC_2_2 rC_25_2 (n := 28) rfl ?_
        refine hg_iload_n hC dX2_moveBack_28 rfl 1 rfl (n := 29) rfl ?_
        obtain ⟨h9, hw⟩ := hw
        refine hg_iald hC dX2_moveBack_29 qC_27 kC_27 h9 (n := 30) rfl ?_
        refine hg_iconst hC dX2_moveBack_30 hl_i0 (n := 31) rfl ?_
        refine hg_iconst hC dX2_moveBack_31 hl_i0 (n := 32) rfl ?_
        refine hg_cVi hC (tC_X0_add (hg_Eof hC) X.2.1 (d + 0) _ _ _ _ _ _ _ hw) sv_RX2_95 dX2_moveBack_32 qC_42 kC_42 c_0 rfl (rest := []) rfl (Nat.le_of_ble_eq_true rfl) (n := 35) rfl (fun r2 σ1 hw => ?_)
        refine hg_pop hC dX2_moveBack_35 rfl (n := 36) rfl ?_
        refine hg_aload_n hC dX2_moveBack_36 rfl 0 rfl (n := 37) rfl ?_
        refine hg_getr hC fl_RX2_22 dX2_moveBack_37 qC_25 kC_25 fC_2_2 rC_25_2 (n := 40) rfl ?_
        refine hg_iload_n hC dX2_moveBack_40 rfl 1 rfl (n := 41) rfl ?_
        refine hg_iload_n hC dX2_moveBack_41 rfl 1 rfl (n := 42) rfl ?_
        obtain ⟨h9, hw⟩ := hw
        refine hg_iast hC dX2_moveBack_42 qC_27 kC_27 h9 (n := 43) rfl (fun σ3 eσ3 => ?_)
        have hw := hw σ3 eσ3
        exact tbC_X2_moveBack_43 hC hR ih x1 σ3 hw
set_option maxRecDepth 4000 in
theorem tC_X2_moveBack {E : hg_Et} (hE : hg_Eok E) (l : Launch) (d : Nat)  (σ : hg_M) (P : hg_M → Prop) (hw : wC_X2_moveBack  σ P) : hg_Nv hg_FC E l yX2_moveBack cX2_moveBack 2 (d + 2) (fun ad => [.ref (ad 25)]) hg_rC σ P := by
  refine hg_nv hE (by decide) (fun _ => Nat.le_of_ble_eq_true rfl) (fun X hC hR hl => ?_)
  subst hl
  have hC : hg_C hg_FC 2 (d + 2) E cX2_moveBack RX2 X := hC
  show hg_G hg_FC 2 X 0 [(0, .ref (hg_ad X 25))] [] σ hg_rC
  unfold wC_X2_moveBack at hw
  refine hg_iconst hC dX2_moveBack_0 hl_i0 (n := 1) rfl ?_
  refine hg_istore_n hC (L1 := [(1, .int (0 : Int32)), (0, .ref (hg_ad X 25))]) dX2_moveBack_1 rfl (by decide) rfl (n := 2) rfl ?_
  obtain ⟨n9, hw⟩ := hw
  exact hg_sub [1, 0] rfl (tlC_X2_moveBack_2 hC hR  n9 (0 : Int32) σ hw)
def wC_X1_begin  (σ : hg_M) (P : hg_M → Prop) : Prop := wC_J7_fill_53178 (0 : Int32) σ (fun σ1 => ((¬ (0 : Int32) < 0) ∧ (¬ (0 : Int32) < 0) ∧ (¬ (16 : Int32) < 0) ∧ ((0 : Int32)).toNatClampNeg + ((16 : Int32)).toNatClampNeg ≤ 16 ∧ ((0 : Int32)).toNatClampNeg + ((16 : Int32)).toNatClampNeg ≤ 736) ∧ (∀ σ2 : hg_M, σ2 = hg_cpy σ1 1 54 ((0 : Int32)).toNatClampNeg ((0 : Int32)).toNatClampNeg ((16 : Int32)).toNatClampNeg → ((¬ (0 : Int32) < 0) ∧ (¬ (0 : Int32) < 0) ∧ (¬ (32 : Int32) < 0) ∧ ((0 : Int32)).toNatClampNeg + ((32 : Int32)).toNatClampNeg ≤ 32 ∧ ((0 : Int32)).toNatClampNeg + ((32 : Int32)).toNatClampNeg ≤ 32) ∧ (∀ σ3 : hg_M, σ3 = hg_cpy σ2 2 55 ((0 : Int32)).toNatClampNeg ((0 : Int32)).toNatClampNeg ((32 : Int32)).toNatClampNeg → ∀ σ4 : hg_M, σ4 = hg_set σ3 53 3 (0 : Int32) → ∀ σ5 : hg_M, σ5 = hg_set σ4 53 4 (0 : Int32) → ∀ σ6 : hg_M, σ6 = hg_set σ5 53 5 (-1 : Int32) → ∀ σ7 : hg_M, σ7 = hg_set σ6 53 6 (0 : Int32) → P σ7)))
set_option maxRecDepth 4000 in
theorem tC_X1_begin {E : hg_Et} (hE : hg_Eok E) (l : Launch) (d : Nat)  (σ : hg_M) (P : hg_M → Prop) (hw : wC_X1_begin  σ P) : hg_Nv hg_FC E l yX1_begin cX1_begin 3 (d + 2) (fun ad => [.ref (ad 53), .ref (ad 1), .ref (ad 2)]) hg_rC σ P := by
  refine hg_nv hE (by decide) (fun _ => Nat.le_of_ble_eq_true rfl) (fun X hC hR hl => ?_)
  subst hl
  have hC : hg_C hg_FC 3 (d + 2) E cX1_begin RX1 X := hC
  show hg_G hg_FC 3 X 0 [(0, .ref (hg_ad X 53)), (1, .ref (hg_ad X 1)), (2, .ref (hg_ad X 2))] [] σ hg_rC
  unfold wC_X1_begin at hw
  refine hg_aload_n hC dX1_begin_0 rfl 0 rfl (n := 1) rfl ?_
  refine hg_getr hC fl_RX1_9 dX1_begin_1 qC_53 kC_53 fC_1_0 rC_53_0 (n := 4) rfl ?_
  refine hg_iconst hC dX1_begin_4 hl_i0 (n := 5) rfl ?_
  refine hg_cSv hC (tC_J7_fill_53178 (hg_Eof hC) X.2.1 (d + 0) _ _ _ hw) ss_RX1_34 dX1_begin_5 rfl (rest := []) rfl (Nat.le_of_ble_eq_true rfl) (n := 8) rfl (fun σ1 hw => ?_)
  refine hg_aload_n hC dX1_begin_8 rfl 1 rfl (n := 9) rfl ?_
  refine hg_iconst hC dX1_begin_9 hl_i0 (n := 10) rfl ?_
  refine hg_aload_n hC dX1_begin_10 rfl 0 rfl (n := 11) rfl ?_
  refine hg_getr hC fl_RX1_9 dX1_begin_11 qC_53 kC_53 fC_1_0 rC_53_0 (n := 14) rfl ?_
  refine hg_iconst hC dX1_begin_14 hl_i0 (n := 15) rfl ?_
  refine hg_bipush hC dX1_begin_15 hl_b16 (n := 17) rfl ?_
  obtain ⟨h9, hw⟩ := hw
  refine hg_copy hC ac_RX1_40 ac_1 ac_2 ac_3 qC_1 kC_1 qC_54 kC_54 h9 (Nat.le_of_ble_eq_true rfl) dX1_begin_17 (n := 20) rfl (fun σ2 eσ2 => ?_)
  have hw := hw σ2 eσ2
  refine hg_aload_n hC dX1_begin_20 rfl 2 rfl (n := 21) rfl ?_
  refine hg_iconst hC dX1_begin_21 hl_i0 (n := 22) rfl ?_
  refine hg_aload_n hC dX1_begin_22 rfl 0 rfl (n := 23) rfl ?_
  refine hg_getr hC fl_RX1_15 dX1_begin_23 qC_53 kC_53 fC_1_1 rC_53_1 (n := 26) rfl ?_
  refine hg_iconst hC dX1_begin_26 hl_i0 (n := 27) rfl ?_
  refine hg_bipush hC dX1_begin_27 hl_b32 (n := 29) rfl ?_
  obtain ⟨h9, hw⟩ := hw
  refine hg_copy hC ac_RX1_40 ac_1 ac_2 ac_3 qC_2 kC_2 qC_55 kC_55 h9 (Nat.le_of_ble_eq_true rfl) dX1_begin_29 (n := 32) rfl (fun σ3 eσ3 => ?_)
  have hw := hw σ3 eσ3
  refine hg_aload_n hC dX1_begin_32 rfl 0 rfl (n := 33) rfl ?_
  refine hg_iconst hC dX1_begin_33 hl_i0 (n := 34) rfl ?_
  refine hg_puti hC fp_RX1_21 dX1_begin_34 qC_53 kC_53 fC_1_3 rfl rfl (n := 37) rfl (fun σ4 eσ4 => ?_)
  have hw := hw σ4 eσ4
  refine hg_aload_n hC dX1_begin_37 rfl 0 rfl (n := 38) rfl ?_
  refine hg_iconst hC dX1_begin_38 hl_i0 (n := 39) rfl ?_
  refine hg_puti hC fp_RX1_25 dX1_begin_39 qC_53 kC_53 fC_1_4 rfl rfl (n := 42) rfl (fun σ5 eσ5 => ?_)
  have hw := hw σ5 eσ5
  refine hg_aload_n hC dX1_begin_42 rfl 0 rfl (n := 43) rfl ?_
  refine hg_iconst hC dX1_begin_43 hl_im1 (n := 44) rfl ?_
  refine hg_puti hC fp_RX1_28 dX1_begin_44 qC_53 kC_53 fC_1_5 rfl rfl (n := 47) rfl (fun σ6 eσ6 => ?_)
  have hw := hw σ6 eσ6
  refine hg_aload_n hC dX1_begin_47 rfl 0 rfl (n := 48) rfl ?_
  refine hg_iconst hC dX1_begin_48 hl_i0 (n := 49) rfl ?_
  refine hg_puti hC fp_RX1_31 dX1_begin_49 qC_53 kC_53 fC_1_6 rfl rfl (n := 52) rfl (fun σ7 eσ7 => ?_)
  have hw := hw σ7 eσ7
  exact hg_retv hC hR dX1_begin_52 hw
def bC_X1_valueOf_29 (P : Int32 → hg_M → Prop)  (t0 : Int32) (σ : hg_M) : Prop := P t0 σ
def wC_X1_valueOf (x2 : Int32) (σ : hg_M) (P : Int32 → hg_M → Prop) : Prop := vp_in x2 120 ∧ ((((σ 23 (x2).toNatClampNeg) = 0 → vp_in x2 120 ∧ (bC_X1_valueOf_29 P (σ 24 (x2).toNatClampNeg) σ)) ∧ (¬ (σ 23 (x2).toNatClampNeg) = 0 → vp_in x2 120 ∧ (vp_in (σ 24 (x2).toNatClampNeg) 736 ∧ (bC_X1_valueOf_29 P (σ 54 ((σ 24 (x2).toNatClampNeg)).toNatClampNeg) σ)))))
set_option maxRecDepth 4000 in
theorem tbC_X1_valueOf_29 {d : Nat} {E : hg_Et} {X : hg_X} {P : Int32 → hg_M → Prop}  (hC : hg_C hg_FC 3 (d + 1) E cX1_valueOf RX1 X) (hR : hg_Rni hg_FC (some .int) hg_rC P X)  (t0 : Int32) (σ : hg_M) (hw : bC_X1_valueOf_29 P t0 σ) : hg_G hg_FC 3 X 29 [] [.int t0] σ hg_rC := by
  unfold bC_X1_valueOf_29 at hw
  exact hg_reti hC hR dX1_valueOf_29 hw
set_option maxRecDepth 4000 in
theorem tC_X1_valueOf {E : hg_Et} (hE : hg_Eok E) (l : Launch) (d : Nat) (x2 : Int32) (σ : hg_M) (P : Int32 → hg_M → Prop) (hw : wC_X1_valueOf x2 σ P) : hg_Ni hg_FC E l yX1_valueOf cX1_valueOf 3 (some .int) (d + 1) (fun ad => [.ref (ad 53), .ref (ad 16), .int x2]) hg_rC σ P := by
  refine hg_ni hE (by decide) (fun _ => Nat.le_of_ble_eq_true rfl) (fun X hC hR hl => ?_)
  subst hl
  have hC : hg_C hg_FC 3 (d + 1) E cX1_valueOf RX1 X := hC
  show hg_G hg_FC 3 X 0 [(0, .ref (hg_ad X 53)), (1, .ref (hg_ad X 16)), (2, .int x2)] [] σ hg_rC
  unfold wC_X1_valueOf at hw
  refine hg_aload_n hC dX1_valueOf_0 rfl 1 rfl (n := 1) rfl ?_
  refine hg_getr hC fl_RX1_89 dX1_valueOf_1 qC_16 kC_16 fC_3_6 rC_16_6 (n := 4) rfl ?_
  refine hg_iload_n hC dX1_valueOf_4 rfl 2 rfl (n := 5) rfl ?_
  obtain ⟨h9, hw⟩ := hw
  refine hg_zald hC dX1_valueOf_5 qC_23 kC_23 h9 (n := 6) rfl ?_
  refine hg_if_eq hC dX1_valueOf_6 (tg := 23) rfl (n := 9) rfl (fun h9 => ?_) (fun h9 => ?_)
  · have hw := hw.1 h9
    refine hg_aload_n hC dX1_valueOf_23 rfl 1 rfl (n := 24) rfl ?_
    refine hg_getr hC fl_RX1_93 dX1_valueOf_24 qC_16 kC_16 fC_3_7 rC_16_7 (n := 27) rfl ?_
    refine hg_iload_n hC dX1_valueOf_27 rfl 2 rfl (n := 28) rfl ?_
    obtain ⟨h9, hw⟩ := hw
    refine hg_iald hC dX1_valueOf_28 qC_24 kC_24 h9 (n := 29) rfl ?_
    exact hg_sub [] rfl (tbC_X1_valueOf_29 hC hR  (σ 24 (x2).toNatClampNeg) σ hw)
  · have hw := hw.2 h9
    refine hg_aload_n hC dX1_valueOf_9 rfl 0 rfl (n := 10) rfl ?_
    refine hg_getr hC fl_RX1_9 dX1_valueOf_10 qC_53 kC_53 fC_1_0 rC_53_0 (n := 13) rfl ?_
    refine hg_aload_n hC dX1_valueOf_13 rfl 1 rfl (n := 14) rfl ?_
    refine hg_getr hC fl_RX1_93 dX1_valueOf_14 qC_16 kC_16 fC_3_7 rC_16_7 (n := 17) rfl ?_
    refine hg_iload_n hC dX1_valueOf_17 rfl 2 rfl (n := 18) rfl ?_
    obtain ⟨h9, hw⟩ := hw
    refine hg_iald hC dX1_valueOf_18 qC_24 kC_24 h9 (n := 19) rfl ?_
    obtain ⟨h9, hw⟩ := hw
    refine hg_iald hC dX1_valueOf_19 qC_54 kC_54 h9 (n := 20) rfl ?_
    refine hg_goto hC dX1_valueOf_20 (tg := 29) rfl ?_
    exact hg_sub [] rfl (tbC_X1_valueOf_29 hC hR  (σ 54 ((σ 24 (x2).toNatClampNeg)).toNatClampNeg) σ hw)
def bC_X1_nextBehind_75 (P : Int32 → hg_M → Prop)  (t0 : Int32) (σ : hg_M) : Prop := P t0 σ
def bC_X1_nextBehind_56 (P : Int32 → hg_M → Prop)  (x2 : Int32) (t0 : Int32) (σ : hg_M) : Prop := ((t0 = 0 → bC_X1_nextBehind_75 P (x2 + (1 : Int32)) σ) ∧ (¬ t0 = 0 → vp_in x2 720 ∧ (bC_X1_nextBehind_75 P (σ 46 (x2).toNatClampNeg) σ)))
def bC_X1_nextBehind_55 (P : Int32 → hg_M → Prop)  (x2 : Int32) (σ : hg_M) : Prop := bC_X1_nextBehind_56 P x2 (0 : Int32) σ
def wC_X1_nextBehind (x2 : Int32) (σ : hg_M) (P : Int32 → hg_M → Prop) : Prop := vp_in x2 720 ∧ ((((σ 44 (x2).toNatClampNeg) ≠ (16 : Int32) → vp_in x2 720 ∧ ((((σ 44 (x2).toNatClampNeg) ≠ (17 : Int32) → bC_X1_nextBehind_55 P x2 σ) ∧ ((σ 44 (x2).toNatClampNeg) = (17 : Int32) → vp_in x2 720 ∧ (vp_in (σ 45 (x2).toNatClampNeg) 736 ∧ ((((σ 54 ((σ 45 (x2).toNatClampNeg)).toNatClampNeg) ≠ 0 → bC_X1_nextBehind_55 P x2 σ) ∧ ((σ 54 ((σ 45 (x2).toNatClampNeg)).toNatClampNeg) = 0 → bC_X1_nextBehind_56 P x2 (1 : Int32) σ)))))))) ∧ ((σ 44 (x2).toNatClampNeg) = (16 : Int32) → vp_in x2 720 ∧ (P (σ 45 (x2).toNatClampNeg) σ))))
set_option maxRecDepth 4000 in
theorem tbC_X1_nextBehind_75 {d : Nat} {E : hg_Et} {X : hg_X} {P : Int32 → hg_M → Prop}  (hC : hg_C hg_FC 4 (d + 1) E cX1_nextBehind RX1 X) (hR : hg_Rni hg_FC (some .int) hg_rC P X)  (t0 : Int32) (σ : hg_M) (hw : bC_X1_nextBehind_75 P t0 σ) : hg_G hg_FC 4 X 75 [] [.int t0] σ hg_rC := by
  unfold bC_X1_nextBehind_75 at hw
  exact hg_reti hC hR dX1_nextBehind_75 hw
set_option maxRecDepth 4000 in
theorem tbC_X1_nextBehind_56 {d : Nat} {E : hg_Et} {X : hg_X} {P : Int32 → hg_M → Prop}  (hC : hg_C hg_FC 4 (d + 1) E cX1_nextBehind RX1 X) (hR : hg_Rni hg_FC (some .int) hg_rC P X)  (x2 : Int32) (t0 : Int32) (σ : hg_M) (hw : bC_X1_nextBehind_56 P x2 t0 σ) : hg_G hg_FC 4 X 56 [(1, .ref (hg_ad X 42)), (2, .int x2)] [.int t0] σ hg_rC := by
  unfold bC_X1_nextBehind_56 at hw
  refine hg_istore_n hC (L1 := [(3, .int t0), (1, .ref (hg_ad X 42)), (2, .int x2)]) dX1_nextBehind_56 rfl (by decide) rfl (n := 57) rfl ?_
  refine hg_iload_n hC dX1_nextBehind_57 rfl 0 rfl (n := 58) rfl ?_
  refine hg_if_eq hC dX1_nextBehind_58 (tg := 72) rfl (n := 61) rfl (fun h9 => ?_) (fun h9 => ?_)
  · have hw := hw.1 h9
    refine hg_iload_n hC dX1_nextBehind_72 rfl 2 rfl (n := 73) rfl ?_
    refine hg_iconst hC dX1_nextBehind_73 hl_i1 (n := 74) rfl ?_
    refine hg_iadd hC dX1_nextBehind_74 (n := 75) rfl ?_
    exact hg_sub [] rfl (tbC_X1_nextBehind_75 hC hR  (x2 + (1 : Int32)) σ hw)
  · have hw := hw.2 h9
    refine hg_aload_n hC dX1_nextBehind_61 rfl 1 rfl (n := 62) rfl ?_
    refine hg_getr hC fl_RX1_127 dX1_nextBehind_62 qC_42 kC_42 fC_0_0 rC_42_0 (n := 65) rfl ?_
    refine hg_iconst hC dX1_nextBehind_65 hl_i2 (n := 66) rfl ?_
    refine hg_aald hC (r := 46) dX1_nextBehind_66 qC_43 kC_43 vi_2_6 riC_43_2 (n := 67) rfl ?_
    refine hg_iload_n hC dX1_nextBehind_67 rfl 2 rfl (n := 68) rfl ?_
    obtain ⟨h9, hw⟩ := hw
    refine hg_iald hC dX1_nextBehind_68 qC_46 kC_46 h9 (n := 69) rfl ?_
    refine hg_goto hC dX1_nextBehind_69 (tg := 75) rfl ?_
    exact hg_sub [] rfl (tbC_X1_nextBehind_75 hC hR  (σ 46 (x2).toNatClampNeg) σ hw)
set_option maxRecDepth 4000 in
theorem tbC_X1_nextBehind_55 {d : Nat} {E : hg_Et} {X : hg_X} {P : Int32 → hg_M → Prop}  (hC : hg_C hg_FC 4 (d + 1) E cX1_nextBehind RX1 X) (hR : hg_Rni hg_FC (some .int) hg_rC P X)  (x2 : Int32) (σ : hg_M) (hw : bC_X1_nextBehind_55 P x2 σ) : hg_G hg_FC 4 X 55 [(1, .ref (hg_ad X 42)), (2, .int x2)] [] σ hg_rC := by
  unfold bC_X1_nextBehind_55 at hw
  refine hg_iconst hC dX1_nextBehind_55 hl_i0 (n := 56) rfl ?_
  exact tbC_X1_nextBehind_56 hC hR  x2 (0 : Int32) σ hw
set_option maxRecDepth 4000 in
theorem tC_X1_nextBehind {E : hg_Et} (hE : hg_Eok E) (l : Launch) (d : Nat) (x2 : Int32) (σ : hg_M) (P : Int32 → hg_M → Prop) (hw : wC_X1_nextBehind x2 σ P) : hg_Ni hg_FC E l yX1_nextBehind cX1_nextBehind 4 (some .int) (d + 1) (fun ad => [.ref (ad 53), .ref (ad 42), .int x2]) hg_rC σ P := by
  refine hg_ni hE (by decide) (fun _ => Nat.le_of_ble_eq_true rfl) (fun X hC hR hl => ?_)
  subst hl
  have hC : hg_C hg_FC 4 (d + 1) E cX1_nextBehind RX1 X := hC
  show hg_G hg_FC 4 X 0 [(0, .ref (hg_ad X 53)), (1, .ref (hg_ad X 42)), (2, .int x2)] [] σ hg_rC
  unfold wC_X1_nextBehind at hw
  refine hg_aload_n hC dX1_nextBehind_0 rfl 1 rfl (n := 1) rfl ?_
  refine hg_getr hC fl_RX1_127 dX1_nextBehind_1 qC_42 kC_42 fC_0_0 rC_42_0 (n := 4) rfl ?_
  refine hg_iconst hC dX1_nextBehind_4 hl_i0 (n := 5) rfl ?_
  refine hg_aald hC (r := 44) dX1_nextBehind_5 qC_43 kC_43 vi_0_6 riC_43_0 (n := 6) rfl ?_
  refine hg_iload_n hC dX1_nextBehind_6 rfl 2 rfl (n := 7) rfl ?_
  obtain ⟨h9, hw⟩ := hw
  refine hg_iald hC dX1_nextBehind_7 qC_44 kC_44 h9 (n := 8) rfl ?_
  refine hg_bipush hC dX1_nextBehind_8 hl_b16 (n := 10) rfl ?_
  refine hg_icmp_ne hC dX1_nextBehind_10 (tg := 22) rfl (n := 13) rfl (fun h9 => ?_) (fun h9 => ?_)
  · have hw := hw.1 h9
    refine hg_aload_n hC dX1_nextBehind_22 rfl 1 rfl (n := 23) rfl ?_
    refine hg_getr hC fl_RX1_127 dX1_nextBehind_23 qC_42 kC_42 fC_0_0 rC_42_0 (n := 26) rfl ?_
    refine hg_iconst hC dX1_nextBehind_26 hl_i0 (n := 27) rfl ?_
    refine hg_aald hC (r := 44) dX1_nextBehind_27 qC_43 kC_43 vi_0_6 riC_43_0 (n := 28) rfl ?_
    refine hg_iload_n hC dX1_nextBehind_28 rfl 2 rfl (n := 29) rfl ?_
    obtain ⟨h9, hw⟩ := hw
    refine hg_iald hC dX1_nextBehind_29 qC_44 kC_44 h9 (n := 30) rfl ?_
    refine hg_bipush hC dX1_nextBehind_30 hl_b17 (n := 32) rfl ?_
    refine hg_icmp_ne hC dX1_nextBehind_32 (tg := 55) rfl (n := 35) rfl (fun h9 => ?_) (fun h9 => ?_)
    · have hw := hw.1 h9
      exact hg_sub [1, 2] rfl (tbC_X1_nextBehind_55 hC hR  x2 σ hw)
    · have hw := hw.2 h9
      refine hg_aload_n hC dX1_nextBehind_35 rfl 0 rfl (n := 36) rfl ?_
      refine hg_getr hC fl_RX1_9 dX1_nextBehind_36 qC_53 kC_53 fC_1_0 rC_53_0 (n := 39) rfl ?_
      refine hg_aload_n hC dX1_nextBehind_39 rfl 1 rfl (n := 40) rfl ?_
      refine hg_getr hC fl_RX1_127 dX1_nextBehind_40 qC_42 kC_42 fC_0_0 rC_42_0 (n := 43) rfl ?_
      refine hg_iconst hC dX1_nextBehind_43 hl_i1 (n := 44) rfl ?_
      refine hg_aald hC (r := 45) dX1_nextBehind_44 qC_43 kC_43 vi_1_6 riC_43_1 (n := 45) rfl ?_
      refine hg_iload_n hC dX1_nextBehind_45 rfl 2 rfl (n := 46) rfl ?_
      obtain ⟨h9, hw⟩ := hw
      refine hg_iald hC dX1_nextBehind_46 qC_45 kC_45 h9 (n := 47) rfl ?_
      obtain ⟨h9, hw⟩ := hw
      refine hg_iald hC dX1_nextBehind_47 qC_54 kC_54 h9 (n := 48) rfl ?_
      refine hg_if_ne hC dX1_nextBehind_48 (tg := 55) rfl (n := 51) rfl (fun h9 => ?_) (fun h9 => ?_)
      · have hw := hw.1 h9
        exact hg_sub [1, 2] rfl (tbC_X1_nextBehind_55 hC hR  x2 σ hw)
      · have hw := hw.2 h9
        refine hg_iconst hC dX1_nextBehind_51 hl_i1 (n := 52) rfl ?_
        refine hg_goto hC dX1_nextBehind_52 (tg := 56) rfl ?_
        exact hg_sub [1, 2] rfl (tbC_X1_nextBehind_56 hC hR  x2 (1 : Int32) σ hw)
  · have hw := hw.2 h9
    refine hg_aload_n hC dX1_nextBehind_13 rfl 1 rfl (n := 14) rfl ?_
    refine hg_getr hC fl_RX1_127 dX1_nextBehind_14 qC_42 kC_42 fC_0_0 rC_42_0 (n := 17) rfl ?_
    refine hg_iconst hC dX1_nextBehind_17 hl_i1 (n := 18) rfl ?_
    refine hg_aald hC (r := 45) dX1_nextBehind_18 qC_43 kC_43 vi_1_6 riC_43_1 (n := 19) rfl ?_
    refine hg_iload_n hC dX1_nextBehind_19 rfl 2 rfl (n := 20) rfl ?_
    obtain ⟨h9, hw⟩ := hw
    refine hg_iald hC dX1_nextBehind_20 qC_45 kC_45 h9 (n := 21) rfl ?_
    exact hg_reti hC hR dX1_nextBehind_21 hw
def bC_X1_say_29 (P : hg_M → Prop)   (σ : hg_M) : Prop := P σ
def wC_X1_say (x1 : Int32) (σ : hg_M) (P : hg_M → Prop) : Prop := (((60 : Int32) ≤ (σ 53 3) → bC_X1_say_29 P σ) ∧ (¬ ((60 : Int32) ≤ (σ 53 3)) → vp_in (σ 53 3) 60 ∧ (∀ σ1 : hg_M, σ1 = hg_set σ 56 ((σ 53 3)).toNatClampNeg x1 → ∀ σ2 : hg_M, σ2 = hg_set σ1 53 3 ((σ1 53 3) + (1 : Int32)) → bC_X1_say_29 P σ2)))
set_option maxRecDepth 4000 in
theorem tbC_X1_say_29 {d : Nat} {E : hg_Et} {X : hg_X} {P : hg_M → Prop}  (hC : hg_C hg_FC 2 (d + 1) E cX1_say RX1 X) (hR : hg_Rnv hg_FC hg_rC P X)   (σ : hg_M) (hw : bC_X1_say_29 P  σ) : hg_G hg_FC 2 X 29 [] [] σ hg_rC := by
  unfold bC_X1_say_29 at hw
  exact hg_retv hC hR dX1_say_29 hw
set_option maxRecDepth 4000 in
theorem tC_X1_say {E : hg_Et} (hE : hg_Eok E) (l : Launch) (d : Nat) (x1 : Int32) (σ : hg_M) (P : hg_M → Prop) (hw : wC_X1_say x1 σ P) : hg_Nv hg_FC E l yX1_say cX1_say 2 (d + 1) (fun ad => [.ref (ad 53), .int x1]) hg_rC σ P := by
  refine hg_nv hE (by decide) (fun _ => Nat.le_of_ble_eq_true rfl) (fun X hC hR hl => ?_)
  subst hl
  have hC : hg_C hg_FC 2 (d + 1) E cX1_say RX1 X := hC
  show hg_G hg_FC 2 X 0 [(0, .ref (hg_ad X 53)), (1, .int x1)] [] σ hg_rC
  unfold wC_X1_say at hw
  refine hg_aload_n hC dX1_say_0 rfl 0 rfl (n := 1) rfl ?_
  refine hg_geti hC fl_RX1_21 dX1_say_1 qC_53 kC_53 fC_1_3 (n := 4) rfl ?_
  refine hg_bipush hC dX1_say_4 hl_b60 (n := 6) rfl ?_
  refine hg_icmp_ge hC dX1_say_6 (tg := 29) rfl (n := 9) rfl (fun h9 => ?_) (fun h9 => ?_)
  · have hw := hw.1 h9
    exact hg_sub [] rfl (tbC_X1_say_29 hC hR  σ hw)
  · have hw := hw.2 h9
    refine hg_aload_n hC dX1_say_9 rfl 0 rfl (n := 10) rfl ?_
    refine hg_getr hC fl_RX1_18 dX1_say_10 qC_53 kC_53 fC_1_2 rC_53_2 (n := 13) rfl ?_
    refine hg_aload_n hC dX1_say_13 rfl 0 rfl (n := 14) rfl ?_
    refine hg_geti hC fl_RX1_21 dX1_say_14 qC_53 kC_53 fC_1_3 (n := 17) rfl ?_
    refine hg_iload_n hC dX1_say_17 rfl 1 rfl (n := 18) rfl ?_
    obtain ⟨h9, hw⟩ := hw
    refine hg_iast hC dX1_say_18 qC_56 kC_56 h9 (n := 19) rfl (fun σ1 eσ1 => ?_)
    have hw := hw σ1 eσ1
    refine hg_aload_n hC dX1_say_19 rfl 0 rfl (n := 20) rfl ?_
    refine hg_dup hC dX1_say_20 rfl (n := 21) rfl ?_
    refine hg_geti hC fl_RX1_21 dX1_say_21 qC_53 kC_53 fC_1_3 (n := 24) rfl ?_
    refine hg_iconst hC dX1_say_24 hl_i1 (n := 25) rfl ?_
    refine hg_iadd hC dX1_say_25 (n := 26) rfl ?_
    refine hg_puti hC fp_RX1_21 dX1_say_26 qC_53 kC_53 fC_1_3 rfl rfl (n := 29) rfl (fun σ2 eσ2 => ?_)
    have hw := hw σ2 eσ2
    exact hg_sub [] rfl (tbC_X1_say_29 hC hR  σ2 hw)
def wC_X1_end (x1 : Int32) (x2 : Int32) (σ : hg_M) (P : hg_M → Prop) : Prop := ∀ σ1 : hg_M, σ1 = hg_set σ 53 4 x1 → ∀ σ2 : hg_M, σ2 = hg_set σ1 53 5 x2 → P σ2
set_option maxRecDepth 4000 in
theorem tC_X1_end {E : hg_Et} (hE : hg_Eok E) (l : Launch) (d : Nat) (x1 : Int32) (x2 : Int32) (σ : hg_M) (P : hg_M → Prop) (hw : wC_X1_end x1 x2 σ P) : hg_Nv hg_FC E l yX1_end cX1_end 3 (d + 1) (fun ad => [.ref (ad 53), .int x1, .int x2]) hg_rC σ P := by
  refine hg_nv hE (by decide) (fun _ => Nat.le_of_ble_eq_true rfl) (fun X hC hR hl => ?_)
  subst hl
  have hC : hg_C hg_FC 3 (d + 1) E cX1_end RX1 X := hC
  show hg_G hg_FC 3 X 0 [(0, .ref (hg_ad X 53)), (1, .int x1), (2, .int x2)] [] σ hg_rC
  unfold wC_X1_end at hw
  refine hg_aload_n hC dX1_end_0 rfl 0 rfl (n := 1) rfl ?_
  refine hg_iload_n hC dX1_end_1 rfl 1 rfl (n := 2) rfl ?_
  refine hg_puti hC fp_RX1_25 dX1_end_2 qC_53 kC_53 fC_1_4 rfl rfl (n := 5) rfl (fun σ1 eσ1 => ?_)
  have hw := hw σ1 eσ1
  refine hg_aload_n hC dX1_end_5 rfl 0 rfl (n := 6) rfl ?_
  refine hg_iload_n hC dX1_end_6 rfl 2 rfl (n := 7) rfl ?_
  refine hg_puti hC fp_RX1_28 dX1_end_7 qC_53 kC_53 fC_1_5 rfl rfl (n := 10) rfl (fun σ2 eσ2 => ?_)
  have hw := hw σ2 eσ2
  exact hg_retv hC hR dX1_end_10 hw
def wC_X5_fault  (σ : hg_M) (P : Int32 → hg_M → Prop) : Prop := P (σ 3 7) σ
set_option maxRecDepth 4000 in
theorem tC_X5_fault {E : hg_Et} (hE : hg_Eok E) (l : Launch) (d : Nat)  (σ : hg_M) (P : Int32 → hg_M → Prop) (hw : wC_X5_fault  σ P) : hg_Ni hg_FC E l yX5_fault cX5_fault 1 (some .int) (d + 1) (fun ad => [.ref (ad 0)]) hg_rC σ P := by
  refine hg_ni hE (by decide) (fun _ => Nat.le_of_ble_eq_true rfl) (fun X hC hR hl => ?_)
  subst hl
  have hC : hg_C hg_FC 1 (d + 1) E cX5_fault RX5 X := hC
  show hg_G hg_FC 1 X 0 [(0, .ref (hg_ad X 0))] [] σ hg_rC
  unfold wC_X5_fault at hw
  refine hg_aload_n hC dX5_fault_0 rfl 0 rfl (n := 1) rfl ?_
  refine hg_getr hC fl_RX5_19 dX5_fault_1 qC_0 kC_0 fC_5_2 rC_0_2 (n := 4) rfl ?_
  refine hg_geti hC fl_RX5_94 dX5_fault_4 qC_3 kC_3 fC_4_7 (n := 7) rfl ?_
  exact hg_reti hC hR dX5_fault_7 hw
def bC_X5_isWord_15 (P : Int32 → hg_M → Prop)  (t0 : Int32) (σ : hg_M) : Prop := ((t0 = 0 ∨ t0 = 1) ∧ P t0 σ)
def bC_X5_isWord_14 (P : Int32 → hg_M → Prop)   (σ : hg_M) : Prop := bC_X5_isWord_15 P (0 : Int32) σ
def wC_X5_isWord (x0 : Int32) (σ : hg_M) (P : Int32 → hg_M → Prop) : Prop := ((x0 < 0 → bC_X5_isWord_14 P σ) ∧ (¬ x0 < 0 → (((32 : Int32) ≤ x0 → bC_X5_isWord_14 P σ) ∧ (¬ ((32 : Int32) ≤ x0) → bC_X5_isWord_15 P (1 : Int32) σ))))
set_option maxRecDepth 4000 in
theorem tbC_X5_isWord_15 {d : Nat} {E : hg_Et} {X : hg_X} {P : Int32 → hg_M → Prop}  (hC : hg_C hg_FC 1 (d + 1) E cX5_isWord RX5 X) (hR : hg_Rni hg_FC (some .boolean) hg_rC P X)  (t0 : Int32) (σ : hg_M) (hw : bC_X5_isWord_15 P t0 σ) : hg_G hg_FC 1 X 15 [] [.int t0] σ hg_rC := by
  unfold bC_X5_isWord_15 at hw
  exact hg_retz hC hR dX5_isWord_15 hw
set_option maxRecDepth 4000 in
theorem tbC_X5_isWord_14 {d : Nat} {E : hg_Et} {X : hg_X} {P : Int32 → hg_M → Prop}  (hC : hg_C hg_FC 1 (d + 1) E cX5_isWord RX5 X) (hR : hg_Rni hg_FC (some .boolean) hg_rC P X)   (σ : hg_M) (hw : bC_X5_isWord_14 P  σ) : hg_G hg_FC 1 X 14 [] [] σ hg_rC := by
  unfold bC_X5_isWord_14 at hw
  refine hg_iconst hC dX5_isWord_14 hl_i0 (n := 15) rfl ?_
  exact tbC_X5_isWord_15 hC hR  (0 : Int32) σ hw
set_option maxRecDepth 4000 in
theorem tC_X5_isWord {E : hg_Et} (hE : hg_Eok E) (l : Launch) (d : Nat) (x0 : Int32) (σ : hg_M) (P : Int32 → hg_M → Prop) (hw : wC_X5_isWord x0 σ P) : hg_Ni hg_FC E l yX5_isWord cX5_isWord 1 (some .boolean) (d + 1) (fun ad => [.int x0]) hg_rC σ P := by
  refine hg_ni hE (by decide) (fun _ => Nat.le_of_ble_eq_true rfl) (fun X hC hR hl => ?_)
  subst hl
  have hC : hg_C hg_FC 1 (d + 1) E cX5_isWord RX5 X := hC
  show hg_G hg_FC 1 X 0 [(0, .int x0)] [] σ hg_rC
  unfold wC_X5_isWord at hw
  refine hg_iload_n hC dX5_isWord_0 rfl 0 rfl (n := 1) rfl ?_
  refine hg_if_lt hC dX5_isWord_1 (tg := 14) rfl (n := 4) rfl (fun h9 => ?_) (fun h9 => ?_)
  · have hw := hw.1 h9
    exact hg_sub [] rfl (tbC_X5_isWord_14 hC hR  σ hw)
  · have hw := hw.2 h9
    refine hg_iload_n hC dX5_isWord_4 rfl 0 rfl (n := 5) rfl ?_
    refine hg_bipush hC dX5_isWord_5 hl_b32 (n := 7) rfl ?_
    refine hg_icmp_ge hC dX5_isWord_7 (tg := 14) rfl (n := 10) rfl (fun h9 => ?_) (fun h9 => ?_)
    · have hw := hw.1 h9
      exact hg_sub [] rfl (tbC_X5_isWord_14 hC hR  σ hw)
    · have hw := hw.2 h9
      refine hg_iconst hC dX5_isWord_10 hl_i1 (n := 11) rfl ?_
      refine hg_goto hC dX5_isWord_11 (tg := 15) rfl ?_
      exact hg_sub [] rfl (tbC_X5_isWord_15 hC hR  (1 : Int32) σ hw)
def bC_X5_divides_16 (P : Int32 → hg_M → Prop)  (t0 : Int32) (σ : hg_M) : Prop := ((t0 = 0 ∨ t0 = 1) ∧ P t0 σ)
def bC_X5_divides_11 (P : Int32 → hg_M → Prop)   (σ : hg_M) : Prop := bC_X5_divides_16 P (1 : Int32) σ
def wC_X5_divides (x0 : Int32) (σ : hg_M) (P : Int32 → hg_M → Prop) : Prop := ((x0 = (5 : Int32) → bC_X5_divides_11 P σ) ∧ (¬ (x0 = (5 : Int32)) → ((x0 ≠ (6 : Int32) → bC_X5_divides_16 P (0 : Int32) σ) ∧ (x0 = (6 : Int32) → bC_X5_divides_11 P σ))))
set_option maxRecDepth 4000 in
theorem tbC_X5_divides_16 {d : Nat} {E : hg_Et} {X : hg_X} {P : Int32 → hg_M → Prop}  (hC : hg_C hg_FC 1 (d + 1) E cX5_divides RX5 X) (hR : hg_Rni hg_FC (some .boolean) hg_rC P X)  (t0 : Int32) (σ : hg_M) (hw : bC_X5_divides_16 P t0 σ) : hg_G hg_FC 1 X 16 [] [.int t0] σ hg_rC := by
  unfold bC_X5_divides_16 at hw
  exact hg_retz hC hR dX5_divides_16 hw
set_option maxRecDepth 4000 in
theorem tbC_X5_divides_11 {d : Nat} {E : hg_Et} {X : hg_X} {P : Int32 → hg_M → Prop}  (hC : hg_C hg_FC 1 (d + 1) E cX5_divides RX5 X) (hR : hg_Rni hg_FC (some .boolean) hg_rC P X)   (σ : hg_M) (hw : bC_X5_divides_11 P  σ) : hg_G hg_FC 1 X 11 [] [] σ hg_rC := by
  unfold bC_X5_divides_11 at hw
  refine hg_iconst hC dX5_divides_11 hl_i1 (n := 12) rfl ?_
  refine hg_goto hC dX5_divides_12 (tg := 16) rfl ?_
  exact tbC_X5_divides_16 hC hR  (1 : Int32) σ hw
set_option maxRecDepth 4000 in
theorem tC_X5_divides {E : hg_Et} (hE : hg_Eok E) (l : Launch) (d : Nat) (x0 : Int32) (σ : hg_M) (P : Int32 → hg_M → Prop) (hw : wC_X5_divides x0 σ P) : hg_Ni hg_FC E l yX5_divides cX5_divides 1 (some .boolean) (d + 1) (fun ad => [.int x0]) hg_rC σ P := by
  refine hg_ni hE (by decide) (fun _ => Nat.le_of_ble_eq_true rfl) (fun X hC hR hl => ?_)
  subst hl
  have hC : hg_C hg_FC 1 (d + 1) E cX5_divides RX5 X := hC
  show hg_G hg_FC 1 X 0 [(0, .int x0)] [] σ hg_rC
  unfold wC_X5_divides at hw
  refine hg_iload_n hC dX5_divides_0 rfl 0 rfl (n := 1) rfl ?_
  refine hg_iconst hC dX5_divides_1 hl_i5 (n := 2) rfl ?_
  refine hg_icmp_eq hC dX5_divides_2 (tg := 11) rfl (n := 5) rfl (fun h9 => ?_) (fun h9 => ?_)
  · have hw := hw.1 h9
    exact hg_sub [] rfl (tbC_X5_divides_11 hC hR  σ hw)
  · have hw := hw.2 h9
    refine hg_iload_n hC dX5_divides_5 rfl 0 rfl (n := 6) rfl ?_
    refine hg_bipush hC dX5_divides_6 hl_b6 (n := 8) rfl ?_
    refine hg_icmp_ne hC dX5_divides_8 (tg := 15) rfl (n := 11) rfl (fun h9 => ?_) (fun h9 => ?_)
    · have hw := hw.1 h9
      refine hg_iconst hC dX5_divides_15 hl_i0 (n := 16) rfl ?_
      exact hg_sub [] rfl (tbC_X5_divides_16 hC hR  (0 : Int32) σ hw)
    · have hw := hw.2 h9
      exact hg_sub [] rfl (tbC_X5_divides_11 hC hR  σ hw)
def bC_X5_resultOf_140 (P : Int32 → hg_M → Prop)  (t0 : Int32) (σ : hg_M) : Prop := P t0 σ
def bC_X5_resultOf_129 (P : Int32 → hg_M → Prop)  (t0 : Int32) (σ : hg_M) : Prop := P t0 σ
def bC_X5_resultOf_118 (P : Int32 → hg_M → Prop)  (t0 : Int32) (σ : hg_M) : Prop := P t0 σ
def bC_X5_resultOf_95 (P : Int32 → hg_M → Prop)  (t0 : Int32) (σ : hg_M) : Prop := P t0 σ
def bC_X5_resultOf_83 (P : Int32 → hg_M → Prop)  (t0 : Int32) (σ : hg_M) : Prop := P t0 σ
def wC_X5_resultOf (x0 : Int32) (x1 : Int32) (x2 : Int32) (σ : hg_M) (P : Int32 → hg_M → Prop) : Prop := ((((x0).toInt < 2 ∨ 12 < (x0).toInt) → P (0 : Int32) σ) ∧ ((x0).toInt = 2 → P (x1 + x2) σ) ∧ ((x0).toInt = 3 → P (x1 - x2) σ) ∧ ((x0).toInt = 4 → P (x1 * x2) σ) ∧ ((x0).toInt = 5 → ((x2 ≠ 0 → ¬ x2 = 0 ∧ (bC_X5_resultOf_83 P (x1 / x2) σ)) ∧ (x2 = 0 → bC_X5_resultOf_83 P (0 : Int32) σ))) ∧ ((x0).toInt = 6 → ((x2 ≠ 0 → ¬ x2 = 0 ∧ (bC_X5_resultOf_95 P (x1 - x1 / x2 * x2) σ)) ∧ (x2 = 0 → bC_X5_resultOf_95 P (0 : Int32) σ))) ∧ ((x0).toInt = 7 → P (x1 &&& x2) σ) ∧ ((x0).toInt = 8 → P (x1 ||| x2) σ) ∧ ((x0).toInt = 9 → P (x1 ^^^ x2) σ) ∧ ((x0).toInt = 10 → ((x1 ≠ x2 → bC_X5_resultOf_118 P (0 : Int32) σ) ∧ (x1 = x2 → bC_X5_resultOf_118 P (1 : Int32) σ))) ∧ ((x0).toInt = 11 → ((x1 = x2 → bC_X5_resultOf_129 P (0 : Int32) σ) ∧ (¬ (x1 = x2) → bC_X5_resultOf_129 P (1 : Int32) σ))) ∧ ((x0).toInt = 12 → ((x2 ≤ x1 → bC_X5_resultOf_140 P (0 : Int32) σ) ∧ (¬ (x2 ≤ x1) → bC_X5_resultOf_140 P (1 : Int32) σ))))
set_option maxRecDepth 4000 in
theorem tbC_X5_resultOf_140 {d : Nat} {E : hg_Et} {X : hg_X} {P : Int32 → hg_M → Prop}  (hC : hg_C hg_FC 3 (d + 1) E cX5_resultOf RX5 X) (hR : hg_Rni hg_FC (some .int) hg_rC P X)  (t0 : Int32) (σ : hg_M) (hw : bC_X5_resultOf_140 P t0 σ) : hg_G hg_FC 3 X 140 [] [.int t0] σ hg_rC := by
  unfold bC_X5_resultOf_140 at hw
  exact hg_reti hC hR dX5_resultOf_140 hw
set_option maxRecDepth 4000 in
theorem tbC_X5_resultOf_129 {d : Nat} {E : hg_Et} {X : hg_X} {P : Int32 → hg_M → Prop}  (hC : hg_C hg_FC 3 (d + 1) E cX5_resultOf RX5 X) (hR : hg_Rni hg_FC (some .int) hg_rC P X)  (t0 : Int32) (σ : hg_M) (hw : bC_X5_resultOf_129 P t0 σ) : hg_G hg_FC 3 X 129 [] [.int t0] σ hg_rC := by
  unfold bC_X5_resultOf_129 at hw
  exact hg_reti hC hR dX5_resultOf_129 hw
set_option maxRecDepth 4000 in
theorem tbC_X5_resultOf_118 {d : Nat} {E : hg_Et} {X : hg_X} {P : Int32 → hg_M → Prop}  (hC : hg_C hg_FC 3 (d + 1) E cX5_resultOf RX5 X) (hR : hg_Rni hg_FC (some .int) hg_rC P X)  (t0 : Int32) (σ : hg_M) (hw : bC_X5_resultOf_118 P t0 σ) : hg_G hg_FC 3 X 118 [] [.int t0] σ hg_rC := by
  unfold bC_X5_resultOf_118 at hw
  exact hg_reti hC hR dX5_resultOf_118 hw
set_option maxRecDepth 4000 in
theorem tbC_X5_resultOf_95 {d : Nat} {E : hg_Et} {X : hg_X} {P : Int32 → hg_M → Prop}  (hC : hg_C hg_FC 3 (d + 1) E cX5_resultOf RX5 X) (hR : hg_Rni hg_FC (some .int) hg_rC P X)  (t0 : Int32) (σ : hg_M) (hw : bC_X5_resultOf_95 P t0 σ) : hg_G hg_FC 3 X 95 [] [.int t0] σ hg_rC := by
  unfold bC_X5_resultOf_95 at hw
  exact hg_reti hC hR dX5_resultOf_95 hw
set_option maxRecDepth 4000 in
theorem tbC_X5_resultOf_83 {d : Nat} {E : hg_Et} {X : hg_X} {P : Int32 → hg_M → Prop}  (hC : hg_C hg_FC 3 (d + 1) E cX5_resultOf RX5 X) (hR : hg_Rni hg_FC (some .int) hg_rC P X)  (t0 : Int32) (σ : hg_M) (hw : bC_X5_resultOf_83 P t0 σ) : hg_G hg_FC 3 X 83 [] [.int t0] σ hg_rC := by
  unfold bC_X5_resultOf_83 at hw
  exact hg_reti hC hR dX5_resultOf_83 hw
set_option maxRecDepth 4000 in
theorem tC_X5_resultOf {E : hg_Et} (hE : hg_Eok E) (l : Launch) (d : Nat) (x0 : Int32) (x1 : Int32) (x2 : Int32) (σ : hg_M) (P : Int32 → hg_M → Prop) (hw : wC_X5_resultOf x0 x1 x2 σ P) : hg_Ni hg_FC E l yX5_resultOf cX5_resultOf 3 (some .int) (d + 1) (fun ad => [.int x0, .int x1, .int x2]) hg_rC σ P := by
  refine hg_ni hE (by decide) (fun _ => Nat.le_of_ble_eq_true rfl) (fun X hC hR hl => ?_)
  subst hl
  have hC : hg_C hg_FC 3 (d + 1) E cX5_resultOf RX5 X := hC
  show hg_G hg_FC 3 X 0 [(0, .int x0), (1, .int x1), (2, .int x2)] [] σ hg_rC
  unfold wC_X5_resultOf at hw
  refine hg_iload_n hC dX5_resultOf_0 rfl 0 rfl (n := 1) rfl ?_
  by_cases hsw : (x0).toInt < 2 ∨ 12 < (x0).toInt
  · have hw := hw.1 hsw
    refine hg_tout hC dX5_resultOf_1 hsw (tg := 141) rfl ?_
    refine hg_iconst hC dX5_resultOf_141 hl_i0 (n := 142) rfl ?_
    exact hg_reti hC hR dX5_resultOf_142 hw
  · rcases (show (x0).toInt = 2 ∨ (x0).toInt = 3 ∨ (x0).toInt = 4 ∨ (x0).toInt = 5 ∨ (x0).toInt = 6 ∨ (x0).toInt = 7 ∨ (x0).toInt = 8 ∨ (x0).toInt = 9 ∨ (x0).toInt = 10 ∨ (x0).toInt = 11 ∨ (x0).toInt = 12 by omega) with hsx | hsx | hsx | hsx | hsx | hsx | hsx | hsx | hsx | hsx | hsx
    · have hw := hw.2.1 hsx
      refine hg_tin hC dX5_resultOf_1 hsx (by decide) (by decide) (by rfl) (tg := 60) rfl ?_
      refine hg_iload_n hC dX5_resultOf_60 rfl 1 rfl (n := 61) rfl ?_
      refine hg_iload_n hC dX5_resultOf_61 rfl 2 rfl (n := 62) rfl ?_
      refine hg_iadd hC dX5_resultOf_62 (n := 63) rfl ?_
      exact hg_reti hC hR dX5_resultOf_63 hw
    · have hw := hw.2.2.1 hsx
      refine hg_tin hC dX5_resultOf_1 hsx (by decide) (by decide) (by rfl) (tg := 64) rfl ?_
      refine hg_iload_n hC dX5_resultOf_64 rfl 1 rfl (n := 65) rfl ?_
      refine hg_iload_n hC dX5_resultOf_65 rfl 2 rfl (n := 66) rfl ?_
      refine hg_isub hC dX5_resultOf_66 (n := 67) rfl ?_
      exact hg_reti hC hR dX5_resultOf_67 hw
    · have hw := hw.2.2.2.1 hsx
      refine hg_tin hC dX5_resultOf_1 hsx (by decide) (by decide) (by rfl) (tg := 68) rfl ?_
      refine hg_iload_n hC dX5_resultOf_68 rfl 1 rfl (n := 69) rfl ?_
      refine hg_iload_n hC dX5_resultOf_69 rfl 2 rfl (n := 70) rfl ?_
      refine hg_imul hC dX5_resultOf_70 (n := 71) rfl ?_
      exact hg_reti hC hR dX5_resultOf_71 hw
    · have hw := hw.2.2.2.2.1 hsx
      refine hg_tin hC dX5_resultOf_1 hsx (by decide) (by decide) (by rfl) (tg := 72) rfl ?_
      refine hg_iload_n hC dX5_resultOf_72 rfl 2 rfl (n := 73) rfl ?_
      refine hg_if_ne hC dX5_resultOf_73 (tg := 80) rfl (n := 76) rfl (fun h9 => ?_) (fun h9 => ?_)
      · have hw := hw.1 h9
        refine hg_iload_n hC dX5_resultOf_80 rfl 1 rfl (n := 81) rfl ?_
        refine hg_iload_n hC dX5_resultOf_81 rfl 2 rfl (n := 82) rfl ?_
        obtain ⟨h9, hw⟩ := hw
        refine hg_idiv hC dX5_resultOf_82 h9 (n := 83) rfl ?_
        exact hg_sub [] rfl (tbC_X5_resultOf_83 hC hR  (x1 / x2) σ hw)
      · have hw := hw.2 h9
        refine hg_iconst hC dX5_resultOf_76 hl_i0 (n := 77) rfl ?_
        refine hg_goto hC dX5_resultOf_77 (tg := 83) rfl ?_
        exact hg_sub [] rfl (tbC_X5_resultOf_83 hC hR  (0 : Int32) σ hw)
    · have hw := hw.2.2.2.2.2.1 hsx
      refine hg_tin hC dX5_resultOf_1 hsx (by decide) (by decide) (by rfl) (tg := 84) rfl ?_
      refine hg_iload_n hC dX5_resultOf_84 rfl 2 rfl (n := 85) rfl ?_
      refine hg_if_ne hC dX5_resultOf_85 (tg := 92) rfl (n := 88) rfl (fun h9 => ?_) (fun h9 => ?_)
      · have hw := hw.1 h9
        refine hg_iload_n hC dX5_resultOf_92 rfl 1 rfl (n := 93) rfl ?_
        refine hg_iload_n hC dX5_resultOf_93 rfl 2 rfl (n := 94) rfl ?_
        obtain ⟨h9, hw⟩ := hw
        refine hg_irem hC dX5_resultOf_94 h9 (n := 95) rfl ?_
        exact hg_sub [] rfl (tbC_X5_resultOf_95 hC hR  (x1 - x1 / x2 * x2) σ hw)
      · have hw := hw.2 h9
        refine hg_iconst hC dX5_resultOf_88 hl_i0 (n := 89) rfl ?_
        refine hg_goto hC dX5_resultOf_89 (tg := 95) rfl ?_
        exact hg_sub [] rfl (tbC_X5_resultOf_95 hC hR  (0 : Int32) σ hw)
    · have hw := hw.2.2.2.2.2.2.1 hsx
      refine hg_tin hC dX5_resultOf_1 hsx (by decide) (by decide) (by rfl) (tg := 96) rfl ?_
      refine hg_iload_n hC dX5_resultOf_96 rfl 1 rfl (n := 97) rfl ?_
      refine hg_iload_n hC dX5_resultOf_97 rfl 2 rfl (n := 98) rfl ?_
      refine hg_iand hC dX5_resultOf_98 (n := 99) rfl ?_
      exact hg_reti hC hR dX5_resultOf_99 hw
    · have hw := hw.2.2.2.2.2.2.2.1 hsx
      refine hg_tin hC dX5_resultOf_1 hsx (by decide) (by decide) (by rfl) (tg := 100) rfl ?_
      refine hg_iload_n hC dX5_resultOf_100 rfl 1 rfl (n := 101) rfl ?_
      refine hg_iload_n hC dX5_resultOf_101 rfl 2 rfl (n := 102) rfl ?_
      refine hg_ior hC dX5_resultOf_102 (n := 103) rfl ?_
      exact hg_reti hC hR dX5_resultOf_103 hw
    · have hw := hw.2.2.2.2.2.2.2.2.1 hsx
      refine hg_tin hC dX5_resultOf_1 hsx (by decide) (by decide) (by rfl) (tg := 104) rfl ?_
      refine hg_iload_n hC dX5_resultOf_104 rfl 1 rfl (n := 105) rfl ?_
      refine hg_iload_n hC dX5_resultOf_105 rfl 2 rfl (n := 106) rfl ?_
      refine hg_ixor hC dX5_resultOf_106 (n := 107) rfl ?_
      exact hg_reti hC hR dX5_resultOf_107 hw
    · have hw := hw.2.2.2.2.2.2.2.2.2.1 hsx
      refine hg_tin hC dX5_resultOf_1 hsx (by decide) (by decide) (by rfl) (tg := 108) rfl ?_
      refine hg_iload_n hC dX5_resultOf_108 rfl 1 rfl (n := 109) rfl ?_
      refine hg_iload_n hC dX5_resultOf_109 rfl 2 rfl (n := 110) rfl ?_
      refine hg_icmp_ne hC dX5_resultOf_110 (tg := 117) rfl (n := 113) rfl (fun h9 => ?_) (fun h9 => ?_)
      · have hw := hw.1 h9
        refine hg_iconst hC dX5_resultOf_117 hl_i0 (n := 118) rfl ?_
        exact hg_sub [] rfl (tbC_X5_resultOf_118 hC hR  (0 : Int32) σ hw)
      · have hw := hw.2 h9
        refine hg_iconst hC dX5_resultOf_113 hl_i1 (n := 114) rfl ?_
        refine hg_goto hC dX5_resultOf_114 (tg := 118) rfl ?_
        exact hg_sub [] rfl (tbC_X5_resultOf_118 hC hR  (1 : Int32) σ hw)
    · have hw := hw.2.2.2.2.2.2.2.2.2.2.1 hsx
      refine hg_tin hC dX5_resultOf_1 hsx (by decide) (by decide) (by rfl) (tg := 119) rfl ?_
      refine hg_iload_n hC dX5_resultOf_119 rfl 1 rfl (n := 120) rfl ?_
      refine hg_iload_n hC dX5_resultOf_120 rfl 2 rfl (n := 121) rfl ?_
      refine hg_icmp_eq hC dX5_resultOf_121 (tg := 128) rfl (n := 124) rfl (fun h9 => ?_) (fun h9 => ?_)
      · have hw := hw.1 h9
        refine hg_iconst hC dX5_resultOf_128 hl_i0 (n := 129) rfl ?_
        exact hg_sub [] rfl (tbC_X5_resultOf_129 hC hR  (0 : Int32) σ hw)
      · have hw := hw.2 h9
        refine hg_iconst hC dX5_resultOf_124 hl_i1 (n := 125) rfl ?_
        refine hg_goto hC dX5_resultOf_125 (tg := 129) rfl ?_
        exact hg_sub [] rfl (tbC_X5_resultOf_129 hC hR  (1 : Int32) σ hw)
    · have hw := hw.2.2.2.2.2.2.2.2.2.2.2 hsx
      refine hg_tin hC dX5_resultOf_1 hsx (by decide) (by decide) (by rfl) (tg := 130) rfl ?_
      refine hg_iload_n hC dX5_resultOf_130 rfl 1 rfl (n := 131) rfl ?_
      refine hg_iload_n hC dX5_resultOf_131 rfl 2 rfl (n := 132) rfl ?_
      refine hg_icmp_ge hC dX5_resultOf_132 (tg := 139) rfl (n := 135) rfl (fun h9 => ?_) (fun h9 => ?_)
      · have hw := hw.1 h9
        refine hg_iconst hC dX5_resultOf_139 hl_i0 (n := 140) rfl ?_
        exact hg_sub [] rfl (tbC_X5_resultOf_140 hC hR  (0 : Int32) σ hw)
      · have hw := hw.2 h9
        refine hg_iconst hC dX5_resultOf_135 hl_i1 (n := 136) rfl ?_
        refine hg_goto hC dX5_resultOf_136 (tg := 140) rfl ?_
        exact hg_sub [] rfl (tbC_X5_resultOf_140 hC hR  (1 : Int32) σ hw)
def bC_X0_leadHere_28 (P : hg_M → Prop)   (σ : hg_M) : Prop := P σ
def wC_X0_leadHere (x1 : Int32) (σ : hg_M) (P : hg_M → Prop) : Prop := ((x1 < 0 → bC_X0_leadHere_28 P σ) ∧ (¬ x1 < 0 → (((σ 42 1) ≤ x1 → bC_X0_leadHere_28 P σ) ∧ (¬ ((σ 42 1) ≤ x1) → wC_X0_leadRow x1 σ (fun r2 σ1 => vp_in r2 6 ∧ (vp_in x1 720 ∧ (∀ σ3 : hg_M, σ3 = hg_set σ1 (44 + (r2).toNatClampNeg) (x1).toNatClampNeg (σ1 42 1) → bC_X0_leadHere_28 P σ3)))))))
set_option maxRecDepth 4000 in
theorem tbC_X0_leadHere_28 {d : Nat} {E : hg_Et} {X : hg_X} {P : hg_M → Prop}  (hC : hg_C hg_FC 2 (d + 2) E cX0_leadHere RX0 X) (hR : hg_Rnv hg_FC hg_rC P X)   (σ : hg_M) (hw : bC_X0_leadHere_28 P  σ) : hg_G hg_FC 2 X 28 [] [] σ hg_rC := by
  unfold bC_X0_leadHere_28 at hw
  exact hg_retv hC hR dX0_leadHere_28 hw
set_option maxRecDepth 4000 in
theorem tC_X0_leadHere {E : hg_Et} (hE : hg_Eok E) (l : Launch) (d : Nat) (x1 : Int32) (σ : hg_M) (P : hg_M → Prop) (hw : wC_X0_leadHere x1 σ P) : hg_Nv hg_FC E l yX0_leadHere cX0_leadHere 2 (d + 2) (fun ad => [.ref (ad 42), .int x1]) hg_rC σ P := by
  refine hg_nv hE (by decide) (fun _ => Nat.le_of_ble_eq_true rfl) (fun X hC hR hl => ?_)
  subst hl
  have hC : hg_C hg_FC 2 (d + 2) E cX0_leadHere RX0 X := hC
  show hg_G hg_FC 2 X 0 [(0, .ref (hg_ad X 42)), (1, .int x1)] [] σ hg_rC
  unfold wC_X0_leadHere at hw
  refine hg_iload_n hC dX0_leadHere_0 rfl 1 rfl (n := 1) rfl ?_
  refine hg_if_lt hC dX0_leadHere_1 (tg := 28) rfl (n := 4) rfl (fun h9 => ?_) (fun h9 => ?_)
  · have hw := hw.1 h9
    exact hg_sub [] rfl (tbC_X0_leadHere_28 hC hR  σ hw)
  · have hw := hw.2 h9
    refine hg_iload_n hC dX0_leadHere_4 rfl 1 rfl (n := 5) rfl ?_
    refine hg_aload_n hC dX0_leadHere_5 rfl 0 rfl (n := 6) rfl ?_
    refine hg_geti hC fl_RX0_16 dX0_leadHere_6 qC_42 kC_42 fC_0_1 (n := 9) rfl ?_
    refine hg_icmp_ge hC dX0_leadHere_9 (tg := 28) rfl (n := 12) rfl (fun h9 => ?_) (fun h9 => ?_)
    · have hw := hw.1 h9
      exact hg_sub [] rfl (tbC_X0_leadHere_28 hC hR  σ hw)
    · have hw := hw.2 h9
      refine hg_aload_n hC dX0_leadHere_12 rfl 0 rfl (n := 13) rfl ?_
      refine hg_getr hC fl_RX0_13 dX0_leadHere_13 qC_42 kC_42 fC_0_0 rC_42_0 (n := 16) rfl ?_
      refine hg_aload_n hC dX0_leadHere_16 rfl 0 rfl (n := 17) rfl ?_
      refine hg_iload_n hC dX0_leadHere_17 rfl 1 rfl (n := 18) rfl ?_
      refine hg_cVi hC (tC_X0_leadRow (hg_Eof hC) X.2.1 (d + 0) _ _ _ hw) sv_RX0_37 dX0_leadHere_18 qC_42 kC_42 c_0 rfl (rest := [.ref (hg_ad X 43)]) rfl (Nat.le_of_ble_eq_true rfl) (n := 21) rfl (fun r2 σ1 hw => ?_)
      obtain ⟨hr21, hw⟩ := hw
      refine hg_aald hC (r := 44 + (r2).toNatClampNeg) dX0_leadHere_21 qC_43 kC_43 hr21 rfl (n := 22) rfl ?_
      refine hg_iload_n hC dX0_leadHere_22 rfl 1 rfl (n := 23) rfl ?_
      refine hg_aload_n hC dX0_leadHere_23 rfl 0 rfl (n := 24) rfl ?_
      refine hg_geti hC fl_RX0_16 dX0_leadHere_24 qC_42 kC_42 fC_0_1 (n := 27) rfl ?_
      obtain ⟨h9, hw⟩ := hw
      refine hg_iast hC dX0_leadHere_27 (QC_44 (hg_lt hr21)) (KC_44 (hg_lt hr21)) h9 (n := 28) rfl (fun σ3 eσ3 => ?_)
      have hw := hw σ3 eσ3
      exact hg_sub [] rfl (tbC_X0_leadHere_28 hC hR  σ3 hw)
def bC_X0_mayGo_40 (P : Int32 → hg_M → Prop)  (t0 : Int32) (σ : hg_M) : Prop := ((t0 = 0 ∨ t0 = 1) ∧ P t0 σ)
def bC_X0_mayGo_39 (P : Int32 → hg_M → Prop)   (σ : hg_M) : Prop := bC_X0_mayGo_40 P (0 : Int32) σ
def wC_X0_mayGo (x1 : Int32) (σ : hg_M) (P : Int32 → hg_M → Prop) : Prop := vp_in x1 720 ∧ (∀ v1 : Int32, v1 = (σ 44 (x1).toNatClampNeg) → (((13 : Int32) < v1 → bC_X0_mayGo_39 P σ) ∧ (¬ ((13 : Int32) < v1) → wC_X5_divides v1 σ (fun r3 σ2 => ((r3 ≠ 0 → bC_X0_mayGo_39 P σ2) ∧ (r3 = 0 → vp_in x1 720 ∧ ((((σ2 45 (x1).toNatClampNeg) < (16 : Int32) → bC_X0_mayGo_39 P σ2) ∧ (¬ ((σ2 45 (x1).toNatClampNeg) < (16 : Int32)) → bC_X0_mayGo_40 P (1 : Int32) σ2)))))))))
set_option maxRecDepth 4000 in
theorem tbC_X0_mayGo_40 {d : Nat} {E : hg_Et} {X : hg_X} {P : Int32 → hg_M → Prop}  (hC : hg_C hg_FC 3 (d + 2) E cX0_mayGo RX0 X) (hR : hg_Rni hg_FC (some .boolean) hg_rC P X)  (t0 : Int32) (σ : hg_M) (hw : bC_X0_mayGo_40 P t0 σ) : hg_G hg_FC 3 X 40 [] [.int t0] σ hg_rC := by
  unfold bC_X0_mayGo_40 at hw
  exact hg_retz hC hR dX0_mayGo_40 hw
set_option maxRecDepth 4000 in
theorem tbC_X0_mayGo_39 {d : Nat} {E : hg_Et} {X : hg_X} {P : Int32 → hg_M → Prop}  (hC : hg_C hg_FC 3 (d + 2) E cX0_mayGo RX0 X) (hR : hg_Rni hg_FC (some .boolean) hg_rC P X)   (σ : hg_M) (hw : bC_X0_mayGo_39 P  σ) : hg_G hg_FC 3 X 39 [] [] σ hg_rC := by
  unfold bC_X0_mayGo_39 at hw
  refine hg_iconst hC dX0_mayGo_39 hl_i0 (n := 40) rfl ?_
  exact tbC_X0_mayGo_40 hC hR  (0 : Int32) σ hw
set_option maxRecDepth 4000 in
theorem tC_X0_mayGo {E : hg_Et} (hE : hg_Eok E) (l : Launch) (d : Nat) (x1 : Int32) (σ : hg_M) (P : Int32 → hg_M → Prop) (hw : wC_X0_mayGo x1 σ P) : hg_Ni hg_FC E l yX0_mayGo cX0_mayGo 3 (some .boolean) (d + 2) (fun ad => [.ref (ad 42), .int x1]) hg_rC σ P := by
  refine hg_ni hE (by decide) (fun _ => Nat.le_of_ble_eq_true rfl) (fun X hC hR hl => ?_)
  subst hl
  have hC : hg_C hg_FC 3 (d + 2) E cX0_mayGo RX0 X := hC
  show hg_G hg_FC 3 X 0 [(0, .ref (hg_ad X 42)), (1, .int x1)] [] σ hg_rC
  unfold wC_X0_mayGo at hw
  refine hg_aload_n hC dX0_mayGo_0 rfl 0 rfl (n := 1) rfl ?_
  refine hg_getr hC fl_RX0_13 dX0_mayGo_1 qC_42 kC_42 fC_0_0 rC_42_0 (n := 4) rfl ?_
  refine hg_iconst hC dX0_mayGo_4 hl_i0 (n := 5) rfl ?_
  refine hg_aald hC (r := 44) dX0_mayGo_5 qC_43 kC_43 vi_0_6 riC_43_0 (n := 6) rfl ?_
  refine hg_iload_n hC dX0_mayGo_6 rfl 1 rfl (n := 7) rfl ?_
  obtain ⟨h9, hw⟩ := hw
  refine hg_iald hC dX0_mayGo_7 qC_44 kC_44 h9 (n := 8) rfl ?_
  refine hg_topi (fun v1 ev1 => ?_)
  have hw := hw v1 ev1
  refine hg_istore_n hC (L1 := [(2, .int v1), (0, .ref (hg_ad X 42)), (1, .int x1)]) dX0_mayGo_8 rfl (by decide) rfl (n := 9) rfl ?_
  refine hg_iload_n hC dX0_mayGo_9 rfl 0 rfl (n := 10) rfl ?_
  refine hg_bipush hC dX0_mayGo_10 hl_b13 (n := 12) rfl ?_
  refine hg_icmp_gt hC dX0_mayGo_12 (tg := 39) rfl (n := 15) rfl (fun h9 => ?_) (fun h9 => ?_)
  · have hw := hw.1 h9
    exact hg_sub [] rfl (tbC_X0_mayGo_39 hC hR  σ hw)
  · have hw := hw.2 h9
    refine hg_iload_n hC dX0_mayGo_15 rfl 0 rfl (n := 16) rfl ?_
    refine hg_cNi hC (tC_X5_divides (hg_Eof hC) X.2.1 (d + 0) _ _ _ hw) sn_RX0_59 dX0_mayGo_16 rfl (rest := []) rfl (Nat.le_of_ble_eq_true rfl) (n := 19) rfl (fun r3 σ2 hw => ?_)
    refine hg_if_ne hC dX0_mayGo_19 (tg := 39) rfl (n := 22) rfl (fun h9 => ?_) (fun h9 => ?_)
    · have hw := hw.1 h9
      exact hg_sub [] rfl (tbC_X0_mayGo_39 hC hR  σ2 hw)
    · have hw := hw.2 h9
      refine hg_aload_n hC dX0_mayGo_22 rfl 1 rfl (n := 23) rfl ?_
      refine hg_getr hC fl_RX0_13 dX0_mayGo_23 qC_42 kC_42 fC_0_0 rC_42_0 (n := 26) rfl ?_
      refine hg_iconst hC dX0_mayGo_26 hl_i1 (n := 27) rfl ?_
      refine hg_aald hC (r := 45) dX0_mayGo_27 qC_43 kC_43 vi_1_6 riC_43_1 (n := 28) rfl ?_
      refine hg_iload_n hC dX0_mayGo_28 rfl 2 rfl (n := 29) rfl ?_
      obtain ⟨h9, hw⟩ := hw
      refine hg_iald hC dX0_mayGo_29 qC_45 kC_45 h9 (n := 30) rfl ?_
      refine hg_bipush hC dX0_mayGo_30 hl_b16 (n := 32) rfl ?_
      refine hg_icmp_lt hC dX0_mayGo_32 (tg := 39) rfl (n := 35) rfl (fun h9 => ?_) (fun h9 => ?_)
      · have hw := hw.1 h9
        exact hg_sub [] rfl (tbC_X0_mayGo_39 hC hR  σ2 hw)
      · have hw := hw.2 h9
        refine hg_iconst hC dX0_mayGo_35 hl_i1 (n := 36) rfl ?_
        refine hg_goto hC dX0_mayGo_36 (tg := 40) rfl ?_
        exact hg_sub [] rfl (tbC_X0_mayGo_40 hC hR  (1 : Int32) σ2 hw)
def bC_X4_takeNumber_113 (P : Int32 → hg_M → Prop)  (t1 : Int32) (t2 : Int32) (t3 : Int64) (σ : hg_M) : Prop := wC_X3_putValue t1 t2 (t3).toInt32 σ (fun σ9 => (((1 : Int32) = 0 ∨ (1 : Int32) = 1) ∧ P (1 : Int32) σ9))
def bC_X4_takeNumber_75 (P : Int32 → hg_M → Prop)  (x1 : Int32) (x2 : Int32) (x3 : Int32) (x4 : Int64) (σ : hg_M) : Prop := (((lg_cmp x4 (2147483648 : Int64)) < 0 → ((x2 = 0 → bC_X4_takeNumber_113 P x1 (0 : Int32) x4 σ) ∧ (¬ x2 = 0 → bC_X4_takeNumber_113 P x1 (0 : Int32) (-x4) σ))) ∧ (¬ (lg_cmp x4 (2147483648 : Int64)) < 0 → ∀ σ6 : hg_M, σ6 = hg_set σ 3 6 x3 → wC_X4_refuse (2 : Int32) σ6 (fun r8 σ7 => ((r8 = 0 ∨ r8 = 1) ∧ P r8 σ7))))
def lC_X4_takeNumber_8 (P : Int32 → hg_M → Prop)  : Nat → Int32 → Int32 → Int32 → Int64 → hg_M → Prop
  | 0, _, _, _, _, _ => False
  | n + 1, x1, x2, x3, x4, σ => (((σ 3 1) ≤ (σ 3 6) → bC_X4_takeNumber_75 P x1 x2 x3 x4 σ) ∧ (¬ ((σ 3 1) ≤ (σ 3 6)) → vp_in (σ 3 6) 600 ∧ (wC_X4_isFigure (σ 4 ((σ 3 6)).toNatClampNeg) σ (fun r3 σ2 => ((r3 = 0 → bC_X4_takeNumber_75 P x1 x2 x3 x4 σ2) ∧ (¬ r3 = 0 → vp_in (σ2 3 6) 600 ∧ (∀ v4 : Int64, v4 = (hg_minl ((x4 * (10 : Int64)) + (((σ2 4 ((σ2 3 6)).toNatClampNeg) - (48 : Int32))).toInt64) (2147483648 : Int64)) → ∀ σ5 : hg_M, σ5 = hg_set σ2 3 6 ((σ2 3 6) + (1 : Int32)) → lC_X4_takeNumber_8 P n x1 x2 x3 v4 σ5)))))))
def wC_X4_takeNumber (x1 : Int32) (x2 : Int32) (σ : hg_M) (P : Int32 → hg_M → Prop) : Prop := ∀ v1 : Int32, v1 = (σ 3 6) → (∃ f9, lC_X4_takeNumber_8 P f9 x1 x2 v1 (0 : Int64) σ)
set_option maxRecDepth 4000 in
theorem tbC_X4_takeNumber_113 {d : Nat} {E : hg_Et} {X : hg_X} {P : Int32 → hg_M → Prop}  (hC : hg_C hg_FC 6 (d + 2) E cX4_takeNumber RX4 X) (hR : hg_Rni hg_FC (some .boolean) hg_rC P X)  (t1 : Int32) (t2 : Int32) (t3 : Int64) (σ : hg_M) (hw : bC_X4_takeNumber_113 P t1 t2 t3 σ) : hg_G hg_FC 6 X 113 [] [.long t3, .int t2, .int t1, .ref (hg_ad X 7)] σ hg_rC := by
  unfold bC_X4_takeNumber_113 at hw
  refine hg_l2i hC dX4_takeNumber_113 rfl (n := 114) rfl ?_
  refine hg_cVv hC (tC_X3_putValue (hg_Eof hC) X.2.1 (d + 0) _ _ _ _ _ hw) sv_RX4_111 dX4_takeNumber_114 qC_7 kC_7 c_3 rfl (rest := []) rfl (Nat.le_of_ble_eq_true rfl) (n := 117) rfl (fun σ9 hw => ?_)
  refine hg_iconst hC dX4_takeNumber_117 hl_i1 (n := 118) rfl ?_
  exact hg_retz hC hR dX4_takeNumber_118 hw
set_option maxRecDepth 4000 in
theorem tbC_X4_takeNumber_75 {d : Nat} {E : hg_Et} {X : hg_X} {P : Int32 → hg_M → Prop}  (hC : hg_C hg_FC 6 (d + 2) E cX4_takeNumber RX4 X) (hR : hg_Rni hg_FC (some .boolean) hg_rC P X)  (x1 : Int32) (x2 : Int32) (x3 : Int32) (x4 : Int64) (σ : hg_M) (hw : bC_X4_takeNumber_75 P x1 x2 x3 x4 σ) : hg_G hg_FC 6 X 75 [(0, .ref (hg_ad X 3)), (1, .int x1), (2, .int x2), (3, .int x3), (4, .long x4)] [] σ hg_rC := by
  unfold bC_X4_takeNumber_75 at hw
  refine hg_lload hC dX4_takeNumber_75 4 rfl (n := 77) rfl ?_
  refine hg_ldc2 hC dX4_takeNumber_77 kl_RX4_124 (n := 80) rfl ?_
  refine hg_lcmp hC dX4_takeNumber_80 (n := 81) rfl ?_
  refine hg_if_lt hC dX4_takeNumber_81 (tg := 95) rfl (n := 84) rfl (fun h9 => ?_) (fun h9 => ?_)
  · have hw := hw.1 h9
    refine hg_aload_n hC dX4_takeNumber_95 rfl 0 rfl (n := 96) rfl ?_
    refine hg_getr hC fl_RX4_22 dX4_takeNumber_96 qC_3 kC_3 fC_4_2 rC_3_2 (n := 99) rfl ?_
    refine hg_iload_n hC dX4_takeNumber_99 rfl 1 rfl (n := 100) rfl ?_
    refine hg_iconst hC dX4_takeNumber_100 hl_i0 (n := 101) rfl ?_
    refine hg_iload_n hC dX4_takeNumber_101 rfl 2 rfl (n := 102) rfl ?_
    refine hg_if_eq hC dX4_takeNumber_102 (tg := 111) rfl (n := 105) rfl (fun h9 => ?_) (fun h9 => ?_)
    · have hw := hw.1 h9
      refine hg_lload hC dX4_takeNumber_111 4 rfl (n := 113) rfl ?_
      exact hg_sub [] rfl (tbC_X4_takeNumber_113 hC hR  x1 (0 : Int32) x4 σ hw)
    · have hw := hw.2 h9
      refine hg_lload hC dX4_takeNumber_105 4 rfl (n := 107) rfl ?_
      refine hg_lneg hC dX4_takeNumber_107 (n := 108) rfl ?_
      refine hg_goto hC dX4_takeNumber_108 (tg := 113) rfl ?_
      exact hg_sub [] rfl (tbC_X4_takeNumber_113 hC hR  x1 (0 : Int32) (-x4) σ hw)
  · have hw := hw.2 h9
    refine hg_aload_n hC dX4_takeNumber_84 rfl 0 rfl (n := 85) rfl ?_
    refine hg_iload_n hC dX4_takeNumber_85 rfl 3 rfl (n := 86) rfl ?_
    refine hg_puti hC fp_RX4_36 dX4_takeNumber_86 qC_3 kC_3 fC_4_6 rfl rfl (n := 89) rfl (fun σ6 eσ6 => ?_)
    have hw := hw σ6 eσ6
    refine hg_aload_n hC dX4_takeNumber_89 rfl 0 rfl (n := 90) rfl ?_
    refine hg_iconst hC dX4_takeNumber_90 hl_i2 (n := 91) rfl ?_
    refine hg_cVi hC (tC_X4_refuse (hg_Eof hC) X.2.1 (d + 0) _ _ _ hw) sv_RX4_52 dX4_takeNumber_91 qC_3 kC_3 c_4 rfl (rest := []) rfl (Nat.le_of_ble_eq_true rfl) (n := 94) rfl (fun r8 σ7 hw => ?_)
    exact hg_retz hC hR dX4_takeNumber_94 hw
set_option maxRecDepth 4000 in
theorem tlC_X4_takeNumber_8 {d : Nat} {E : hg_Et} {X : hg_X} {P : Int32 → hg_M → Prop}  (hC : hg_C hg_FC 6 (d + 2) E cX4_takeNumber RX4 X) (hR : hg_Rni hg_FC (some .boolean) hg_rC P X)  (n : Nat) : ∀ (x1 : Int32) (x2 : Int32) (x3 : Int32) (x4 : Int64) (σ : hg_M), lC_X4_takeNumber_8 P n x1 x2 x3 x4 σ → hg_G hg_FC 6 X 8 [(0, .ref (hg_ad X 3)), (1, .int x1), (2, .int x2), (3, .int x3), (4, .long x4)] [] σ hg_rC := by
  induction n with
  | zero =>
    intro x1 x2 x3 x4 σ hw
    rw [lC_X4_takeNumber_8] at hw
    exact hw.elim
  | succ n ih =>
    intro x1 x2 x3 x4 σ hw
    rw [lC_X4_takeNumber_8] at hw
    refine hg_aload_n hC dX4_takeNumber_8 rfl 0 rfl (n := 9) rfl ?_
    refine hg_geti hC fl_RX4_36 dX4_takeNumber_9 qC_3 kC_3 fC_4_6 (n := 12) rfl ?_
    refine hg_aload_n hC dX4_takeNumber_12 rfl 0 rfl (n := 13) rfl ?_
    refine hg_geti hC fl_RX4_15 dX4_takeNumber_13 qC_3 kC_3 fC_4_1 (n := 16) rfl ?_
    refine hg_icmp_ge hC dX4_takeNumber_16 (tg := 75) rfl (n := 19) rfl (fun h9 => ?_) (fun h9 => ?_)
    · have hw := hw.1 h9
      exact tbC_X4_takeNumber_75 hC hR  x1 x2 x3 x4 σ hw
    · have hw := hw.2 h9
      refine hg_aload_n hC dX4_takeNumber_19 rfl 0 rfl (n := 20) rfl ?_
      refine hg_getr hC fl_RX4_9 dX4_takeNumber_20 qC_3 kC_3 fC_4_0 rC_3_0 (n := 23) rfl ?_
      refine hg_aload_n hC dX4_takeNumber_23 rfl 0 rfl (n := 24) rfl ?_
      refine hg_geti hC fl_RX4_36 dX4_takeNumber_24 qC_3 kC_3 fC_4_6 (n := 27) rfl ?_
      obtain ⟨h9, hw⟩ := hw
      refine hg_iald hC dX4_takeNumber_27 qC_4 kC_4 h9 (n := 28) rfl ?_
      refine hg_cSi hC (tC_X4_isFigure (hg_Eof hC) X.2.1 (d + 0) _ _ _ hw) ss_RX4_115 dX4_takeNumber_28 rfl (rest := []) rfl (Nat.le_of_ble_eq_true rfl) (n := 31) rfl (fun r3 σ2 hw => ?_)
      refine hg_if_eq hC dX4_takeNumber_31 (tg := 75) rfl (n := 34) rfl (fun h9 => ?_) (fun h9 => ?_)
      · have hw := hw.1 h9
        exact tbC_X4_takeNumber_75 hC hR  x1 x2 x3 x4 σ2 hw
      · have hw := hw.2 h9
        refine hg_lload hC dX4_takeNumber_34 4 rfl (n := 36) rfl ?_
        refine hg_ldc2 hC dX4_takeNumber_36 kl_RX4_122 (n := 39) rfl ?_
        refine hg_lmul hC dX4_takeNumber_39 (n := 40) rfl ?_
        refine hg_aload_n hC dX4_takeNumber_40 rfl 0 rfl (n := 41) rfl ?_
        refine hg_getr hC fl_RX4_9 dX4_takeNumber_41 qC_3 kC_3 fC_4_0 rC_3_0 (n := 44) rfl ?_
        refine hg_aload_n hC dX4_takeNumber_44 rfl 0 rfl (n := 45) rfl ?_
        refine hg_geti hC fl_RX4_36 dX4_takeNumber_45 qC_3 kC_3 fC_4_6 (n := 48) rfl ?_
        obtain ⟨h9, hw⟩ := hw
        refine hg_iald hC dX4_takeNumber_48 qC_4 kC_4 h9 (n := 49) rfl ?_
        refine hg_bipush hC dX4_takeNumber_49 hl_b48 (n := 51) rfl ?_
        refine hg_isub hC dX4_takeNumber_51 (n := 52) rfl ?_
        refine hg_i2l hC dX4_takeNumber_52 rfl (n := 53) rfl ?_
        refine hg_ladd hC dX4_takeNumber_53 (n := 54) rfl ?_
        refine hg_ldc2 hC dX4_takeNumber_54 kl_RX4_124 (n := 57) rfl ?_
        refine hg_mminl hC mn_RX4_126 mn_1 mx_2 mn_3 (Nat.le_of_ble_eq_true rfl) dX4_takeNumber_57 (n := 60) rfl ?_
        refine hg_topl (fun v4 ev4 => ?_)
        have hw := hw v4 ev4
        refine hg_lstore hC (L1 := [(4, .long v4), (0, .ref (hg_ad X 3)), (1, .int x1), (2, .int x2), (3, .int x3)]) dX4_takeNumber_60 (by decide) rfl (n := 62) rfl ?_
        refine hg_aload_n hC dX4_takeNumber_62 rfl 1 rfl (n := 63) rfl ?_
        refine hg_dup hC dX4_takeNumber_63 rfl (n := 64) rfl ?_
        refine hg_geti hC fl_RX4_36 dX4_takeNumber_64 qC_3 kC_3 fC_4_6 (n := 67) rfl ?_
        refine hg_iconst hC dX4_takeNumber_67 hl_i1 (n := 68) rfl ?_
        refine hg_iadd hC dX4_takeNumber_68 (n := 69) rfl ?_
        refine hg_puti hC fp_RX4_36 dX4_takeNumber_69 qC_3 kC_3 fC_4_6 rfl rfl (n := 72) rfl (fun σ5 eσ5 => ?_)
        have hw := hw σ5 eσ5
        refine hg_goto hC dX4_takeNumber_72 (tg := 8) rfl ?_
        exact hg_sub [1, 2, 3, 4, 0] rfl (ih x1 x2 x3 v4 σ5 hw)
set_option maxRecDepth 4000 in
theorem tC_X4_takeNumber {E : hg_Et} (hE : hg_Eok E) (l : Launch) (d : Nat) (x1 : Int32) (x2 : Int32) (σ : hg_M) (P : Int32 → hg_M → Prop) (hw : wC_X4_takeNumber x1 x2 σ P) : hg_Ni hg_FC E l yX4_takeNumber cX4_takeNumber 6 (some .boolean) (d + 2) (fun ad => [.ref (ad 3), .int x1, .int x2]) hg_rC σ P := by
  refine hg_ni hE (by decide) (fun _ => Nat.le_of_ble_eq_true rfl) (fun X hC hR hl => ?_)
  subst hl
  have hC : hg_C hg_FC 6 (d + 2) E cX4_takeNumber RX4 X := hC
  show hg_G hg_FC 6 X 0 [(0, .ref (hg_ad X 3)), (1, .int x1), (2, .int x2)] [] σ hg_rC
  unfold wC_X4_takeNumber at hw
  refine hg_aload_n hC dX4_takeNumber_0 rfl 0 rfl (n := 1) rfl ?_
  refine hg_geti hC fl_RX4_36 dX4_takeNumber_1 qC_3 kC_3 fC_4_6 (n := 4) rfl ?_
  refine hg_topi (fun v1 ev1 => ?_)
  have hw := hw v1 ev1
  refine hg_istore_n hC (L1 := [(3, .int v1), (0, .ref (hg_ad X 3)), (1, .int x1), (2, .int x2)]) dX4_takeNumber_4 rfl (by decide) rfl (n := 5) rfl ?_
  refine hg_lconst hC dX4_takeNumber_5 hl_l0 (n := 6) rfl ?_
  refine hg_lstore hC (L1 := [(4, .long (0 : Int64)), (3, .int v1), (0, .ref (hg_ad X 3)), (1, .int x1), (2, .int x2)]) dX4_takeNumber_6 (by decide) rfl (n := 8) rfl ?_
  obtain ⟨n9, hw⟩ := hw
  exact hg_sub [2, 3, 4, 1, 0] rfl (tlC_X4_takeNumber_8 hC hR  n9 x1 x2 v1 (0 : Int64) σ hw)
def bC_X2_harmlessDivisor_60 (P : Int32 → hg_M → Prop)  (t0 : Int32) (σ : hg_M) : Prop := P t0 σ
def bC_X2_harmlessDivisor_59 (P : Int32 → hg_M → Prop)  (x3 : Int32) (σ : hg_M) : Prop := bC_X2_harmlessDivisor_60 P x3 σ
def bC_X2_harmlessDivisor_31 (P : Int32 → hg_M → Prop)  (x2 : Int32) (x3 : Int32) (t0 : Int32) (σ : hg_M) : Prop := vp_in x2 60 ∧ (wC_X5_divides (σ 20 (x2).toNatClampNeg) σ (fun r2 σ1 => ((r2 = 0 → bC_X2_harmlessDivisor_59 P x3 σ1) ∧ (¬ r2 = 0 → ((t0 = 0 → bC_X2_harmlessDivisor_59 P x3 σ1) ∧ (¬ t0 = 0 → wC_X2_chosenOr x3 (1 : Int32) σ1 (fun r4 σ3 => bC_X2_harmlessDivisor_60 P r4 σ3)))))))
def bC_X2_harmlessDivisor_26 (P : Int32 → hg_M → Prop)  (x2 : Int32) (x3 : Int32) (σ : hg_M) : Prop := bC_X2_harmlessDivisor_31 P x2 x3 (1 : Int32) σ
def wC_X2_harmlessDivisor (x2 : Int32) (x3 : Int32) (σ : hg_M) (P : Int32 → hg_M → Prop) : Prop := vp_in (((2 : Int32) * x2) + (1 : Int32)) 120 ∧ ((((σ 23 ((((2 : Int32) * x2) + (1 : Int32))).toNatClampNeg) ≠ 0 → bC_X2_harmlessDivisor_26 P x2 x3 σ) ∧ ((σ 23 ((((2 : Int32) * x2) + (1 : Int32))).toNatClampNeg) = 0 → vp_in (((2 : Int32) * x2) + (1 : Int32)) 120 ∧ ((((σ 24 ((((2 : Int32) * x2) + (1 : Int32))).toNatClampNeg) ≠ 0 → bC_X2_harmlessDivisor_31 P x2 x3 (0 : Int32) σ) ∧ ((σ 24 ((((2 : Int32) * x2) + (1 : Int32))).toNatClampNeg) = 0 → bC_X2_harmlessDivisor_26 P x2 x3 σ))))))
set_option maxRecDepth 4000 in
theorem tbC_X2_harmlessDivisor_60 {d : Nat} {E : hg_Et} {X : hg_X} {P : Int32 → hg_M → Prop}  (hC : hg_C hg_FC 5 (d + 3) E cX2_harmlessDivisor RX2 X) (hR : hg_Rni hg_FC (some .int) hg_rC P X)  (t0 : Int32) (σ : hg_M) (hw : bC_X2_harmlessDivisor_60 P t0 σ) : hg_G hg_FC 5 X 60 [] [.int t0] σ hg_rC := by
  unfold bC_X2_harmlessDivisor_60 at hw
  exact hg_reti hC hR dX2_harmlessDivisor_60 hw
set_option maxRecDepth 4000 in
theorem tbC_X2_harmlessDivisor_59 {d : Nat} {E : hg_Et} {X : hg_X} {P : Int32 → hg_M → Prop}  (hC : hg_C hg_FC 5 (d + 3) E cX2_harmlessDivisor RX2 X) (hR : hg_Rni hg_FC (some .int) hg_rC P X)  (x3 : Int32) (σ : hg_M) (hw : bC_X2_harmlessDivisor_59 P x3 σ) : hg_G hg_FC 5 X 59 [(3, .int x3)] [] σ hg_rC := by
  unfold bC_X2_harmlessDivisor_59 at hw
  refine hg_iload_n hC dX2_harmlessDivisor_59 rfl 0 rfl (n := 60) rfl ?_
  exact hg_sub [] rfl (tbC_X2_harmlessDivisor_60 hC hR  x3 σ hw)
set_option maxRecDepth 4000 in
theorem tbC_X2_harmlessDivisor_31 {d : Nat} {E : hg_Et} {X : hg_X} {P : Int32 → hg_M → Prop}  (hC : hg_C hg_FC 5 (d + 3) E cX2_harmlessDivisor RX2 X) (hR : hg_Rni hg_FC (some .int) hg_rC P X)  (x2 : Int32) (x3 : Int32) (t0 : Int32) (σ : hg_M) (hw : bC_X2_harmlessDivisor_31 P x2 x3 t0 σ) : hg_G hg_FC 5 X 31 [(0, .ref (hg_ad X 25)), (1, .ref (hg_ad X 16)), (2, .int x2), (3, .int x3)] [.int t0] σ hg_rC := by
  unfold bC_X2_harmlessDivisor_31 at hw
  refine hg_istore hC (L1 := [(4, .int t0), (0, .ref (hg_ad X 25)), (1, .ref (hg_ad X 16)), (2, .int x2), (3, .int x3)]) dX2_harmlessDivisor_31 (by decide) rfl (n := 33) rfl ?_
  refine hg_aload_n hC dX2_harmlessDivisor_33 rfl 2 rfl (n := 34) rfl ?_
  refine hg_getr hC fl_RX2_103 dX2_harmlessDivisor_34 qC_16 kC_16 fC_3_3 rC_16_3 (n := 37) rfl ?_
  refine hg_iload_n hC dX2_harmlessDivisor_37 rfl 3 rfl (n := 38) rfl ?_
  obtain ⟨h9, hw⟩ := hw
  refine hg_iald hC dX2_harmlessDivisor_38 qC_20 kC_20 h9 (n := 39) rfl ?_
  refine hg_cNi hC (tC_X5_divides (hg_Eof hC) X.2.1 (d + 1) _ _ _ hw) sn_RX2_130 dX2_harmlessDivisor_39 rfl (rest := []) rfl (Nat.le_of_ble_eq_true rfl) (n := 42) rfl (fun r2 σ1 hw => ?_)
  refine hg_if_eq hC dX2_harmlessDivisor_42 (tg := 59) rfl (n := 45) rfl (fun h9 => ?_) (fun h9 => ?_)
  · have hw := hw.1 h9
    exact hg_sub [4] rfl (tbC_X2_harmlessDivisor_59 hC hR  x3 σ1 hw)
  · have hw := hw.2 h9
    refine hg_iload hC dX2_harmlessDivisor_45 0 rfl (n := 47) rfl ?_
    refine hg_if_eq hC dX2_harmlessDivisor_47 (tg := 59) rfl (n := 50) rfl (fun h9 => ?_) (fun h9 => ?_)
    · have hw := hw.1 h9
      exact hg_sub [4] rfl (tbC_X2_harmlessDivisor_59 hC hR  x3 σ1 hw)
    · have hw := hw.2 h9
      refine hg_aload_n hC dX2_harmlessDivisor_50 rfl 1 rfl (n := 51) rfl ?_
      refine hg_iload_n hC dX2_harmlessDivisor_51 rfl 4 rfl (n := 52) rfl ?_
      refine hg_iconst hC dX2_harmlessDivisor_52 hl_i1 (n := 53) rfl ?_
      refine hg_cVi hC (tC_X2_chosenOr (hg_Eof hC) X.2.1 (d + 0) _ _ _ _ hw) sv_RX2_134 dX2_harmlessDivisor_53 qC_25 kC_25 c_2 rfl (rest := []) rfl (Nat.le_of_ble_eq_true rfl) (n := 56) rfl (fun r4 σ3 hw => ?_)
      refine hg_goto hC dX2_harmlessDivisor_56 (tg := 60) rfl ?_
      exact hg_sub [] rfl (tbC_X2_harmlessDivisor_60 hC hR  r4 σ3 hw)
set_option maxRecDepth 4000 in
theorem tbC_X2_harmlessDivisor_26 {d : Nat} {E : hg_Et} {X : hg_X} {P : Int32 → hg_M → Prop}  (hC : hg_C hg_FC 5 (d + 3) E cX2_harmlessDivisor RX2 X) (hR : hg_Rni hg_FC (some .int) hg_rC P X)  (x2 : Int32) (x3 : Int32) (σ : hg_M) (hw : bC_X2_harmlessDivisor_26 P x2 x3 σ) : hg_G hg_FC 5 X 26 [(0, .ref (hg_ad X 25)), (1, .ref (hg_ad X 16)), (2, .int x2), (3, .int x3)] [] σ hg_rC := by
  unfold bC_X2_harmlessDivisor_26 at hw
  refine hg_iconst hC dX2_harmlessDivisor_26 hl_i1 (n := 27) rfl ?_
  refine hg_goto hC dX2_harmlessDivisor_27 (tg := 31) rfl ?_
  exact tbC_X2_harmlessDivisor_31 hC hR  x2 x3 (1 : Int32) σ hw
set_option maxRecDepth 4000 in
theorem tC_X2_harmlessDivisor {E : hg_Et} (hE : hg_Eok E) (l : Launch) (d : Nat) (x2 : Int32) (x3 : Int32) (σ : hg_M) (P : Int32 → hg_M → Prop) (hw : wC_X2_harmlessDivisor x2 x3 σ P) : hg_Ni hg_FC E l yX2_harmlessDivisor cX2_harmlessDivisor 5 (some .int) (d + 3) (fun ad => [.ref (ad 25), .ref (ad 16), .int x2, .int x3]) hg_rC σ P := by
  refine hg_ni hE (by decide) (fun _ => Nat.le_of_ble_eq_true rfl) (fun X hC hR hl => ?_)
  subst hl
  have hC : hg_C hg_FC 5 (d + 3) E cX2_harmlessDivisor RX2 X := hC
  show hg_G hg_FC 5 X 0 [(0, .ref (hg_ad X 25)), (1, .ref (hg_ad X 16)), (2, .int x2), (3, .int x3)] [] σ hg_rC
  unfold wC_X2_harmlessDivisor at hw
  refine hg_aload_n hC dX2_harmlessDivisor_0 rfl 1 rfl (n := 1) rfl ?_
  refine hg_getr hC fl_RX2_92 dX2_harmlessDivisor_1 qC_16 kC_16 fC_3_6 rC_16_6 (n := 4) rfl ?_
  refine hg_iconst hC dX2_harmlessDivisor_4 hl_i2 (n := 5) rfl ?_
  refine hg_iload_n hC dX2_harmlessDivisor_5 rfl 2 rfl (n := 6) rfl ?_
  refine hg_imul hC dX2_harmlessDivisor_6 (n := 7) rfl ?_
  refine hg_iconst hC dX2_harmlessDivisor_7 hl_i1 (n := 8) rfl ?_
  refine hg_iadd hC dX2_harmlessDivisor_8 (n := 9) rfl ?_
  obtain ⟨h9, hw⟩ := hw
  refine hg_zald hC dX2_harmlessDivisor_9 qC_23 kC_23 h9 (n := 10) rfl ?_
  refine hg_if_ne hC dX2_harmlessDivisor_10 (tg := 26) rfl (n := 13) rfl (fun h9 => ?_) (fun h9 => ?_)
  · have hw := hw.1 h9
    exact tbC_X2_harmlessDivisor_26 hC hR  x2 x3 σ hw
  · have hw := hw.2 h9
    refine hg_aload_n hC dX2_harmlessDivisor_13 rfl 1 rfl (n := 14) rfl ?_
    refine hg_getr hC fl_RX2_89 dX2_harmlessDivisor_14 qC_16 kC_16 fC_3_7 rC_16_7 (n := 17) rfl ?_
    refine hg_iconst hC dX2_harmlessDivisor_17 hl_i2 (n := 18) rfl ?_
    refine hg_iload_n hC dX2_harmlessDivisor_18 rfl 2 rfl (n := 19) rfl ?_
    refine hg_imul hC dX2_harmlessDivisor_19 (n := 20) rfl ?_
    refine hg_iconst hC dX2_harmlessDivisor_20 hl_i1 (n := 21) rfl ?_
    refine hg_iadd hC dX2_harmlessDivisor_21 (n := 22) rfl ?_
    obtain ⟨h9, hw⟩ := hw
    refine hg_iald hC dX2_harmlessDivisor_22 qC_24 kC_24 h9 (n := 23) rfl ?_
    refine hg_if_ne hC dX2_harmlessDivisor_23 (tg := 30) rfl (n := 26) rfl (fun h9 => ?_) (fun h9 => ?_)
    · have hw := hw.1 h9
      refine hg_iconst hC dX2_harmlessDivisor_30 hl_i0 (n := 31) rfl ?_
      exact tbC_X2_harmlessDivisor_31 hC hR  x2 x3 (0 : Int32) σ hw
    · have hw := hw.2 h9
      exact tbC_X2_harmlessDivisor_26 hC hR  x2 x3 σ hw
def bC_X2_harmlessIndex_47 (P : Int32 → hg_M → Prop)  (t0 : Int32) (σ : hg_M) : Prop := P t0 σ
def bC_X2_harmlessIndex_30 (P : Int32 → hg_M → Prop)  (x3 : Int32) (t0 : Int32) (σ : hg_M) : Prop := ((t0 = 0 → wC_X2_chosenOr x3 (0 : Int32) σ (fun r4 σ3 => bC_X2_harmlessIndex_47 P r4 σ3)) ∧ (¬ t0 = 0 → bC_X2_harmlessIndex_47 P x3 σ))
def bC_X2_harmlessIndex_29 (P : Int32 → hg_M → Prop)  (x3 : Int32) (σ : hg_M) : Prop := bC_X2_harmlessIndex_30 P x3 (0 : Int32) σ
def wC_X2_harmlessIndex (x2 : Int32) (x3 : Int32) (σ : hg_M) (P : Int32 → hg_M → Prop) : Prop := vp_in ((2 : Int32) * x2) 120 ∧ ((((σ 23 (((2 : Int32) * x2)).toNatClampNeg) ≠ 0 → bC_X2_harmlessIndex_29 P x3 σ) ∧ ((σ 23 (((2 : Int32) * x2)).toNatClampNeg) = 0 → vp_in ((2 : Int32) * x2) 120 ∧ (wC_X5_isWord (σ 24 (((2 : Int32) * x2)).toNatClampNeg) σ (fun r2 σ1 => ((r2 = 0 → bC_X2_harmlessIndex_29 P x3 σ1) ∧ (¬ r2 = 0 → bC_X2_harmlessIndex_30 P x3 (1 : Int32) σ1)))))))
set_option maxRecDepth 4000 in
theorem tbC_X2_harmlessIndex_47 {d : Nat} {E : hg_Et} {X : hg_X} {P : Int32 → hg_M → Prop}  (hC : hg_C hg_FC 5 (d + 3) E cX2_harmlessIndex RX2 X) (hR : hg_Rni hg_FC (some .int) hg_rC P X)  (t0 : Int32) (σ : hg_M) (hw : bC_X2_harmlessIndex_47 P t0 σ) : hg_G hg_FC 5 X 47 [] [.int t0] σ hg_rC := by
  unfold bC_X2_harmlessIndex_47 at hw
  exact hg_reti hC hR dX2_harmlessIndex_47 hw
set_option maxRecDepth 4000 in
theorem tbC_X2_harmlessIndex_30 {d : Nat} {E : hg_Et} {X : hg_X} {P : Int32 → hg_M → Prop}  (hC : hg_C hg_FC 5 (d + 3) E cX2_harmlessIndex RX2 X) (hR : hg_Rni hg_FC (some .int) hg_rC P X)  (x3 : Int32) (t0 : Int32) (σ : hg_M) (hw : bC_X2_harmlessIndex_30 P x3 t0 σ) : hg_G hg_FC 5 X 30 [(0, .ref (hg_ad X 25)), (3, .int x3)] [.int t0] σ hg_rC := by
  unfold bC_X2_harmlessIndex_30 at hw
  refine hg_istore hC (L1 := [(4, .int t0), (0, .ref (hg_ad X 25)), (3, .int x3)]) dX2_harmlessIndex_30 (by decide) rfl (n := 32) rfl ?_
  refine hg_iload hC dX2_harmlessIndex_32 0 rfl (n := 34) rfl ?_
  refine hg_if_eq hC dX2_harmlessIndex_34 (tg := 41) rfl (n := 37) rfl (fun h9 => ?_) (fun h9 => ?_)
  · have hw := hw.1 h9
    refine hg_aload_n hC dX2_harmlessIndex_41 rfl 1 rfl (n := 42) rfl ?_
    refine hg_iload_n hC dX2_harmlessIndex_42 rfl 2 rfl (n := 43) rfl ?_
    refine hg_iconst hC dX2_harmlessIndex_43 hl_i0 (n := 44) rfl ?_
    refine hg_cVi hC (tC_X2_chosenOr (hg_Eof hC) X.2.1 (d + 0) _ _ _ _ hw) sv_RX2_134 dX2_harmlessIndex_44 qC_25 kC_25 c_2 rfl (rest := []) rfl (Nat.le_of_ble_eq_true rfl) (n := 47) rfl (fun r4 σ3 hw => ?_)
    exact hg_sub [] rfl (tbC_X2_harmlessIndex_47 hC hR  r4 σ3 hw)
  · have hw := hw.2 h9
    refine hg_iload_n hC dX2_harmlessIndex_37 rfl 2 rfl (n := 38) rfl ?_
    refine hg_goto hC dX2_harmlessIndex_38 (tg := 47) rfl ?_
    exact hg_sub [] rfl (tbC_X2_harmlessIndex_47 hC hR  x3 σ hw)
set_option maxRecDepth 4000 in
theorem tbC_X2_harmlessIndex_29 {d : Nat} {E : hg_Et} {X : hg_X} {P : Int32 → hg_M → Prop}  (hC : hg_C hg_FC 5 (d + 3) E cX2_harmlessIndex RX2 X) (hR : hg_Rni hg_FC (some .int) hg_rC P X)  (x3 : Int32) (σ : hg_M) (hw : bC_X2_harmlessIndex_29 P x3 σ) : hg_G hg_FC 5 X 29 [(0, .ref (hg_ad X 25)), (3, .int x3)] [] σ hg_rC := by
  unfold bC_X2_harmlessIndex_29 at hw
  refine hg_iconst hC dX2_harmlessIndex_29 hl_i0 (n := 30) rfl ?_
  exact tbC_X2_harmlessIndex_30 hC hR  x3 (0 : Int32) σ hw
set_option maxRecDepth 4000 in
theorem tC_X2_harmlessIndex {E : hg_Et} (hE : hg_Eok E) (l : Launch) (d : Nat) (x2 : Int32) (x3 : Int32) (σ : hg_M) (P : Int32 → hg_M → Prop) (hw : wC_X2_harmlessIndex x2 x3 σ P) : hg_Ni hg_FC E l yX2_harmlessIndex cX2_harmlessIndex 5 (some .int) (d + 3) (fun ad => [.ref (ad 25), .ref (ad 16), .int x2, .int x3]) hg_rC σ P := by
  refine hg_ni hE (by decide) (fun _ => Nat.le_of_ble_eq_true rfl) (fun X hC hR hl => ?_)
  subst hl
  have hC : hg_C hg_FC 5 (d + 3) E cX2_harmlessIndex RX2 X := hC
  show hg_G hg_FC 5 X 0 [(0, .ref (hg_ad X 25)), (1, .ref (hg_ad X 16)), (2, .int x2), (3, .int x3)] [] σ hg_rC
  unfold wC_X2_harmlessIndex at hw
  refine hg_aload_n hC dX2_harmlessIndex_0 rfl 1 rfl (n := 1) rfl ?_
  refine hg_getr hC fl_RX2_92 dX2_harmlessIndex_1 qC_16 kC_16 fC_3_6 rC_16_6 (n := 4) rfl ?_
  refine hg_iconst hC dX2_harmlessIndex_4 hl_i2 (n := 5) rfl ?_
  refine hg_iload_n hC dX2_harmlessIndex_5 rfl 2 rfl (n := 6) rfl ?_
  refine hg_imul hC dX2_harmlessIndex_6 (n := 7) rfl ?_
  obtain ⟨h9, hw⟩ := hw
  refine hg_zald hC dX2_harmlessIndex_7 qC_23 kC_23 h9 (n := 8) rfl ?_
  refine hg_if_ne hC dX2_harmlessIndex_8 (tg := 29) rfl (n := 11) rfl (fun h9 => ?_) (fun h9 => ?_)
  · have hw := hw.1 h9
    exact hg_sub [0, 3] rfl (tbC_X2_harmlessIndex_29 hC hR  x3 σ hw)
  · have hw := hw.2 h9
    refine hg_aload_n hC dX2_harmlessIndex_11 rfl 1 rfl (n := 12) rfl ?_
    refine hg_getr hC fl_RX2_89 dX2_harmlessIndex_12 qC_16 kC_16 fC_3_7 rC_16_7 (n := 15) rfl ?_
    refine hg_iconst hC dX2_harmlessIndex_15 hl_i2 (n := 16) rfl ?_
    refine hg_iload_n hC dX2_harmlessIndex_16 rfl 2 rfl (n := 17) rfl ?_
    refine hg_imul hC dX2_harmlessIndex_17 (n := 18) rfl ?_
    obtain ⟨h9, hw⟩ := hw
    refine hg_iald hC dX2_harmlessIndex_18 qC_24 kC_24 h9 (n := 19) rfl ?_
    refine hg_cNi hC (tC_X5_isWord (hg_Eof hC) X.2.1 (d + 1) _ _ _ hw) sn_RX2_137 dX2_harmlessIndex_19 rfl (rest := []) rfl (Nat.le_of_ble_eq_true rfl) (n := 22) rfl (fun r2 σ1 hw => ?_)
    refine hg_if_eq hC dX2_harmlessIndex_22 (tg := 29) rfl (n := 25) rfl (fun h9 => ?_) (fun h9 => ?_)
    · have hw := hw.1 h9
      exact hg_sub [0, 3] rfl (tbC_X2_harmlessIndex_29 hC hR  x3 σ1 hw)
    · have hw := hw.2 h9
      refine hg_iconst hC dX2_harmlessIndex_25 hl_i1 (n := 26) rfl ?_
      refine hg_goto hC dX2_harmlessIndex_26 (tg := 30) rfl ?_
      exact hg_sub [0, 3] rfl (tbC_X2_harmlessIndex_30 hC hR  x3 (1 : Int32) σ1 hw)
def bC_X1_reach_35 (P : hg_M → Prop)   (σ : hg_M) : Prop := P σ
def bC_X1_reach_22 (P : hg_M → Prop)  (x1 : Int32) (x2 : Int32) (x3 : Int32) (x4 : Int32) (σ : hg_M) : Prop := wC_X5_resultOf x1 x3 x4 σ (fun r5 σ4 => vp_in x2 736 ∧ (∀ σ6 : hg_M, σ6 = hg_set σ4 54 (x2).toNatClampNeg r5 → bC_X1_reach_35 P σ6))
def wC_X1_reach (x1 : Int32) (x2 : Int32) (x3 : Int32) (x4 : Int32) (x5 : Int32) (σ : hg_M) (P : hg_M → Prop) : Prop := wC_X5_divides x1 σ (fun r2 σ1 => ((r2 = 0 → bC_X1_reach_22 P x1 x2 x3 x4 σ1) ∧ (¬ r2 = 0 → ((x4 ≠ 0 → bC_X1_reach_22 P x1 x2 x3 x4 σ1) ∧ (x4 = 0 → wC_X1_end (1 : Int32) x5 σ1 (fun σ3 => bC_X1_reach_35 P σ3))))))
set_option maxRecDepth 4000 in
theorem tbC_X1_reach_35 {d : Nat} {E : hg_Et} {X : hg_X} {P : hg_M → Prop}  (hC : hg_C hg_FC 6 (d + 2) E cX1_reach RX1 X) (hR : hg_Rnv hg_FC hg_rC P X)   (σ : hg_M) (hw : bC_X1_reach_35 P  σ) : hg_G hg_FC 6 X 35 [] [] σ hg_rC := by
  unfold bC_X1_reach_35 at hw
  exact hg_retv hC hR dX1_reach_35 hw
set_option maxRecDepth 4000 in
theorem tbC_X1_reach_22 {d : Nat} {E : hg_Et} {X : hg_X} {P : hg_M → Prop}  (hC : hg_C hg_FC 6 (d + 2) E cX1_reach RX1 X) (hR : hg_Rnv hg_FC hg_rC P X)  (x1 : Int32) (x2 : Int32) (x3 : Int32) (x4 : Int32) (σ : hg_M) (hw : bC_X1_reach_22 P x1 x2 x3 x4 σ) : hg_G hg_FC 6 X 22 [(0, .ref (hg_ad X 53)), (1, .int x1), (2, .int x2), (3, .int x3), (4, .int x4)] [] σ hg_rC := by
  unfold bC_X1_reach_22 at hw
  refine hg_aload_n hC dX1_reach_22 rfl 0 rfl (n := 23) rfl ?_
  refine hg_getr hC fl_RX1_9 dX1_reach_23 qC_53 kC_53 fC_1_0 rC_53_0 (n := 26) rfl ?_
  refine hg_iload_n hC dX1_reach_26 rfl 2 rfl (n := 27) rfl ?_
  refine hg_iload_n hC dX1_reach_27 rfl 1 rfl (n := 28) rfl ?_
  refine hg_iload_n hC dX1_reach_28 rfl 3 rfl (n := 29) rfl ?_
  refine hg_iload hC dX1_reach_29 4 rfl (n := 31) rfl ?_
  refine hg_cNi hC (tC_X5_resultOf (hg_Eof hC) X.2.1 (d + 0) _ _ _ _ _ hw) sn_RX1_82 dX1_reach_31 rfl (rest := [.int x2, .ref (hg_ad X 54)]) rfl (Nat.le_of_ble_eq_true rfl) (n := 34) rfl (fun r5 σ4 hw => ?_)
  obtain ⟨h9, hw⟩ := hw
  refine hg_iast hC dX1_reach_34 qC_54 kC_54 h9 (n := 35) rfl (fun σ6 eσ6 => ?_)
  have hw := hw σ6 eσ6
  exact hg_sub [] rfl (tbC_X1_reach_35 hC hR  σ6 hw)
set_option maxRecDepth 4000 in
theorem tC_X1_reach {E : hg_Et} (hE : hg_Eok E) (l : Launch) (d : Nat) (x1 : Int32) (x2 : Int32) (x3 : Int32) (x4 : Int32) (x5 : Int32) (σ : hg_M) (P : hg_M → Prop) (hw : wC_X1_reach x1 x2 x3 x4 x5 σ P) : hg_Nv hg_FC E l yX1_reach cX1_reach 6 (d + 2) (fun ad => [.ref (ad 53), .int x1, .int x2, .int x3, .int x4, .int x5]) hg_rC σ P := by
  refine hg_nv hE (by decide) (fun _ => Nat.le_of_ble_eq_true rfl) (fun X hC hR hl => ?_)
  subst hl
  have hC : hg_C hg_FC 6 (d + 2) E cX1_reach RX1 X := hC
  show hg_G hg_FC 6 X 0 [(0, .ref (hg_ad X 53)), (1, .int x1), (2, .int x2), (3, .int x3), (4, .int x4), (5, .int x5)] [] σ hg_rC
  unfold wC_X1_reach at hw
  refine hg_iload_n hC dX1_reach_0 rfl 1 rfl (n := 1) rfl ?_
  refine hg_cNi hC (tC_X5_divides (hg_Eof hC) X.2.1 (d + 0) _ _ _ hw) sn_RX1_131 dX1_reach_1 rfl (rest := []) rfl (Nat.le_of_ble_eq_true rfl) (n := 4) rfl (fun r2 σ1 hw => ?_)
  refine hg_if_eq hC dX1_reach_4 (tg := 22) rfl (n := 7) rfl (fun h9 => ?_) (fun h9 => ?_)
  · have hw := hw.1 h9
    exact hg_sub [0, 1, 2, 3, 4] rfl (tbC_X1_reach_22 hC hR  x1 x2 x3 x4 σ1 hw)
  · have hw := hw.2 h9
    refine hg_iload hC dX1_reach_7 4 rfl (n := 9) rfl ?_
    refine hg_if_ne hC dX1_reach_9 (tg := 22) rfl (n := 12) rfl (fun h9 => ?_) (fun h9 => ?_)
    · have hw := hw.1 h9
      exact hg_sub [0, 1, 2, 3, 4] rfl (tbC_X1_reach_22 hC hR  x1 x2 x3 x4 σ1 hw)
    · have hw := hw.2 h9
      refine hg_aload_n hC dX1_reach_12 rfl 0 rfl (n := 13) rfl ?_
      refine hg_iconst hC dX1_reach_13 hl_i1 (n := 14) rfl ?_
      refine hg_iload hC dX1_reach_14 5 rfl (n := 16) rfl ?_
      refine hg_cVv hC (tC_X1_end (hg_Eof hC) X.2.1 (d + 0) _ _ _ _ hw) sv_RX1_135 dX1_reach_16 qC_53 kC_53 c_1 rfl (rest := []) rfl (Nat.le_of_ble_eq_true rfl) (n := 19) rfl (fun σ3 hw => ?_)
      refine hg_goto hC dX1_reach_19 (tg := 35) rfl ?_
      exact hg_sub [] rfl (tbC_X1_reach_35 hC hR  σ3 hw)
def bC_X1_load_28 (P : hg_M → Prop)   (σ : hg_M) : Prop := P σ
def wC_X1_load (x1 : Int32) (x2 : Int32) (x3 : Int32) (σ : hg_M) (P : hg_M → Prop) : Prop := wC_X5_isWord x2 σ (fun r2 σ1 => ((r2 = 0 → wC_X1_end (2 : Int32) x3 σ1 (fun σ3 => bC_X1_load_28 P σ3)) ∧ (¬ r2 = 0 → vp_in x2 32 ∧ (vp_in x1 736 ∧ (∀ σ4 : hg_M, σ4 = hg_set σ1 54 (x1).toNatClampNeg (σ1 55 (x2).toNatClampNeg) → bC_X1_load_28 P σ4)))))
set_option maxRecDepth 4000 in
theorem tbC_X1_load_28 {d : Nat} {E : hg_Et} {X : hg_X} {P : hg_M → Prop}  (hC : hg_C hg_FC 4 (d + 2) E cX1_load RX1 X) (hR : hg_Rnv hg_FC hg_rC P X)   (σ : hg_M) (hw : bC_X1_load_28 P  σ) : hg_G hg_FC 4 X 28 [] [] σ hg_rC := by
  unfold bC_X1_load_28 at hw
  exact hg_retv hC hR dX1_load_28 hw
set_option maxRecDepth 4000 in
theorem tC_X1_load {E : hg_Et} (hE : hg_Eok E) (l : Launch) (d : Nat) (x1 : Int32) (x2 : Int32) (x3 : Int32) (σ : hg_M) (P : hg_M → Prop) (hw : wC_X1_load x1 x2 x3 σ P) : hg_Nv hg_FC E l yX1_load cX1_load 4 (d + 2) (fun ad => [.ref (ad 53), .int x1, .int x2, .int x3]) hg_rC σ P := by
  refine hg_nv hE (by decide) (fun _ => Nat.le_of_ble_eq_true rfl) (fun X hC hR hl => ?_)
  subst hl
  have hC : hg_C hg_FC 4 (d + 2) E cX1_load RX1 X := hC
  show hg_G hg_FC 4 X 0 [(0, .ref (hg_ad X 53)), (1, .int x1), (2, .int x2), (3, .int x3)] [] σ hg_rC
  unfold wC_X1_load at hw
  refine hg_iload_n hC dX1_load_0 rfl 2 rfl (n := 1) rfl ?_
  refine hg_cNi hC (tC_X5_isWord (hg_Eof hC) X.2.1 (d + 0) _ _ _ hw) sn_RX1_138 dX1_load_1 rfl (rest := []) rfl (Nat.le_of_ble_eq_true rfl) (n := 4) rfl (fun r2 σ1 hw => ?_)
  refine hg_if_eq hC dX1_load_4 (tg := 22) rfl (n := 7) rfl (fun h9 => ?_) (fun h9 => ?_)
  · have hw := hw.1 h9
    refine hg_aload_n hC dX1_load_22 rfl 0 rfl (n := 23) rfl ?_
    refine hg_iconst hC dX1_load_23 hl_i2 (n := 24) rfl ?_
    refine hg_iload_n hC dX1_load_24 rfl 3 rfl (n := 25) rfl ?_
    refine hg_cVv hC (tC_X1_end (hg_Eof hC) X.2.1 (d + 0) _ _ _ _ hw) sv_RX1_135 dX1_load_25 qC_53 kC_53 c_1 rfl (rest := []) rfl (Nat.le_of_ble_eq_true rfl) (n := 28) rfl (fun σ3 hw => ?_)
    exact hg_sub [] rfl (tbC_X1_load_28 hC hR  σ3 hw)
  · have hw := hw.2 h9
    refine hg_aload_n hC dX1_load_7 rfl 0 rfl (n := 8) rfl ?_
    refine hg_getr hC fl_RX1_9 dX1_load_8 qC_53 kC_53 fC_1_0 rC_53_0 (n := 11) rfl ?_
    refine hg_iload_n hC dX1_load_11 rfl 1 rfl (n := 12) rfl ?_
    refine hg_aload_n hC dX1_load_12 rfl 0 rfl (n := 13) rfl ?_
    refine hg_getr hC fl_RX1_15 dX1_load_13 qC_53 kC_53 fC_1_1 rC_53_1 (n := 16) rfl ?_
    refine hg_iload_n hC dX1_load_16 rfl 2 rfl (n := 17) rfl ?_
    obtain ⟨h9, hw⟩ := hw
    refine hg_iald hC dX1_load_17 qC_55 kC_55 h9 (n := 18) rfl ?_
    obtain ⟨h9, hw⟩ := hw
    refine hg_iast hC dX1_load_18 qC_54 kC_54 h9 (n := 19) rfl (fun σ4 eσ4 => ?_)
    have hw := hw σ4 eσ4
    refine hg_goto hC dX1_load_19 (tg := 28) rfl ?_
    exact hg_sub [] rfl (tbC_X1_load_28 hC hR  σ4 hw)
def bC_X1_store_23 (P : hg_M → Prop)   (σ : hg_M) : Prop := P σ
def wC_X1_store (x1 : Int32) (x2 : Int32) (x3 : Int32) (σ : hg_M) (P : hg_M → Prop) : Prop := wC_X5_isWord x1 σ (fun r2 σ1 => ((r2 = 0 → wC_X1_end (2 : Int32) x3 σ1 (fun σ3 => bC_X1_store_23 P σ3)) ∧ (¬ r2 = 0 → vp_in x1 32 ∧ (∀ σ4 : hg_M, σ4 = hg_set σ1 55 (x1).toNatClampNeg x2 → bC_X1_store_23 P σ4))))
set_option maxRecDepth 4000 in
theorem tbC_X1_store_23 {d : Nat} {E : hg_Et} {X : hg_X} {P : hg_M → Prop}  (hC : hg_C hg_FC 4 (d + 2) E cX1_store RX1 X) (hR : hg_Rnv hg_FC hg_rC P X)   (σ : hg_M) (hw : bC_X1_store_23 P  σ) : hg_G hg_FC 4 X 23 [] [] σ hg_rC := by
  unfold bC_X1_store_23 at hw
  exact hg_retv hC hR dX1_store_23 hw
set_option maxRecDepth 4000 in
theorem tC_X1_store {E : hg_Et} (hE : hg_Eok E) (l : Launch) (d : Nat) (x1 : Int32) (x2 : Int32) (x3 : Int32) (σ : hg_M) (P : hg_M → Prop) (hw : wC_X1_store x1 x2 x3 σ P) : hg_Nv hg_FC E l yX1_store cX1_store 4 (d + 2) (fun ad => [.ref (ad 53), .int x1, .int x2, .int x3]) hg_rC σ P := by
  refine hg_nv hE (by decide) (fun _ => Nat.le_of_ble_eq_true rfl) (fun X hC hR hl => ?_)
  subst hl
  have hC : hg_C hg_FC 4 (d + 2) E cX1_store RX1 X := hC
  show hg_G hg_FC 4 X 0 [(0, .ref (hg_ad X 53)), (1, .int x1), (2, .int x2), (3, .int x3)] [] σ hg_rC
  unfold wC_X1_store at hw
  refine hg_iload_n hC dX1_store_0 rfl 1 rfl (n := 1) rfl ?_
  refine hg_cNi hC (tC_X5_isWord (hg_Eof hC) X.2.1 (d + 0) _ _ _ hw) sn_RX1_138 dX1_store_1 rfl (rest := []) rfl (Nat.le_of_ble_eq_true rfl) (n := 4) rfl (fun r2 σ1 hw => ?_)
  refine hg_if_eq hC dX1_store_4 (tg := 17) rfl (n := 7) rfl (fun h9 => ?_) (fun h9 => ?_)
  · have hw := hw.1 h9
    refine hg_aload_n hC dX1_store_17 rfl 0 rfl (n := 18) rfl ?_
    refine hg_iconst hC dX1_store_18 hl_i2 (n := 19) rfl ?_
    refine hg_iload_n hC dX1_store_19 rfl 3 rfl (n := 20) rfl ?_
    refine hg_cVv hC (tC_X1_end (hg_Eof hC) X.2.1 (d + 0) _ _ _ _ hw) sv_RX1_135 dX1_store_20 qC_53 kC_53 c_1 rfl (rest := []) rfl (Nat.le_of_ble_eq_true rfl) (n := 23) rfl (fun σ3 hw => ?_)
    exact hg_sub [] rfl (tbC_X1_store_23 hC hR  σ3 hw)
  · have hw := hw.2 h9
    refine hg_aload_n hC dX1_store_7 rfl 0 rfl (n := 8) rfl ?_
    refine hg_getr hC fl_RX1_15 dX1_store_8 qC_53 kC_53 fC_1_1 rC_53_1 (n := 11) rfl ?_
    refine hg_iload_n hC dX1_store_11 rfl 1 rfl (n := 12) rfl ?_
    refine hg_iload_n hC dX1_store_12 rfl 2 rfl (n := 13) rfl ?_
    obtain ⟨h9, hw⟩ := hw
    refine hg_iast hC dX1_store_13 qC_55 kC_55 h9 (n := 14) rfl (fun σ4 eσ4 => ?_)
    have hw := hw σ4 eσ4
    refine hg_goto hC dX1_store_14 (tg := 23) rfl ?_
    exact hg_sub [] rfl (tbC_X1_store_23 hC hR  σ4 hw)
def bC_X0_findUseless_84 (P : hg_M → Prop) (J31 : Int32 → hg_M → Prop) (x1 : Int32) (σ : hg_M) : Prop := ∀ v8 : Int32, v8 = x1 + (-1 : Int32) → J31 v8 σ
def bC_X0_findUseless_69 (P : hg_M → Prop) (J31 : Int32 → hg_M → Prop) (x1 : Int32) (t1 : Int32) (t2 : Int32) (σ : hg_M) : Prop := vp_in t1 720 ∧ (∀ σ6 : hg_M, σ6 = hg_set σ 51 (t1).toNatClampNeg (vp_nar .boolean t2) → vp_in x1 720 ∧ ((((σ6 51 (x1).toNatClampNeg) = 0 → bC_X0_findUseless_84 P J31 x1 σ6) ∧ (¬ (σ6 51 (x1).toNatClampNeg) = 0 → wC_X0_markTaken x1 σ6 (fun σ7 => bC_X0_findUseless_84 P J31 x1 σ7)))))
def bC_X0_findUseless_64 (P : hg_M → Prop) (J31 : Int32 → hg_M → Prop) (x1 : Int32) (t1 : Int32) (σ : hg_M) : Prop := bC_X0_findUseless_69 P J31 x1 t1 (1 : Int32) σ
def lC_X0_findUseless_31 (P : hg_M → Prop)  : Nat → Int32 → hg_M → Prop
  | 0, _, _ => False
  | n + 1, x1, σ => ((x1 < 0 → P σ) ∧ (¬ x1 < 0 → wC_X0_mayGo x1 σ (fun r5 σ4 => ((r5 = 0 → bC_X0_findUseless_64 P (fun k0 k1 => lC_X0_findUseless_31 P n k0 k1) x1 x1 σ4) ∧ (¬ r5 = 0 → vp_in x1 720 ∧ (vp_in (σ4 45 (x1).toNatClampNeg) 736 ∧ ((((σ4 50 ((σ4 45 (x1).toNatClampNeg)).toNatClampNeg) = 0 → bC_X0_findUseless_69 P (fun k0 k1 => lC_X0_findUseless_31 P n k0 k1) x1 x1 (0 : Int32) σ4) ∧ (¬ (σ4 50 ((σ4 45 (x1).toNatClampNeg)).toNatClampNeg) = 0 → bC_X0_findUseless_64 P (fun k0 k1 => lC_X0_findUseless_31 P n k0 k1) x1 x1 σ4)))))))))
def lC_X0_findUseless_2 (P : hg_M → Prop)  : Nat → Int32 → hg_M → Prop
  | 0, _, _ => False
  | n + 1, x1, σ => (((736 : Int32) ≤ x1 → ∀ v1 : Int32, v1 = ((σ 42 1) - (1 : Int32)) → (∃ f9, lC_X0_findUseless_31 P f9 v1 σ)) ∧ (¬ ((736 : Int32) ≤ x1) → vp_in x1 736 ∧ (∀ σ2 : hg_M, σ2 = hg_set σ 50 (x1).toNatClampNeg (vp_nar .boolean (0 : Int32)) → ∀ v3 : Int32, v3 = x1 + (1 : Int32) → lC_X0_findUseless_2 P n v3 σ2)))
def wC_X0_findUseless  (σ : hg_M) (P : hg_M → Prop) : Prop := (∃ f9, lC_X0_findUseless_2 P f9 (0 : Int32) σ)
set_option maxRecDepth 4000 in
theorem tbC_X0_findUseless_84 {d : Nat} {E : hg_Et} {X : hg_X} {P : hg_M → Prop} {J31 : Int32 → hg_M → Prop} (hC : hg_C hg_FC 2 (d + 3) E cX0_findUseless RX0 X) (hR : hg_Rnv hg_FC hg_rC P X) (hJ31 : ∀ (x1 : Int32) (σ : hg_M), J31 x1 σ → hg_G hg_FC 2 X 31 [(0, .ref (hg_ad X 42)), (1, .int x1)] [] σ hg_rC) (x1 : Int32) (σ : hg_M) (hw : bC_X0_findUseless_84 P J31 x1 σ) : hg_G hg_FC 2 X 84 [(0, .ref (hg_ad X 42)), (1, .int x1)] [] σ hg_rC := by
  unfold bC_X0_findUseless_84 at hw
  obtain ⟨v8, ev8⟩ : ∃ z, z = x1 + (-1 : Int32) := ⟨_, rfl⟩
  have hw := hw v8 ev8
  refine hg_iinc hC (v := v8) (L1 := [(1, .int v8), (0, .ref (hg_ad X 42))]) dX0_findUseless_84 1 rfl (by rw [hl_im1, ev8]) (by decide) rfl (n := 87) rfl ?_
  refine hg_goto hC dX0_findUseless_87 (tg := 31) rfl ?_
  exact hg_sub [1, 0] rfl (hJ31 v8 σ hw)
set_option maxRecDepth 4000 in
theorem tbC_X0_findUseless_69 {d : Nat} {E : hg_Et} {X : hg_X} {P : hg_M → Prop} {J31 : Int32 → hg_M → Prop} (hC : hg_C hg_FC 2 (d + 3) E cX0_findUseless RX0 X) (hR : hg_Rnv hg_FC hg_rC P X) (hJ31 : ∀ (x1 : Int32) (σ : hg_M), J31 x1 σ → hg_G hg_FC 2 X 31 [(0, .ref (hg_ad X 42)), (1, .int x1)] [] σ hg_rC) (x1 : Int32) (t1 : Int32) (t2 : Int32) (σ : hg_M) (hw : bC_X0_findUseless_69 P J31 x1 t1 t2 σ) : hg_G hg_FC 2 X 69 [(0, .ref (hg_ad X 42)), (1, .int x1)] [.int t2, .int t1, .ref (hg_ad X 51)] σ hg_rC := by
  unfold bC_X0_findUseless_69 at hw
  obtain ⟨h9, hw⟩ := hw
  refine hg_zast hC dX0_findUseless_69 qC_51 kC_51 h9 (n := 70) rfl (fun σ6 eσ6 => ?_)
  have hw := hw σ6 eσ6
  refine hg_aload_n hC dX0_findUseless_70 rfl 0 rfl (n := 71) rfl ?_
  refine hg_getr hC fl_RX0_30 dX0_findUseless_71 qC_42 kC_42 fC_0_5 rC_42_5 (n := 74) rfl ?_
  refine hg_iload_n hC dX0_findUseless_74 rfl 1 rfl (n := 75) rfl ?_
  obtain ⟨h9, hw⟩ := hw
  refine hg_zald hC dX0_findUseless_75 qC_51 kC_51 h9 (n := 76) rfl ?_
  refine hg_if_eq hC dX0_findUseless_76 (tg := 84) rfl (n := 79) rfl (fun h9 => ?_) (fun h9 => ?_)
  · have hw := hw.1 h9
    exact tbC_X0_findUseless_84 hC hR hJ31 x1 σ6 hw
  · have hw := hw.2 h9
    refine hg_aload_n hC dX0_findUseless_79 rfl 0 rfl (n := 80) rfl ?_
    refine hg_iload_n hC dX0_findUseless_80 rfl 1 rfl (n := 81) rfl ?_
    refine hg_cVv hC (tC_X0_markTaken (hg_Eof hC) X.2.1 (d + 1) _ _ _ hw) sv_RX0_55 dX0_findUseless_81 qC_42 kC_42 c_0 rfl (rest := []) rfl (Nat.le_of_ble_eq_true rfl) (n := 84) rfl (fun σ7 hw => ?_)
    exact tbC_X0_findUseless_84 hC hR hJ31 x1 σ7 hw
set_option maxRecDepth 4000 in
theorem tbC_X0_findUseless_64 {d : Nat} {E : hg_Et} {X : hg_X} {P : hg_M → Prop} {J31 : Int32 → hg_M → Prop} (hC : hg_C hg_FC 2 (d + 3) E cX0_findUseless RX0 X) (hR : hg_Rnv hg_FC hg_rC P X) (hJ31 : ∀ (x1 : Int32) (σ : hg_M), J31 x1 σ → hg_G hg_FC 2 X 31 [(0, .ref (hg_ad X 42)), (1, .int x1)] [] σ hg_rC) (x1 : Int32) (t1 : Int32) (σ : hg_M) (hw : bC_X0_findUseless_64 P J31 x1 t1 σ) : hg_G hg_FC 2 X 64 [(0, .ref (hg_ad X 42)), (1, .int x1)] [.int t1, .ref (hg_ad X 51)] σ hg_rC := by
  unfold bC_X0_findUseless_64 at hw
  refine hg_iconst hC dX0_findUseless_64 hl_i1 (n := 65) rfl ?_
  refine hg_goto hC dX0_findUseless_65 (tg := 69) rfl ?_
  exact tbC_X0_findUseless_69 hC hR hJ31 x1 t1 (1 : Int32) σ hw
set_option maxRecDepth 4000 in
theorem tlC_X0_findUseless_31 {d : Nat} {E : hg_Et} {X : hg_X} {P : hg_M → Prop}  (hC : hg_C hg_FC 2 (d + 3) E cX0_findUseless RX0 X) (hR : hg_Rnv hg_FC hg_rC P X)  (n : Nat) : ∀ (x1 : Int32) (σ : hg_M), lC_X0_findUseless_31 P n x1 σ → hg_G hg_FC 2 X 31 [(0, .ref (hg_ad X 42)), (1, .int x1)] [] σ hg_rC := by
  induction n with
  | zero =>
    intro x1 σ hw
    rw [lC_X0_findUseless_31] at hw
    exact hw.elim
  | succ n ih =>
    intro x1 σ hw
    rw [lC_X0_findUseless_31] at hw
    refine hg_iload_n hC dX0_findUseless_31 rfl 1 rfl (n := 32) rfl ?_
    refine hg_if_lt hC dX0_findUseless_32 (tg := 90) rfl (n := 35) rfl (fun h9 => ?_) (fun h9 => ?_)
    · have hw := hw.1 h9
      exact hg_retv hC hR dX0_findUseless_90 hw
    · have hw := hw.2 h9
      refine hg_aload_n hC dX0_findUseless_35 rfl 0 rfl (n := 36) rfl ?_
      refine hg_getr hC fl_RX0_30 dX0_findUseless_36 qC_42 kC_42 fC_0_5 rC_42_5 (n := 39) rfl ?_
      refine hg_iload_n hC dX0_findUseless_39 rfl 1 rfl (n := 40) rfl ?_
      refine hg_aload_n hC dX0_findUseless_40 rfl 0 rfl (n := 41) rfl ?_
      refine hg_iload_n hC dX0_findUseless_41 rfl 1 rfl (n := 42) rfl ?_
      refine hg_cVi hC (tC_X0_mayGo (hg_Eof hC) X.2.1 (d + 0) _ _ _ hw) sv_RX0_52 dX0_findUseless_42 qC_42 kC_42 c_0 rfl (rest := [.int x1, .ref (hg_ad X 51)]) rfl (Nat.le_of_ble_eq_true rfl) (n := 45) rfl (fun r5 σ4 hw => ?_)
      refine hg_if_eq hC dX0_findUseless_45 (tg := 64) rfl (n := 48) rfl (fun h9 => ?_) (fun h9 => ?_)
      · have hw := hw.1 h9
        exact tbC_X0_findUseless_64 hC hR ih x1 x1 σ4 hw
      · have hw := hw.2 h9
        refine hg_aload_n hC dX0_findUseless_48 rfl 0 rfl (n := 49) rfl ?_
        refine hg_getr hC fl_RX0_26 dX0_findUseless_49 qC_42 kC_42 fC_0_4 rC_42_4 (n := 52) rfl ?_
        refine hg_aload_n hC dX0_findUseless_52 rfl 0 rfl (n := 53) rfl ?_
        refine hg_getr hC fl_RX0_13 dX0_findUseless_53 qC_42 kC_42 fC_0_0 rC_42_0 (n := 56) rfl ?_
        refine hg_iconst hC dX0_findUseless_56 hl_i1 (n := 57) rfl ?_
        refine hg_aald hC (r := 45) dX0_findUseless_57 qC_43 kC_43 vi_1_6 riC_43_1 (n := 58) rfl ?_
        refine hg_iload_n hC dX0_findUseless_58 rfl 1 rfl (n := 59) rfl ?_
        obtain ⟨h9, hw⟩ := hw
        refine hg_iald hC dX0_findUseless_59 qC_45 kC_45 h9 (n := 60) rfl ?_
        obtain ⟨h9, hw⟩ := hw
        refine hg_zald hC dX0_findUseless_60 qC_50 kC_50 h9 (n := 61) rfl ?_
        refine hg_if_eq hC dX0_findUseless_61 (tg := 68) rfl (n := 64) rfl (fun h9 => ?_) (fun h9 => ?_)
        · have hw := hw.1 h9
          refine hg_iconst hC dX0_findUseless_68 hl_i0 (n := 69) rfl ?_
          exact tbC_X0_findUseless_69 hC hR ih x1 x1 (0 : Int32) σ4 hw
        · have hw := hw.2 h9
          exact tbC_X0_findUseless_64 hC hR ih x1 x1 σ4 hw
set_option maxRecDepth 4000 in
theorem tlC_X0_findUseless_2 {d : Nat} {E : hg_Et} {X : hg_X} {P : hg_M → Prop}  (hC : hg_C hg_FC 2 (d + 3) E cX0_findUseless RX0 X) (hR : hg_Rnv hg_FC hg_rC P X)  (n : Nat) : ∀ (x1 : Int32) (σ : hg_M), lC_X0_findUseless_2 P n x1 σ → hg_G hg_FC 2 X 2 [(0, .ref (hg_ad X 42)), (1, .int x1)] [] σ hg_rC := by
  induction n with
  | zero =>
    intro x1 σ hw
    rw [lC_X0_findUseless_2] at hw
    exact hw.elim
  | succ n ih =>
    intro x1 σ hw
    rw [lC_X0_findUseless_2] at hw
    refine hg_iload_n hC dX0_findUseless_2 rfl 1 rfl (n := 3) rfl ?_
    refine hg_aload_n hC dX0_findUseless_3 rfl 0 rfl (n := 4) rfl ?_
    refine hg_getr hC fl_RX0_26 dX0_findUseless_4 qC_42 kC_42 fC_0_4 rC_42_4 (n := 7) rfl ?_
    refine hg_alen hC dX0_findUseless_7 qC_50 kC_50 (by decide) hl_n736 (n := 8) rfl ?_
    refine hg_icmp_ge hC dX0_findUseless_8 (tg := 24) rfl (n := 11) rfl (fun h9 => ?_) (fun h9 => ?_)
    · have hw := hw.1 h9
      refine hg_aload_n hC dX0_findUseless_24 rfl 0 rfl (n := 25) rfl ?_
      refine hg_geti hC fl_RX0_16 dX0_findUseless_25 qC_42 kC_42 fC_0_1 (n := 28) rfl ?_
      refine hg_iconst hC dX0_findUseless_28 hl_i1 (n := 29) rfl ?_
      refine hg_isub hC dX0_findUseless_29 (n := 30) rfl ?_
      refine hg_topi (fun v1 ev1 => ?_)
      have hw := hw v1 ev1
      refine hg_istore_n hC (L1 := [(1, .int v1), (0, .ref (hg_ad X 42))]) dX0_findUseless_30 rfl (by decide) rfl (n := 31) rfl ?_
      obtain ⟨n9, hw⟩ := hw
      exact hg_sub [1, 0] rfl (tlC_X0_findUseless_31 hC hR  n9 v1 σ hw)
    · have hw := hw.2 h9
      refine hg_aload_n hC dX0_findUseless_11 rfl 0 rfl (n := 12) rfl ?_
      refine hg_getr hC fl_RX0_26 dX0_findUseless_12 qC_42 kC_42 fC_0_4 rC_42_4 (n := 15) rfl ?_
      refine hg_iload_n hC dX0_findUseless_15 rfl 1 rfl (n := 16) rfl ?_
      refine hg_iconst hC dX0_findUseless_16 hl_i0 (n := 17) rfl ?_
      obtain ⟨h9, hw⟩ := hw
      refine hg_zast hC dX0_findUseless_17 qC_50 kC_50 h9 (n := 18) rfl (fun σ2 eσ2 => ?_)
      have hw := hw σ2 eσ2
      obtain ⟨v3, ev3⟩ : ∃ z, z = x1 + (1 : Int32) := ⟨_, rfl⟩
      have hw := hw v3 ev3
      refine hg_iinc hC (v := v3) (L1 := [(1, .int v3), (0, .ref (hg_ad X 42))]) dX0_findUseless_18 1 rfl (by rw [hl_i1, ev3]) (by decide) rfl (n := 21) rfl ?_
      refine hg_goto hC dX0_findUseless_21 (tg := 2) rfl ?_
      exact hg_sub [1, 0] rfl (ih v3 σ2 hw)
set_option maxRecDepth 4000 in
theorem tC_X0_findUseless {E : hg_Et} (hE : hg_Eok E) (l : Launch) (d : Nat)  (σ : hg_M) (P : hg_M → Prop) (hw : wC_X0_findUseless  σ P) : hg_Nv hg_FC E l yX0_findUseless cX0_findUseless 2 (d + 3) (fun ad => [.ref (ad 42)]) hg_rC σ P := by
  refine hg_nv hE (by decide) (fun _ => Nat.le_of_ble_eq_true rfl) (fun X hC hR hl => ?_)
  subst hl
  have hC : hg_C hg_FC 2 (d + 3) E cX0_findUseless RX0 X := hC
  show hg_G hg_FC 2 X 0 [(0, .ref (hg_ad X 42))] [] σ hg_rC
  unfold wC_X0_findUseless at hw
  refine hg_iconst hC dX0_findUseless_0 hl_i0 (n := 1) rfl ?_
  refine hg_istore_n hC (L1 := [(1, .int (0 : Int32)), (0, .ref (hg_ad X 42))]) dX0_findUseless_1 rfl (by decide) rfl (n := 2) rfl ?_
  obtain ⟨n9, hw⟩ := hw
  exact hg_sub [1, 0] rfl (tlC_X0_findUseless_2 hC hR  n9 (0 : Int32) σ hw)
def bC_X4_takeValue_89 (P : Int32 → hg_M → Prop)  (t0 : Int32) (σ : hg_M) : Prop := ((t0 = 0 ∨ t0 = 1) ∧ P t0 σ)
def bC_X4_takeValue_68 (P : Int32 → hg_M → Prop)  (x1 : Int32) (x2 : Int32) (x3 : Int32) (σ : hg_M) : Prop := wC_X4_isFigure x2 σ (fun r11 σ10 => ((r11 = 0 → wC_X4_refuse (1 : Int32) σ10 (fun r13 σ12 => bC_X4_takeValue_89 P r13 σ12)) ∧ (¬ r11 = 0 → wC_X4_takeNumber x1 x3 σ10 (fun r15 σ14 => bC_X4_takeValue_89 P r15 σ14))))
def bC_X4_takeValue_48 (P : Int32 → hg_M → Prop)  (x1 : Int32) (x2 : Int32) (t0 : Int32) (σ : hg_M) : Prop := ((t0 = 0 → bC_X4_takeValue_68 P x1 x2 t0 σ) ∧ (¬ t0 = 0 → ∀ σ7 : hg_M, σ7 = hg_set σ 3 6 ((σ 3 6) + (1 : Int32)) → wC_X4_nextByte σ7 (fun r9 σ8 => bC_X4_takeValue_68 P x1 r9 t0 σ8)))
def wC_X4_takeValue (x1 : Int32) (σ : hg_M) (P : Int32 → hg_M → Prop) : Prop := wC_X4_nextByte σ (fun r2 σ1 => wC_X4_isVariable r2 σ1 (fun r4 σ3 => ((r4 = 0 → ((r2 ≠ (45 : Int32) → bC_X4_takeValue_48 P x1 r2 (0 : Int32) σ3) ∧ (r2 = (45 : Int32) → bC_X4_takeValue_48 P x1 r2 (1 : Int32) σ3))) ∧ (¬ r4 = 0 → ∀ σ5 : hg_M, σ5 = hg_set σ3 3 6 ((σ3 3 6) + (1 : Int32)) → wC_X3_putValue x1 (1 : Int32) (r2 - (97 : Int32)) σ5 (fun σ6 => (((1 : Int32) = 0 ∨ (1 : Int32) = 1) ∧ P (1 : Int32) σ6))))))
set_option maxRecDepth 4000 in
theorem tbC_X4_takeValue_89 {d : Nat} {E : hg_Et} {X : hg_X} {P : Int32 → hg_M → Prop}  (hC : hg_C hg_FC 4 (d + 3) E cX4_takeValue RX4 X) (hR : hg_Rni hg_FC (some .boolean) hg_rC P X)  (t0 : Int32) (σ : hg_M) (hw : bC_X4_takeValue_89 P t0 σ) : hg_G hg_FC 4 X 89 [] [.int t0] σ hg_rC := by
  unfold bC_X4_takeValue_89 at hw
  exact hg_retz hC hR dX4_takeValue_89 hw
set_option maxRecDepth 4000 in
theorem tbC_X4_takeValue_68 {d : Nat} {E : hg_Et} {X : hg_X} {P : Int32 → hg_M → Prop}  (hC : hg_C hg_FC 4 (d + 3) E cX4_takeValue RX4 X) (hR : hg_Rni hg_FC (some .boolean) hg_rC P X)  (x1 : Int32) (x2 : Int32) (x3 : Int32) (σ : hg_M) (hw : bC_X4_takeValue_68 P x1 x2 x3 σ) : hg_G hg_FC 4 X 68 [(0, .ref (hg_ad X 3)), (1, .int x1), (2, .int x2), (3, .int x3)] [] σ hg_rC := by
  unfold bC_X4_takeValue_68 at hw
  refine hg_iload_n hC dX4_takeValue_68 rfl 2 rfl (n := 69) rfl ?_
  refine hg_cSi hC (tC_X4_isFigure (hg_Eof hC) X.2.1 (d + 1) _ _ _ hw) ss_RX4_115 dX4_takeValue_69 rfl (rest := []) rfl (Nat.le_of_ble_eq_true rfl) (n := 72) rfl (fun r11 σ10 hw => ?_)
  refine hg_if_eq hC dX4_takeValue_72 (tg := 84) rfl (n := 75) rfl (fun h9 => ?_) (fun h9 => ?_)
  · have hw := hw.1 h9
    refine hg_aload_n hC dX4_takeValue_84 rfl 0 rfl (n := 85) rfl ?_
    refine hg_iconst hC dX4_takeValue_85 hl_i1 (n := 86) rfl ?_
    refine hg_cVi hC (tC_X4_refuse (hg_Eof hC) X.2.1 (d + 1) _ _ _ hw) sv_RX4_52 dX4_takeValue_86 qC_3 kC_3 c_4 rfl (rest := []) rfl (Nat.le_of_ble_eq_true rfl) (n := 89) rfl (fun r13 σ12 hw => ?_)
    exact hg_sub [] rfl (tbC_X4_takeValue_89 hC hR  r13 σ12 hw)
  · have hw := hw.2 h9
    refine hg_aload_n hC dX4_takeValue_75 rfl 0 rfl (n := 76) rfl ?_
    refine hg_iload_n hC dX4_takeValue_76 rfl 1 rfl (n := 77) rfl ?_
    refine hg_iload_n hC dX4_takeValue_77 rfl 3 rfl (n := 78) rfl ?_
    refine hg_cVi hC (tC_X4_takeNumber (hg_Eof hC) X.2.1 (d + 0) _ _ _ _ hw) sv_RX4_118 dX4_takeValue_78 qC_3 kC_3 c_4 rfl (rest := []) rfl (Nat.le_of_ble_eq_true rfl) (n := 81) rfl (fun r15 σ14 hw => ?_)
    refine hg_goto hC dX4_takeValue_81 (tg := 89) rfl ?_
    exact hg_sub [] rfl (tbC_X4_takeValue_89 hC hR  r15 σ14 hw)
set_option maxRecDepth 4000 in
theorem tbC_X4_takeValue_48 {d : Nat} {E : hg_Et} {X : hg_X} {P : Int32 → hg_M → Prop}  (hC : hg_C hg_FC 4 (d + 3) E cX4_takeValue RX4 X) (hR : hg_Rni hg_FC (some .boolean) hg_rC P X)  (x1 : Int32) (x2 : Int32) (t0 : Int32) (σ : hg_M) (hw : bC_X4_takeValue_48 P x1 x2 t0 σ) : hg_G hg_FC 4 X 48 [(0, .ref (hg_ad X 3)), (1, .int x1), (2, .int x2)] [.int t0] σ hg_rC := by
  unfold bC_X4_takeValue_48 at hw
  refine hg_istore_n hC (L1 := [(3, .int t0), (0, .ref (hg_ad X 3)), (1, .int x1), (2, .int x2)]) dX4_takeValue_48 rfl (by decide) rfl (n := 49) rfl ?_
  refine hg_iload_n hC dX4_takeValue_49 rfl 0 rfl (n := 50) rfl ?_
  refine hg_if_eq hC dX4_takeValue_50 (tg := 68) rfl (n := 53) rfl (fun h9 => ?_) (fun h9 => ?_)
  · have hw := hw.1 h9
    exact hg_sub [1, 2, 3, 0] rfl (tbC_X4_takeValue_68 hC hR  x1 x2 t0 σ hw)
  · have hw := hw.2 h9
    refine hg_aload_n hC dX4_takeValue_53 rfl 1 rfl (n := 54) rfl ?_
    refine hg_dup hC dX4_takeValue_54 rfl (n := 55) rfl ?_
    refine hg_geti hC fl_RX4_36 dX4_takeValue_55 qC_3 kC_3 fC_4_6 (n := 58) rfl ?_
    refine hg_iconst hC dX4_takeValue_58 hl_i1 (n := 59) rfl ?_
    refine hg_iadd hC dX4_takeValue_59 (n := 60) rfl ?_
    refine hg_puti hC fp_RX4_36 dX4_takeValue_60 qC_3 kC_3 fC_4_6 rfl rfl (n := 63) rfl (fun σ7 eσ7 => ?_)
    have hw := hw σ7 eσ7
    refine hg_aload_n hC dX4_takeValue_63 rfl 1 rfl (n := 64) rfl ?_
    refine hg_cVi hC (tC_X4_nextByte (hg_Eof hC) X.2.1 (d + 1) _ _ hw) sv_RX4_48 dX4_takeValue_64 qC_3 kC_3 c_4 rfl (rest := []) rfl (Nat.le_of_ble_eq_true rfl) (n := 67) rfl (fun r9 σ8 hw => ?_)
    refine hg_istore_n hC (L1 := [(2, .int r9), (3, .int t0), (0, .ref (hg_ad X 3)), (1, .int x1)]) dX4_takeValue_67 rfl (by decide) rfl (n := 68) rfl ?_
    exact hg_sub [2, 3, 0, 1] rfl (tbC_X4_takeValue_68 hC hR  x1 r9 t0 σ8 hw)
set_option maxRecDepth 4000 in
theorem tC_X4_takeValue {E : hg_Et} (hE : hg_Eok E) (l : Launch) (d : Nat) (x1 : Int32) (σ : hg_M) (P : Int32 → hg_M → Prop) (hw : wC_X4_takeValue x1 σ P) : hg_Ni hg_FC E l yX4_takeValue cX4_takeValue 4 (some .boolean) (d + 3) (fun ad => [.ref (ad 3), .int x1]) hg_rC σ P := by
  refine hg_ni hE (by decide) (fun _ => Nat.le_of_ble_eq_true rfl) (fun X hC hR hl => ?_)
  subst hl
  have hC : hg_C hg_FC 4 (d + 3) E cX4_takeValue RX4 X := hC
  show hg_G hg_FC 4 X 0 [(0, .ref (hg_ad X 3)), (1, .int x1)] [] σ hg_rC
  unfold wC_X4_takeValue at hw
  refine hg_aload_n hC dX4_takeValue_0 rfl 0 rfl (n := 1) rfl ?_
  refine hg_cVi hC (tC_X4_nextByte (hg_Eof hC) X.2.1 (d + 1) _ _ hw) sv_RX4_48 dX4_takeValue_1 qC_3 kC_3 c_4 rfl (rest := []) rfl (Nat.le_of_ble_eq_true rfl) (n := 4) rfl (fun r2 σ1 hw => ?_)
  refine hg_istore_n hC (L1 := [(2, .int r2), (0, .ref (hg_ad X 3)), (1, .int x1)]) dX4_takeValue_4 rfl (by decide) rfl (n := 5) rfl ?_
  refine hg_iload_n hC dX4_takeValue_5 rfl 0 rfl (n := 6) rfl ?_
  refine hg_cSi hC (tC_X4_isVariable (hg_Eof hC) X.2.1 (d + 1) _ _ _ hw) ss_RX4_69 dX4_takeValue_6 rfl (rest := []) rfl (Nat.le_of_ble_eq_true rfl) (n := 9) rfl (fun r4 σ3 hw => ?_)
  refine hg_if_eq hC dX4_takeValue_9 (tg := 37) rfl (n := 12) rfl (fun h9 => ?_) (fun h9 => ?_)
  · have hw := hw.1 h9
    refine hg_iload_n hC dX4_takeValue_37 rfl 0 rfl (n := 38) rfl ?_
    refine hg_bipush hC dX4_takeValue_38 hl_b45 (n := 40) rfl ?_
    refine hg_icmp_ne hC dX4_takeValue_40 (tg := 47) rfl (n := 43) rfl (fun h9 => ?_) (fun h9 => ?_)
    · have hw := hw.1 h9
      refine hg_iconst hC dX4_takeValue_47 hl_i0 (n := 48) rfl ?_
      exact hg_sub [1, 2, 0] rfl (tbC_X4_takeValue_48 hC hR  x1 r2 (0 : Int32) σ3 hw)
    · have hw := hw.2 h9
      refine hg_iconst hC dX4_takeValue_43 hl_i1 (n := 44) rfl ?_
      refine hg_goto hC dX4_takeValue_44 (tg := 48) rfl ?_
      exact hg_sub [1, 2, 0] rfl (tbC_X4_takeValue_48 hC hR  x1 r2 (1 : Int32) σ3 hw)
  · have hw := hw.2 h9
    refine hg_aload_n hC dX4_takeValue_12 rfl 1 rfl (n := 13) rfl ?_
    refine hg_dup hC dX4_takeValue_13 rfl (n := 14) rfl ?_
    refine hg_geti hC fl_RX4_36 dX4_takeValue_14 qC_3 kC_3 fC_4_6 (n := 17) rfl ?_
    refine hg_iconst hC dX4_takeValue_17 hl_i1 (n := 18) rfl ?_
    refine hg_iadd hC dX4_takeValue_18 (n := 19) rfl ?_
    refine hg_puti hC fp_RX4_36 dX4_takeValue_19 qC_3 kC_3 fC_4_6 rfl rfl (n := 22) rfl (fun σ5 eσ5 => ?_)
    have hw := hw σ5 eσ5
    refine hg_aload_n hC dX4_takeValue_22 rfl 1 rfl (n := 23) rfl ?_
    refine hg_getr hC fl_RX4_22 dX4_takeValue_23 qC_3 kC_3 fC_4_2 rC_3_2 (n := 26) rfl ?_
    refine hg_iload_n hC dX4_takeValue_26 rfl 2 rfl (n := 27) rfl ?_
    refine hg_iconst hC dX4_takeValue_27 hl_i1 (n := 28) rfl ?_
    refine hg_iload_n hC dX4_takeValue_28 rfl 0 rfl (n := 29) rfl ?_
    refine hg_bipush hC dX4_takeValue_29 hl_b97 (n := 31) rfl ?_
    refine hg_isub hC dX4_takeValue_31 (n := 32) rfl ?_
    refine hg_cVv hC (tC_X3_putValue (hg_Eof hC) X.2.1 (d + 1) _ _ _ _ _ hw) sv_RX4_111 dX4_takeValue_32 qC_7 kC_7 c_3 rfl (rest := []) rfl (Nat.le_of_ble_eq_true rfl) (n := 35) rfl (fun σ6 hw => ?_)
    refine hg_iconst hC dX4_takeValue_35 hl_i1 (n := 36) rfl ?_
    exact hg_retz hC hR dX4_takeValue_36 hw
def bC_X2_lowerGuarded_164 (P : hg_M → Prop)   (σ : hg_M) : Prop := P σ
def wC_X2_lowerGuarded (x2 : Int32) (σ : hg_M) (P : hg_M → Prop) : Prop := vp_in x2 60 ∧ (∀ v1 : Int32, v1 = (σ 19 (x2).toNatClampNeg) → wC_X2_valueRegister ((2 : Int32) * x2) σ (fun r3 σ2 => vp_in x2 60 ∧ ((((((σ2 17 (x2).toNatClampNeg)).toInt < 0 ∨ 2 < ((σ2 17 (x2).toNatClampNeg)).toInt) → wC_X2_valueRegister (((2 : Int32) * x2) + (1 : Int32)) σ2 (fun r5 σ4 => wC_X2_harmlessIndex x2 r3 σ4 (fun r7 σ6 => wC_X2_guardedWrite r7 r5 σ6 (fun σ8 => bC_X2_lowerGuarded_164 P σ8)))) ∧ (((σ2 17 (x2).toNatClampNeg)).toInt = 0 → vp_in v1 16 ∧ (∀ σ9 : hg_M, σ9 = hg_set σ2 27 (v1).toNatClampNeg r3 → bC_X2_lowerGuarded_164 P σ9)) ∧ (((σ2 17 (x2).toNatClampNeg)).toInt = 1 → wC_X2_valueRegister (((2 : Int32) * x2) + (1 : Int32)) σ2 (fun r11 σ10 => wC_X2_harmlessDivisor x2 r11 σ10 (fun r13 σ12 => vp_in x2 60 ∧ (wC_X0_add (σ12 20 (x2).toNatClampNeg) (-1 : Int32) r3 r13 (0 : Int32) σ12 (fun r15 σ14 => vp_in v1 16 ∧ (∀ σ16 : hg_M, σ16 = hg_set σ14 27 (v1).toNatClampNeg r15 → bC_X2_lowerGuarded_164 P σ16)))))) ∧ (((σ2 17 (x2).toNatClampNeg)).toInt = 2 → wC_X2_harmlessIndex x2 r3 σ2 (fun r18 σ17 => wC_X0_add (14 : Int32) (-1 : Int32) r18 (0 : Int32) (0 : Int32) σ17 (fun r20 σ19 => vp_in v1 16 ∧ (∀ σ21 : hg_M, σ21 = hg_set σ19 27 (v1).toNatClampNeg r20 → bC_X2_lowerGuarded_164 P σ21))))))))
set_option maxRecDepth 4000 in
theorem tbC_X2_lowerGuarded_164 {d : Nat} {E : hg_Et} {X : hg_X} {P : hg_M → Prop}  (hC : hg_C hg_FC 8 (d + 4) E cX2_lowerGuarded RX2 X) (hR : hg_Rnv hg_FC hg_rC P X)   (σ : hg_M) (hw : bC_X2_lowerGuarded_164 P  σ) : hg_G hg_FC 8 X 164 [] [] σ hg_rC := by
  unfold bC_X2_lowerGuarded_164 at hw
  exact hg_retv hC hR dX2_lowerGuarded_164 hw
set_option maxRecDepth 4000 in
theorem tC_X2_lowerGuarded {E : hg_Et} (hE : hg_Eok E) (l : Launch) (d : Nat) (x2 : Int32) (σ : hg_M) (P : hg_M → Prop) (hw : wC_X2_lowerGuarded x2 σ P) : hg_Nv hg_FC E l yX2_lowerGuarded cX2_lowerGuarded 8 (d + 4) (fun ad => [.ref (ad 25), .ref (ad 16), .int x2]) hg_rC σ P := by
  refine hg_nv hE (by decide) (fun _ => Nat.le_of_ble_eq_true rfl) (fun X hC hR hl => ?_)
  subst hl
  have hC : hg_C hg_FC 8 (d + 4) E cX2_lowerGuarded RX2 X := hC
  show hg_G hg_FC 8 X 0 [(0, .ref (hg_ad X 25)), (1, .ref (hg_ad X 16)), (2, .int x2)] [] σ hg_rC
  unfold wC_X2_lowerGuarded at hw
  refine hg_aload_n hC dX2_lowerGuarded_0 rfl 1 rfl (n := 1) rfl ?_
  refine hg_getr hC fl_RX2_106 dX2_lowerGuarded_1 qC_16 kC_16 fC_3_2 rC_16_2 (n := 4) rfl ?_
  refine hg_iload_n hC dX2_lowerGuarded_4 rfl 2 rfl (n := 5) rfl ?_
  obtain ⟨h9, hw⟩ := hw
  refine hg_iald hC dX2_lowerGuarded_5 qC_19 kC_19 h9 (n := 6) rfl ?_
  refine hg_topi (fun v1 ev1 => ?_)
  have hw := hw v1 ev1
  refine hg_istore_n hC (L1 := [(3, .int v1), (0, .ref (hg_ad X 25)), (1, .ref (hg_ad X 16)), (2, .int x2)]) dX2_lowerGuarded_6 rfl (by decide) rfl (n := 7) rfl ?_
  refine hg_aload_n hC dX2_lowerGuarded_7 rfl 1 rfl (n := 8) rfl ?_
  refine hg_aload_n hC dX2_lowerGuarded_8 rfl 2 rfl (n := 9) rfl ?_
  refine hg_iconst hC dX2_lowerGuarded_9 hl_i2 (n := 10) rfl ?_
  refine hg_iload_n hC dX2_lowerGuarded_10 rfl 3 rfl (n := 11) rfl ?_
  refine hg_imul hC dX2_lowerGuarded_11 (n := 12) rfl ?_
  refine hg_cVi hC (tC_X2_valueRegister (hg_Eof hC) X.2.1 (d + 1) _ _ _ hw) sv_RX2_99 dX2_lowerGuarded_12 qC_25 kC_25 c_2 rfl (rest := []) rfl (Nat.le_of_ble_eq_true rfl) (n := 15) rfl (fun r3 σ2 hw => ?_)
  refine hg_istore hC (L1 := [(4, .int r3), (3, .int v1), (0, .ref (hg_ad X 25)), (1, .ref (hg_ad X 16)), (2, .int x2)]) dX2_lowerGuarded_15 (by decide) rfl (n := 17) rfl ?_
  refine hg_aload_n hC dX2_lowerGuarded_17 rfl 3 rfl (n := 18) rfl ?_
  refine hg_getr hC fl_RX2_67 dX2_lowerGuarded_18 qC_16 kC_16 fC_3_0 rC_16_0 (n := 21) rfl ?_
  refine hg_iload_n hC dX2_lowerGuarded_21 rfl 4 rfl (n := 22) rfl ?_
  obtain ⟨h9, hw⟩ := hw
  refine hg_iald hC dX2_lowerGuarded_22 qC_17 kC_17 h9 (n := 23) rfl ?_
  by_cases hsw : ((σ2 17 (x2).toNatClampNeg)).toInt < 0 ∨ 2 < ((σ2 17 (x2).toNatClampNeg)).toInt
  · have hw := hw.1 hsw
    refine hg_tout hC dX2_lowerGuarded_23 hsw (tg := 138) rfl ?_
    refine hg_aload_n hC dX2_lowerGuarded_138 rfl 2 rfl (n := 139) rfl ?_
    refine hg_aload_n hC dX2_lowerGuarded_139 rfl 3 rfl (n := 140) rfl ?_
    refine hg_iconst hC dX2_lowerGuarded_140 hl_i2 (n := 141) rfl ?_
    refine hg_iload_n hC dX2_lowerGuarded_141 rfl 4 rfl (n := 142) rfl ?_
    refine hg_imul hC dX2_lowerGuarded_142 (n := 143) rfl ?_
    refine hg_iconst hC dX2_lowerGuarded_143 hl_i1 (n := 144) rfl ?_
    refine hg_iadd hC dX2_lowerGuarded_144 (n := 145) rfl ?_
    refine hg_cVi hC (tC_X2_valueRegister (hg_Eof hC) X.2.1 (d + 1) _ _ _ hw) sv_RX2_99 dX2_lowerGuarded_145 qC_25 kC_25 c_2 rfl (rest := []) rfl (Nat.le_of_ble_eq_true rfl) (n := 148) rfl (fun r5 σ4 hw => ?_)
    refine hg_istore hC (L1 := [(7, .int r5), (4, .int r3), (3, .int v1), (0, .ref (hg_ad X 25)), (1, .ref (hg_ad X 16)), (2, .int x2)]) dX2_lowerGuarded_148 (by decide) rfl (n := 150) rfl ?_
    refine hg_aload_n hC dX2_lowerGuarded_150 rfl 3 rfl (n := 151) rfl ?_
    refine hg_aload_n hC dX2_lowerGuarded_151 rfl 3 rfl (n := 152) rfl ?_
    refine hg_aload_n hC dX2_lowerGuarded_152 rfl 4 rfl (n := 153) rfl ?_
    refine hg_iload_n hC dX2_lowerGuarded_153 rfl 5 rfl (n := 154) rfl ?_
    refine hg_iload hC dX2_lowerGuarded_154 1 rfl (n := 156) rfl ?_
    refine hg_cVi hC (tC_X2_harmlessIndex (hg_Eof hC) X.2.1 (d + 0) _ _ _ _ hw) sv_RX2_123 dX2_lowerGuarded_156 qC_25 kC_25 c_2 rfl (rest := [.ref (hg_ad X 25)]) rfl (Nat.le_of_ble_eq_true rfl) (n := 159) rfl (fun r7 σ6 hw => ?_)
    refine hg_iload hC dX2_lowerGuarded_159 0 rfl (n := 161) rfl ?_
    refine hg_cVv hC (tC_X2_guardedWrite (hg_Eof hC) X.2.1 (d + 1) _ _ _ _ hw) sv_RX2_126 dX2_lowerGuarded_161 qC_25 kC_25 c_2 rfl (rest := []) rfl (Nat.le_of_ble_eq_true rfl) (n := 164) rfl (fun σ8 hw => ?_)
    exact hg_sub [] rfl (tbC_X2_lowerGuarded_164 hC hR  σ8 hw)
  · rcases (show ((σ2 17 (x2).toNatClampNeg)).toInt = 0 ∨ ((σ2 17 (x2).toNatClampNeg)).toInt = 1 ∨ ((σ2 17 (x2).toNatClampNeg)).toInt = 2 by omega) with hsx | hsx | hsx
    · have hw := hw.2.1 hsx
      refine hg_tin hC dX2_lowerGuarded_23 hsx (by decide) (by decide) (by rfl) (tg := 48) rfl ?_
      refine hg_aload_n hC dX2_lowerGuarded_48 rfl 2 rfl (n := 49) rfl ?_
      refine hg_getr hC fl_RX2_22 dX2_lowerGuarded_49 qC_25 kC_25 fC_2_2 rC_25_2 (n := 52) rfl ?_
      refine hg_iload_n hC dX2_lowerGuarded_52 rfl 1 rfl (n := 53) rfl ?_
      refine hg_iload hC dX2_lowerGuarded_53 0 rfl (n := 55) rfl ?_
      obtain ⟨h9, hw⟩ := hw
      refine hg_iast hC dX2_lowerGuarded_55 qC_27 kC_27 h9 (n := 56) rfl (fun σ9 eσ9 => ?_)
      have hw := hw σ9 eσ9
      refine hg_goto hC dX2_lowerGuarded_56 (tg := 164) rfl ?_
      exact hg_sub [] rfl (tbC_X2_lowerGuarded_164 hC hR  σ9 hw)
    · have hw := hw.2.2.1 hsx
      refine hg_tin hC dX2_lowerGuarded_23 hsx (by decide) (by decide) (by rfl) (tg := 59) rfl ?_
      refine hg_aload_n hC dX2_lowerGuarded_59 rfl 2 rfl (n := 60) rfl ?_
      refine hg_aload_n hC dX2_lowerGuarded_60 rfl 3 rfl (n := 61) rfl ?_
      refine hg_iload_n hC dX2_lowerGuarded_61 rfl 4 rfl (n := 62) rfl ?_
      refine hg_aload_n hC dX2_lowerGuarded_62 rfl 2 rfl (n := 63) rfl ?_
      refine hg_aload_n hC dX2_lowerGuarded_63 rfl 3 rfl (n := 64) rfl ?_
      refine hg_iconst hC dX2_lowerGuarded_64 hl_i2 (n := 65) rfl ?_
      refine hg_iload_n hC dX2_lowerGuarded_65 rfl 4 rfl (n := 66) rfl ?_
      refine hg_imul hC dX2_lowerGuarded_66 (n := 67) rfl ?_
      refine hg_iconst hC dX2_lowerGuarded_67 hl_i1 (n := 68) rfl ?_
      refine hg_iadd hC dX2_lowerGuarded_68 (n := 69) rfl ?_
      refine hg_cVi hC (tC_X2_valueRegister (hg_Eof hC) X.2.1 (d + 1) _ _ _ hw) sv_RX2_99 dX2_lowerGuarded_69 qC_25 kC_25 c_2 rfl (rest := [.int x2, .ref (hg_ad X 16), .ref (hg_ad X 25)]) rfl (Nat.le_of_ble_eq_true rfl) (n := 72) rfl (fun r11 σ10 hw => ?_)
      refine hg_cVi hC (tC_X2_harmlessDivisor (hg_Eof hC) X.2.1 (d + 0) _ _ _ _ hw) sv_RX2_119 dX2_lowerGuarded_72 qC_25 kC_25 c_2 rfl (rest := []) rfl (Nat.le_of_ble_eq_true rfl) (n := 75) rfl (fun r13 σ12 hw => ?_)
      refine hg_istore hC (L1 := [(5, .int r13), (4, .int r3), (3, .int v1), (0, .ref (hg_ad X 25)), (1, .ref (hg_ad X 16)), (2, .int x2)]) dX2_lowerGuarded_75 (by decide) rfl (n := 77) rfl ?_
      refine hg_aload_n hC dX2_lowerGuarded_77 rfl 3 rfl (n := 78) rfl ?_
      refine hg_getr hC fl_RX2_22 dX2_lowerGuarded_78 qC_25 kC_25 fC_2_2 rC_25_2 (n := 81) rfl ?_
      refine hg_iload_n hC dX2_lowerGuarded_81 rfl 2 rfl (n := 82) rfl ?_
      refine hg_aload_n hC dX2_lowerGuarded_82 rfl 3 rfl (n := 83) rfl ?_
      refine hg_getr hC fl_RX2_12 dX2_lowerGuarded_83 qC_25 kC_25 fC_2_0 rC_25_0 (n := 86) rfl ?_
      refine hg_aload_n hC dX2_lowerGuarded_86 rfl 4 rfl (n := 87) rfl ?_
      refine hg_getr hC fl_RX2_103 dX2_lowerGuarded_87 qC_16 kC_16 fC_3_3 rC_16_3 (n := 90) rfl ?_
      refine hg_iload_n hC dX2_lowerGuarded_90 rfl 5 rfl (n := 91) rfl ?_
      obtain ⟨h9, hw⟩ := hw
      refine hg_iald hC dX2_lowerGuarded_91 qC_20 kC_20 h9 (n := 92) rfl ?_
      refine hg_iconst hC dX2_lowerGuarded_92 hl_im1 (n := 93) rfl ?_
      refine hg_iload hC dX2_lowerGuarded_93 1 rfl (n := 95) rfl ?_
      refine hg_iload hC dX2_lowerGuarded_95 0 rfl (n := 97) rfl ?_
      refine hg_iconst hC dX2_lowerGuarded_97 hl_i0 (n := 98) rfl ?_
      refine hg_cVi hC (tC_X0_add (hg_Eof hC) X.2.1 (d + 2) _ _ _ _ _ _ _ hw) sv_RX2_95 dX2_lowerGuarded_98 qC_42 kC_42 c_0 rfl (rest := [.int v1, .ref (hg_ad X 27)]) rfl (Nat.le_of_ble_eq_true rfl) (n := 101) rfl (fun r15 σ14 hw => ?_)
      obtain ⟨h9, hw⟩ := hw
      refine hg_iast hC dX2_lowerGuarded_101 qC_27 kC_27 h9 (n := 102) rfl (fun σ16 eσ16 => ?_)
      have hw := hw σ16 eσ16
      refine hg_goto hC dX2_lowerGuarded_102 (tg := 164) rfl ?_
      exact hg_sub [] rfl (tbC_X2_lowerGuarded_164 hC hR  σ16 hw)
    · have hw := hw.2.2.2 hsx
      refine hg_tin hC dX2_lowerGuarded_23 hsx (by decide) (by decide) (by rfl) (tg := 105) rfl ?_
      refine hg_aload_n hC dX2_lowerGuarded_105 rfl 2 rfl (n := 106) rfl ?_
      refine hg_aload_n hC dX2_lowerGuarded_106 rfl 3 rfl (n := 107) rfl ?_
      refine hg_iload_n hC dX2_lowerGuarded_107 rfl 4 rfl (n := 108) rfl ?_
      refine hg_iload hC dX2_lowerGuarded_108 0 rfl (n := 110) rfl ?_
      refine hg_cVi hC (tC_X2_harmlessIndex (hg_Eof hC) X.2.1 (d + 0) _ _ _ _ hw) sv_RX2_123 dX2_lowerGuarded_110 qC_25 kC_25 c_2 rfl (rest := []) rfl (Nat.le_of_ble_eq_true rfl) (n := 113) rfl (fun r18 σ17 hw => ?_)
      refine hg_istore hC (L1 := [(6, .int r18), (4, .int r3), (3, .int v1), (0, .ref (hg_ad X 25)), (1, .ref (hg_ad X 16)), (2, .int x2)]) dX2_lowerGuarded_113 (by decide) rfl (n := 115) rfl ?_
      refine hg_aload_n hC dX2_lowerGuarded_115 rfl 3 rfl (n := 116) rfl ?_
      refine hg_getr hC fl_RX2_22 dX2_lowerGuarded_116 qC_25 kC_25 fC_2_2 rC_25_2 (n := 119) rfl ?_
      refine hg_iload_n hC dX2_lowerGuarded_119 rfl 2 rfl (n := 120) rfl ?_
      refine hg_aload_n hC dX2_lowerGuarded_120 rfl 3 rfl (n := 121) rfl ?_
      refine hg_getr hC fl_RX2_12 dX2_lowerGuarded_121 qC_25 kC_25 fC_2_0 rC_25_0 (n := 124) rfl ?_
      refine hg_bipush hC dX2_lowerGuarded_124 hl_b14 (n := 126) rfl ?_
      refine hg_iconst hC dX2_lowerGuarded_126 hl_im1 (n := 127) rfl ?_
      refine hg_iload hC dX2_lowerGuarded_127 0 rfl (n := 129) rfl ?_
      refine hg_iconst hC dX2_lowerGuarded_129 hl_i0 (n := 130) rfl ?_
      refine hg_iconst hC dX2_lowerGuarded_130 hl_i0 (n := 131) rfl ?_
      refine hg_cVi hC (tC_X0_add (hg_Eof hC) X.2.1 (d + 2) _ _ _ _ _ _ _ hw) sv_RX2_95 dX2_lowerGuarded_131 qC_42 kC_42 c_0 rfl (rest := [.int v1, .ref (hg_ad X 27)]) rfl (Nat.le_of_ble_eq_true rfl) (n := 134) rfl (fun r20 σ19 hw => ?_)
      obtain ⟨h9, hw⟩ := hw
      refine hg_iast hC dX2_lowerGuarded_134 qC_27 kC_27 h9 (n := 135) rfl (fun σ21 eσ21 => ?_)
      have hw := hw σ21 eσ21
      refine hg_goto hC dX2_lowerGuarded_135 (tg := 164) rfl ?_
      exact hg_sub [] rfl (tbC_X2_lowerGuarded_164 hC hR  σ21 hw)
def wC_X2_lowerWithJumps (R : Int32 → Int32 → Int32 → hg_M → (hg_M → Prop) → Prop) (x2 : Int32) (x3 : Int32) (σ : hg_M) (P : hg_M → Prop) : Prop := ((x3 < (6 : Int32) → wC_X2_testRegister x2 σ (fun r2 σ1 => ∀ v3 : Int32, v3 = (σ1 42 1) → wC_X0_add (17 : Int32) r2 (0 : Int32) (0 : Int32) (0 : Int32) σ1 (fun r5 σ4 => vp_in x2 60 ∧ (R (x2 + (1 : Int32)) (σ4 21 (x2).toNatClampNeg) (x3 + (1 : Int32)) σ4 (fun σ6 => vp_in x2 60 ∧ (vp_in x2 60 ∧ ((((σ6 21 (x2).toNatClampNeg) ≠ (σ6 22 (x2).toNatClampNeg) → ∀ σ7 : hg_M, σ7 = hg_set σ6 42 3 x2 → ∀ v8 : Int32, v8 = (σ7 42 1) → wC_X0_add (16 : Int32) (0 : Int32) (0 : Int32) (0 : Int32) (0 : Int32) σ7 (fun r10 σ9 => wC_X0_leadHere v3 σ9 (fun σ11 => vp_in x2 60 ∧ (vp_in x2 60 ∧ (R (σ11 21 (x2).toNatClampNeg) (σ11 22 (x2).toNatClampNeg) (x3 + (1 : Int32)) σ11 (fun σ12 => wC_X0_leadHere v8 σ12 (fun σ13 => P σ13))))))) ∧ ((σ6 21 (x2).toNatClampNeg) = (σ6 22 (x2).toNatClampNeg) → wC_X0_leadHere v3 σ6 (fun σ14 => P σ14)))))))))) ∧ (¬ (x3 < (6 : Int32)) → P σ))
set_option maxRecDepth 4000 in
theorem tC_X2_lowerWithJumps {E : hg_Et} (hE : hg_Eok E) (l : Launch) (d : Nat) {R : Int32 → Int32 → Int32 → hg_M → (hg_M → Prop) → Prop} (hRr : ∀ (a2 : Int32) (a3 : Int32) (a4 : Int32) (σ : hg_M) (P : hg_M → Prop), R a2 a3 a4 σ P → hg_Nv hg_FC E l yX2_lowerRange cX2_lowerRange 6 (d + 5) (fun ad => [.ref (ad 25), .ref (ad 16), .int a2, .int a3, .int a4]) hg_rC σ P) (x2 : Int32) (x3 : Int32) (σ : hg_M) (P : hg_M → Prop) (hw : wC_X2_lowerWithJumps R x2 x3 σ P) : hg_Nv hg_FC E l yX2_lowerWithJumps cX2_lowerWithJumps 7 (d + 6) (fun ad => [.ref (ad 25), .ref (ad 16), .int x2, .int x3]) hg_rC σ P := by
  refine hg_nv hE (by decide) (fun _ => Nat.le_of_ble_eq_true rfl) (fun X hC hR hl => ?_)
  subst hl
  have hC : hg_C hg_FC 7 (d + 6) E cX2_lowerWithJumps RX2 X := hC
  show hg_G hg_FC 7 X 0 [(0, .ref (hg_ad X 25)), (1, .ref (hg_ad X 16)), (2, .int x2), (3, .int x3)] [] σ hg_rC
  unfold wC_X2_lowerWithJumps at hw
  refine hg_iload_n hC dX2_lowerWithJumps_0 rfl 3 rfl (n := 1) rfl ?_
  refine hg_bipush hC dX2_lowerWithJumps_1 hl_b6 (n := 3) rfl ?_
  refine hg_icmp_lt hC dX2_lowerWithJumps_3 (tg := 7) rfl (n := 6) rfl (fun h9 => ?_) (fun h9 => ?_)
  · have hw := hw.1 h9
    refine hg_aload_n hC dX2_lowerWithJumps_7 rfl 0 rfl (n := 8) rfl ?_
    refine hg_aload_n hC dX2_lowerWithJumps_8 rfl 1 rfl (n := 9) rfl ?_
    refine hg_iload_n hC dX2_lowerWithJumps_9 rfl 2 rfl (n := 10) rfl ?_
    refine hg_cVi hC (tC_X2_testRegister (hg_Eof hC) X.2.1 (d + 2) _ _ _ hw) sv_RX2_109 dX2_lowerWithJumps_10 qC_25 kC_25 c_2 rfl (rest := []) rfl (Nat.le_of_ble_eq_true rfl) (n := 13) rfl (fun r2 σ1 hw => ?_)
    refine hg_istore hC (L1 := [(4, .int r2), (0, .ref (hg_ad X 25)), (1, .ref (hg_ad X 16)), (2, .int x2), (3, .int x3)]) dX2_lowerWithJumps_13 (by decide) rfl (n := 15) rfl ?_
    refine hg_aload_n hC dX2_lowerWithJumps_15 rfl 1 rfl (n := 16) rfl ?_
    refine hg_getr hC fl_RX2_12 dX2_lowerWithJumps_16 qC_25 kC_25 fC_2_0 rC_25_0 (n := 19) rfl ?_
    refine hg_geti hC fl_RX2_54 dX2_lowerWithJumps_19 qC_42 kC_42 fC_0_1 (n := 22) rfl ?_
    refine hg_topi (fun v3 ev3 => ?_)
    have hw := hw v3 ev3
    refine hg_istore hC (L1 := [(5, .int v3), (4, .int r2), (0, .ref (hg_ad X 25)), (1, .ref (hg_ad X 16)), (2, .int x2), (3, .int x3)]) dX2_lowerWithJumps_22 (by decide) rfl (n := 24) rfl ?_
    refine hg_aload_n hC dX2_lowerWithJumps_24 rfl 2 rfl (n := 25) rfl ?_
    refine hg_getr hC fl_RX2_12 dX2_lowerWithJumps_25 qC_25 kC_25 fC_2_0 rC_25_0 (n := 28) rfl ?_
    refine hg_bipush hC dX2_lowerWithJumps_28 hl_b17 (n := 30) rfl ?_
    refine hg_iload hC dX2_lowerWithJumps_30 1 rfl (n := 32) rfl ?_
    refine hg_iconst hC dX2_lowerWithJumps_32 hl_i0 (n := 33) rfl ?_
    refine hg_iconst hC dX2_lowerWithJumps_33 hl_i0 (n := 34) rfl ?_
    refine hg_iconst hC dX2_lowerWithJumps_34 hl_i0 (n := 35) rfl ?_
    refine hg_cVi hC (tC_X0_add (hg_Eof hC) X.2.1 (d + 4) _ _ _ _ _ _ _ hw) sv_RX2_95 dX2_lowerWithJumps_35 qC_42 kC_42 c_0 rfl (rest := []) rfl (Nat.le_of_ble_eq_true rfl) (n := 38) rfl (fun r5 σ4 hw => ?_)
    refine hg_pop hC dX2_lowerWithJumps_38 rfl (n := 39) rfl ?_
    refine hg_aload_n hC dX2_lowerWithJumps_39 rfl 2 rfl (n := 40) rfl ?_
    refine hg_aload_n hC dX2_lowerWithJumps_40 rfl 3 rfl (n := 41) rfl ?_
    refine hg_iload_n hC dX2_lowerWithJumps_41 rfl 4 rfl (n := 42) rfl ?_
    refine hg_iconst hC dX2_lowerWithJumps_42 hl_i1 (n := 43) rfl ?_
    refine hg_iadd hC dX2_lowerWithJumps_43 (n := 44) rfl ?_
    refine hg_aload_n hC dX2_lowerWithJumps_44 rfl 3 rfl (n := 45) rfl ?_
    refine hg_getr hC fl_RX2_112 dX2_lowerWithJumps_45 qC_16 kC_16 fC_3_4 rC_16_4 (n := 48) rfl ?_
    refine hg_iload_n hC dX2_lowerWithJumps_48 rfl 4 rfl (n := 49) rfl ?_
    obtain ⟨h9, hw⟩ := hw
    refine hg_iald hC dX2_lowerWithJumps_49 qC_21 kC_21 h9 (n := 50) rfl ?_
    refine hg_iload_n hC dX2_lowerWithJumps_50 rfl 5 rfl (n := 51) rfl ?_
    refine hg_iconst hC dX2_lowerWithJumps_51 hl_i1 (n := 52) rfl ?_
    refine hg_iadd hC dX2_lowerWithJumps_52 (n := 53) rfl ?_
    refine hg_cVv hC (hRr _ _ _ _ _ hw) sv_RX2_57 dX2_lowerWithJumps_53 qC_25 kC_25 c_2 rfl (rest := []) rfl (Nat.le_of_ble_eq_true rfl) (n := 56) rfl (fun σ6 hw => ?_)
    refine hg_aload_n hC dX2_lowerWithJumps_56 rfl 3 rfl (n := 57) rfl ?_
    refine hg_getr hC fl_RX2_112 dX2_lowerWithJumps_57 qC_16 kC_16 fC_3_4 rC_16_4 (n := 60) rfl ?_
    refine hg_iload_n hC dX2_lowerWithJumps_60 rfl 4 rfl (n := 61) rfl ?_
    obtain ⟨h9, hw⟩ := hw
    refine hg_iald hC dX2_lowerWithJumps_61 qC_21 kC_21 h9 (n := 62) rfl ?_
    refine hg_aload_n hC dX2_lowerWithJumps_62 rfl 3 rfl (n := 63) rfl ?_
    refine hg_getr hC fl_RX2_64 dX2_lowerWithJumps_63 qC_16 kC_16 fC_3_5 rC_16_5 (n := 66) rfl ?_
    refine hg_iload_n hC dX2_lowerWithJumps_66 rfl 4 rfl (n := 67) rfl ?_
    obtain ⟨h9, hw⟩ := hw
    refine hg_iald hC dX2_lowerWithJumps_67 qC_22 kC_22 h9 (n := 68) rfl ?_
    refine hg_icmp_ne hC dX2_lowerWithJumps_68 (tg := 81) rfl (n := 71) rfl (fun h9 => ?_) (fun h9 => ?_)
    · have hw := hw.1 h9
      refine hg_aload_n hC dX2_lowerWithJumps_81 rfl 2 rfl (n := 82) rfl ?_
      refine hg_getr hC fl_RX2_12 dX2_lowerWithJumps_82 qC_25 kC_25 fC_2_0 rC_25_0 (n := 85) rfl ?_
      refine hg_iload_n hC dX2_lowerWithJumps_85 rfl 4 rfl (n := 86) rfl ?_
      refine hg_puti hC fp_RX2_70 dX2_lowerWithJumps_86 qC_42 kC_42 fC_0_3 rfl rfl (n := 89) rfl (fun σ7 eσ7 => ?_)
      have hw := hw σ7 eσ7
      refine hg_aload_n hC dX2_lowerWithJumps_89 rfl 2 rfl (n := 90) rfl ?_
      refine hg_getr hC fl_RX2_12 dX2_lowerWithJumps_90 qC_25 kC_25 fC_2_0 rC_25_0 (n := 93) rfl ?_
      refine hg_geti hC fl_RX2_54 dX2_lowerWithJumps_93 qC_42 kC_42 fC_0_1 (n := 96) rfl ?_
      refine hg_topi (fun v8 ev8 => ?_)
      have hw := hw v8 ev8
      refine hg_istore hC (L1 := [(6, .int v8), (5, .int v3), (4, .int r2), (0, .ref (hg_ad X 25)), (1, .ref (hg_ad X 16)), (2, .int x2), (3, .int x3)]) dX2_lowerWithJumps_96 (by decide) rfl (n := 98) rfl ?_
      refine hg_aload_n hC dX2_lowerWithJumps_98 rfl 3 rfl (n := 99) rfl ?_
      refine hg_getr hC fl_RX2_12 dX2_lowerWithJumps_99 qC_25 kC_25 fC_2_0 rC_25_0 (n := 102) rfl ?_
      refine hg_bipush hC dX2_lowerWithJumps_102 hl_b16 (n := 104) rfl ?_
      refine hg_iconst hC dX2_lowerWithJumps_104 hl_i0 (n := 105) rfl ?_
      refine hg_iconst hC dX2_lowerWithJumps_105 hl_i0 (n := 106) rfl ?_
      refine hg_iconst hC dX2_lowerWithJumps_106 hl_i0 (n := 107) rfl ?_
      refine hg_iconst hC dX2_lowerWithJumps_107 hl_i0 (n := 108) rfl ?_
      refine hg_cVi hC (tC_X0_add (hg_Eof hC) X.2.1 (d + 4) _ _ _ _ _ _ _ hw) sv_RX2_95 dX2_lowerWithJumps_108 qC_42 kC_42 c_0 rfl (rest := []) rfl (Nat.le_of_ble_eq_true rfl) (n := 111) rfl (fun r10 σ9 hw => ?_)
      refine hg_pop hC dX2_lowerWithJumps_111 rfl (n := 112) rfl ?_
      refine hg_aload_n hC dX2_lowerWithJumps_112 rfl 3 rfl (n := 113) rfl ?_
      refine hg_getr hC fl_RX2_12 dX2_lowerWithJumps_113 qC_25 kC_25 fC_2_0 rC_25_0 (n := 116) rfl ?_
      refine hg_iload hC dX2_lowerWithJumps_116 1 rfl (n := 118) rfl ?_
      refine hg_cVv hC (tC_X0_leadHere (hg_Eof hC) X.2.1 (d + 3) _ _ _ hw) sv_RX2_115 dX2_lowerWithJumps_118 qC_42 kC_42 c_0 rfl (rest := []) rfl (Nat.le_of_ble_eq_true rfl) (n := 121) rfl (fun σ11 hw => ?_)
      refine hg_aload_n hC dX2_lowerWithJumps_121 rfl 3 rfl (n := 122) rfl ?_
      refine hg_aload_n hC dX2_lowerWithJumps_122 rfl 4 rfl (n := 123) rfl ?_
      refine hg_aload_n hC dX2_lowerWithJumps_123 rfl 4 rfl (n := 124) rfl ?_
      refine hg_getr hC fl_RX2_112 dX2_lowerWithJumps_124 qC_16 kC_16 fC_3_4 rC_16_4 (n := 127) rfl ?_
      refine hg_iload_n hC dX2_lowerWithJumps_127 rfl 5 rfl (n := 128) rfl ?_
      obtain ⟨h9, hw⟩ := hw
      refine hg_iald hC dX2_lowerWithJumps_128 qC_21 kC_21 h9 (n := 129) rfl ?_
      refine hg_aload_n hC dX2_lowerWithJumps_129 rfl 4 rfl (n := 130) rfl ?_
      refine hg_getr hC fl_RX2_64 dX2_lowerWithJumps_130 qC_16 kC_16 fC_3_5 rC_16_5 (n := 133) rfl ?_
      refine hg_iload_n hC dX2_lowerWithJumps_133 rfl 5 rfl (n := 134) rfl ?_
      obtain ⟨h9, hw⟩ := hw
      refine hg_iald hC dX2_lowerWithJumps_134 qC_22 kC_22 h9 (n := 135) rfl ?_
      refine hg_iload_n hC dX2_lowerWithJumps_135 rfl 6 rfl (n := 136) rfl ?_
      refine hg_iconst hC dX2_lowerWithJumps_136 hl_i1 (n := 137) rfl ?_
      refine hg_iadd hC dX2_lowerWithJumps_137 (n := 138) rfl ?_
      refine hg_cVv hC (hRr _ _ _ _ _ hw) sv_RX2_57 dX2_lowerWithJumps_138 qC_25 kC_25 c_2 rfl (rest := []) rfl (Nat.le_of_ble_eq_true rfl) (n := 141) rfl (fun σ12 hw => ?_)
      refine hg_aload_n hC dX2_lowerWithJumps_141 rfl 3 rfl (n := 142) rfl ?_
      refine hg_getr hC fl_RX2_12 dX2_lowerWithJumps_142 qC_25 kC_25 fC_2_0 rC_25_0 (n := 145) rfl ?_
      refine hg_iload hC dX2_lowerWithJumps_145 0 rfl (n := 147) rfl ?_
      refine hg_cVv hC (tC_X0_leadHere (hg_Eof hC) X.2.1 (d + 3) _ _ _ hw) sv_RX2_115 dX2_lowerWithJumps_147 qC_42 kC_42 c_0 rfl (rest := []) rfl (Nat.le_of_ble_eq_true rfl) (n := 150) rfl (fun σ13 hw => ?_)
      exact hg_retv hC hR dX2_lowerWithJumps_150 hw
    · have hw := hw.2 h9
      refine hg_aload_n hC dX2_lowerWithJumps_71 rfl 2 rfl (n := 72) rfl ?_
      refine hg_getr hC fl_RX2_12 dX2_lowerWithJumps_72 qC_25 kC_25 fC_2_0 rC_25_0 (n := 75) rfl ?_
      refine hg_iload hC dX2_lowerWithJumps_75 0 rfl (n := 77) rfl ?_
      refine hg_cVv hC (tC_X0_leadHere (hg_Eof hC) X.2.1 (d + 3) _ _ _ hw) sv_RX2_115 dX2_lowerWithJumps_77 qC_42 kC_42 c_0 rfl (rest := []) rfl (Nat.le_of_ble_eq_true rfl) (n := 80) rfl (fun σ14 hw => ?_)
      exact hg_retv hC hR dX2_lowerWithJumps_80 hw
  · have hw := hw.2 h9
    exact hg_retv hC hR dX2_lowerWithJumps_6 hw
def bC_X2_convert_230 (R : Int32 → Int32 → Int32 → hg_M → (hg_M → Prop) → Prop) (P : hg_M → Prop)   (σ : hg_M) : Prop := P σ
def bC_X2_convert_199 (R : Int32 → Int32 → Int32 → hg_M → (hg_M → Prop) → Prop) (P : hg_M → Prop)  (x2 : Int32) (x3 : Int32) (x4 : Int32) (x5 : Int32) (σ : hg_M) : Prop := ∀ σ20 : hg_M, σ20 = hg_set σ 42 3 x2 → ∀ σ21 : hg_M, σ21 = hg_set σ20 25 5 x4 → wC_X2_chooseSides x5 x3 σ21 (fun σ22 => ((x4 ≠ (-1 : Int32) → bC_X2_convert_230 R P σ22) ∧ (x4 = (-1 : Int32) → wC_X2_moveBack σ22 (fun σ23 => bC_X2_convert_230 R P σ23))))
def bC_X2_convert_79 (R : Int32 → Int32 → Int32 → hg_M → (hg_M → Prop) → Prop) (P : hg_M → Prop)  (x2 : Int32) (x3 : Int32) (x4 : Int32) (x5 : Int32) (σ : hg_M) : Prop := vp_in x3 6 ∧ (((¬ (0 : Int32) < 0) ∧ (¬ (0 : Int32) < 0) ∧ (¬ (16 : Int32) < 0) ∧ ((0 : Int32)).toNatClampNeg + ((16 : Int32)).toNatClampNeg ≤ 16 ∧ ((0 : Int32)).toNatClampNeg + ((16 : Int32)).toNatClampNeg ≤ 16) ∧ (∀ σ9 : hg_M, σ9 = hg_cpy σ 27 (36 + (x3).toNatClampNeg) ((0 : Int32)).toNatClampNeg ((0 : Int32)).toNatClampNeg ((16 : Int32)).toNatClampNeg → vp_in x3 6 ∧ (((¬ (0 : Int32) < 0) ∧ (¬ (0 : Int32) < 0) ∧ (¬ (16 : Int32) < 0) ∧ ((0 : Int32)).toNatClampNeg + ((16 : Int32)).toNatClampNeg ≤ 16 ∧ ((0 : Int32)).toNatClampNeg + ((16 : Int32)).toNatClampNeg ≤ 16) ∧ (∀ σ10 : hg_M, σ10 = hg_cpy σ9 (29 + (x3).toNatClampNeg) 27 ((0 : Int32)).toNatClampNeg ((0 : Int32)).toNatClampNeg ((16 : Int32)).toNatClampNeg → ∀ σ11 : hg_M, σ11 = hg_set σ10 42 3 x2 → vp_in x2 60 ∧ (vp_in x2 60 ∧ ((((σ11 22 (x2).toNatClampNeg) ≤ (σ11 21 (x2).toNatClampNeg) → bC_X2_convert_199 R P x2 x3 x4 x5 σ11) ∧ (¬ ((σ11 22 (x2).toNatClampNeg) ≤ (σ11 21 (x2).toNatClampNeg)) → wC_X0_add (0 : Int32) (-1 : Int32) (0 : Int32) (0 : Int32) (0 : Int32) σ11 (fun r13 σ12 => wC_X0_add (10 : Int32) (-1 : Int32) x5 r13 (0 : Int32) σ12 (fun r15 σ14 => wC_X2_guardWithin x4 r15 σ14 (fun r17 σ16 => ∀ σ18 : hg_M, σ18 = hg_set σ16 25 5 r17 → vp_in x2 60 ∧ (vp_in x2 60 ∧ (R (σ18 21 (x2).toNatClampNeg) (σ18 22 (x2).toNatClampNeg) (x3 + (1 : Int32)) σ18 (fun σ19 => bC_X2_convert_199 R P x2 x3 x4 x5 σ19))))))))))))))
def wC_X2_convert (R : Int32 → Int32 → Int32 → hg_M → (hg_M → Prop) → Prop) (x2 : Int32) (x3 : Int32) (σ : hg_M) (P : hg_M → Prop) : Prop := ((x3 < (6 : Int32) → ∀ v1 : Int32, v1 = (σ 25 5) → wC_X2_testRegister x2 σ (fun r3 σ2 => vp_in x3 6 ∧ (((¬ (0 : Int32) < 0) ∧ (¬ (0 : Int32) < 0) ∧ (¬ (16 : Int32) < 0) ∧ ((0 : Int32)).toNatClampNeg + ((16 : Int32)).toNatClampNeg ≤ 16 ∧ ((0 : Int32)).toNatClampNeg + ((16 : Int32)).toNatClampNeg ≤ 16) ∧ (∀ σ4 : hg_M, σ4 = hg_cpy σ2 27 (29 + (x3).toNatClampNeg) ((0 : Int32)).toNatClampNeg ((0 : Int32)).toNatClampNeg ((16 : Int32)).toNatClampNeg → vp_in x2 60 ∧ ((((σ4 21 (x2).toNatClampNeg) ≤ (x2 + (1 : Int32)) → bC_X2_convert_79 R P x2 x3 v1 r3 σ4) ∧ (¬ ((σ4 21 (x2).toNatClampNeg) ≤ (x2 + (1 : Int32))) → wC_X2_guardWithin v1 r3 σ4 (fun r6 σ5 => ∀ σ7 : hg_M, σ7 = hg_set σ5 25 5 r6 → vp_in x2 60 ∧ (R (x2 + (1 : Int32)) (σ7 21 (x2).toNatClampNeg) (x3 + (1 : Int32)) σ7 (fun σ8 => bC_X2_convert_79 R P x2 x3 v1 r3 σ8)))))))))) ∧ (¬ (x3 < (6 : Int32)) → P σ))
set_option maxRecDepth 4000 in
theorem tbC_X2_convert_230 {d : Nat} {E : hg_Et} {X : hg_X} {R : Int32 → Int32 → Int32 → hg_M → (hg_M → Prop) → Prop} {P : hg_M → Prop}  (hRr : ∀ (a2 : Int32) (a3 : Int32) (a4 : Int32) (σ : hg_M) (P : hg_M → Prop), R a2 a3 a4 σ P → hg_Nv hg_FC E X.2.1 yX2_lowerRange cX2_lowerRange 6 (d + 5) (fun ad => [.ref (ad 25), .ref (ad 16), .int a2, .int a3, .int a4]) hg_rC σ P) (hC : hg_C hg_FC 8 (d + 6) E cX2_convert RX2 X) (hR : hg_Rnv hg_FC hg_rC P X)   (σ : hg_M) (hw : bC_X2_convert_230 R P  σ) : hg_G hg_FC 8 X 230 [] [] σ hg_rC := by
  unfold bC_X2_convert_230 at hw
  exact hg_retv hC hR dX2_convert_230 hw
set_option maxRecDepth 4000 in
theorem tbC_X2_convert_199 {d : Nat} {E : hg_Et} {X : hg_X} {R : Int32 → Int32 → Int32 → hg_M → (hg_M → Prop) → Prop} {P : hg_M → Prop}  (hRr : ∀ (a2 : Int32) (a3 : Int32) (a4 : Int32) (σ : hg_M) (P : hg_M → Prop), R a2 a3 a4 σ P → hg_Nv hg_FC E X.2.1 yX2_lowerRange cX2_lowerRange 6 (d + 5) (fun ad => [.ref (ad 25), .ref (ad 16), .int a2, .int a3, .int a4]) hg_rC σ P) (hC : hg_C hg_FC 8 (d + 6) E cX2_convert RX2 X) (hR : hg_Rnv hg_FC hg_rC P X)  (x2 : Int32) (x3 : Int32) (x4 : Int32) (x5 : Int32) (σ : hg_M) (hw : bC_X2_convert_199 R P x2 x3 x4 x5 σ) : hg_G hg_FC 8 X 199 [(0, .ref (hg_ad X 25)), (2, .int x2), (3, .int x3), (4, .int x4), (5, .int x5)] [] σ hg_rC := by
  unfold bC_X2_convert_199 at hw
  refine hg_aload_n hC dX2_convert_199 rfl 0 rfl (n := 200) rfl ?_
  refine hg_getr hC fl_RX2_12 dX2_convert_200 qC_25 kC_25 fC_2_0 rC_25_0 (n := 203) rfl ?_
  refine hg_iload_n hC dX2_convert_203 rfl 1 rfl (n := 204) rfl ?_
  refine hg_puti hC fp_RX2_70 dX2_convert_204 qC_42 kC_42 fC_0_3 rfl rfl (n := 207) rfl (fun σ20 eσ20 => ?_)
  have hw := hw σ20 eσ20
  refine hg_aload_n hC dX2_convert_207 rfl 0 rfl (n := 208) rfl ?_
  refine hg_iload hC dX2_convert_208 3 rfl (n := 210) rfl ?_
  refine hg_puti hC fp_RX2_34 dX2_convert_210 qC_25 kC_25 fC_2_5 rfl rfl (n := 213) rfl (fun σ21 eσ21 => ?_)
  have hw := hw σ21 eσ21
  refine hg_aload_n hC dX2_convert_213 rfl 0 rfl (n := 214) rfl ?_
  refine hg_iload hC dX2_convert_214 4 rfl (n := 216) rfl ?_
  refine hg_iload_n hC dX2_convert_216 rfl 2 rfl (n := 217) rfl ?_
  refine hg_cVv hC (tC_X2_chooseSides (hg_Eof hC) X.2.1 (d + 3) _ _ _ _ hw) sv_RX2_149 dX2_convert_217 qC_25 kC_25 c_2 rfl (rest := []) rfl (Nat.le_of_ble_eq_true rfl) (n := 220) rfl (fun σ22 hw => ?_)
  refine hg_iload hC dX2_convert_220 3 rfl (n := 222) rfl ?_
  refine hg_iconst hC dX2_convert_222 hl_im1 (n := 223) rfl ?_
  refine hg_icmp_ne hC dX2_convert_223 (tg := 230) rfl (n := 226) rfl (fun h9 => ?_) (fun h9 => ?_)
  · have hw := hw.1 h9
    exact hg_sub [] rfl (tbC_X2_convert_230 hRr hC hR  σ22 hw)
  · have hw := hw.2 h9
    refine hg_aload_n hC dX2_convert_226 rfl 0 rfl (n := 227) rfl ?_
    refine hg_cVv hC (tC_X2_moveBack (hg_Eof hC) X.2.1 (d + 3) _ _ hw) sv_RX2_152 dX2_convert_227 qC_25 kC_25 c_2 rfl (rest := []) rfl (Nat.le_of_ble_eq_true rfl) (n := 230) rfl (fun σ23 hw => ?_)
    exact hg_sub [] rfl (tbC_X2_convert_230 hRr hC hR  σ23 hw)
set_option maxRecDepth 4000 in
theorem tbC_X2_convert_79 {d : Nat} {E : hg_Et} {X : hg_X} {R : Int32 → Int32 → Int32 → hg_M → (hg_M → Prop) → Prop} {P : hg_M → Prop}  (hRr : ∀ (a2 : Int32) (a3 : Int32) (a4 : Int32) (σ : hg_M) (P : hg_M → Prop), R a2 a3 a4 σ P → hg_Nv hg_FC E X.2.1 yX2_lowerRange cX2_lowerRange 6 (d + 5) (fun ad => [.ref (ad 25), .ref (ad 16), .int a2, .int a3, .int a4]) hg_rC σ P) (hC : hg_C hg_FC 8 (d + 6) E cX2_convert RX2 X) (hR : hg_Rnv hg_FC hg_rC P X)  (x2 : Int32) (x3 : Int32) (x4 : Int32) (x5 : Int32) (σ : hg_M) (hw : bC_X2_convert_79 R P x2 x3 x4 x5 σ) : hg_G hg_FC 8 X 79 [(0, .ref (hg_ad X 25)), (1, .ref (hg_ad X 16)), (2, .int x2), (3, .int x3), (4, .int x4), (5, .int x5)] [] σ hg_rC := by
  unfold bC_X2_convert_79 at hw
  refine hg_aload_n hC dX2_convert_79 rfl 0 rfl (n := 80) rfl ?_
  refine hg_getr hC fl_RX2_22 dX2_convert_80 qC_25 kC_25 fC_2_2 rC_25_2 (n := 83) rfl ?_
  refine hg_iconst hC dX2_convert_83 hl_i0 (n := 84) rfl ?_
  refine hg_aload_n hC dX2_convert_84 rfl 0 rfl (n := 85) rfl ?_
  refine hg_getr hC fl_RX2_31 dX2_convert_85 qC_25 kC_25 fC_2_4 rC_25_4 (n := 88) rfl ?_
  refine hg_iload_n hC dX2_convert_88 rfl 3 rfl (n := 89) rfl ?_
  obtain ⟨hr89, hw⟩ := hw
  refine hg_aald hC (r := 36 + (x3).toNatClampNeg) dX2_convert_89 qC_35 kC_35 hr89 rfl (n := 90) rfl ?_
  refine hg_iconst hC dX2_convert_90 hl_i0 (n := 91) rfl ?_
  refine hg_bipush hC dX2_convert_91 hl_b16 (n := 93) rfl ?_
  obtain ⟨h9, hw⟩ := hw
  refine hg_copy hC ac_RX2_140 ac_1 ac_2 ac_3 qC_27 kC_27 (QC_36 (hg_lt hr89)) (KC_36 (hg_lt hr89)) h9 (Nat.le_of_ble_eq_true rfl) dX2_convert_93 (n := 96) rfl (fun σ9 eσ9 => ?_)
  have hw := hw σ9 eσ9
  refine hg_aload_n hC dX2_convert_96 rfl 0 rfl (n := 97) rfl ?_
  refine hg_getr hC fl_RX2_28 dX2_convert_97 qC_25 kC_25 fC_2_3 rC_25_3 (n := 100) rfl ?_
  refine hg_iload_n hC dX2_convert_100 rfl 3 rfl (n := 101) rfl ?_
  obtain ⟨hr101, hw⟩ := hw
  refine hg_aald hC (r := 29 + (x3).toNatClampNeg) dX2_convert_101 qC_28 kC_28 hr101 rfl (n := 102) rfl ?_
  refine hg_iconst hC dX2_convert_102 hl_i0 (n := 103) rfl ?_
  refine hg_aload_n hC dX2_convert_103 rfl 0 rfl (n := 104) rfl ?_
  refine hg_getr hC fl_RX2_22 dX2_convert_104 qC_25 kC_25 fC_2_2 rC_25_2 (n := 107) rfl ?_
  refine hg_iconst hC dX2_convert_107 hl_i0 (n := 108) rfl ?_
  refine hg_bipush hC dX2_convert_108 hl_b16 (n := 110) rfl ?_
  obtain ⟨h9, hw⟩ := hw
  refine hg_copy hC ac_RX2_140 ac_1 ac_2 ac_3 (QC_29 (hg_lt hr101)) (KC_29 (hg_lt hr101)) qC_27 kC_27 h9 (Nat.le_of_ble_eq_true rfl) dX2_convert_110 (n := 113) rfl (fun σ10 eσ10 => ?_)
  have hw := hw σ10 eσ10
  refine hg_aload_n hC dX2_convert_113 rfl 0 rfl (n := 114) rfl ?_
  refine hg_getr hC fl_RX2_12 dX2_convert_114 qC_25 kC_25 fC_2_0 rC_25_0 (n := 117) rfl ?_
  refine hg_iload_n hC dX2_convert_117 rfl 2 rfl (n := 118) rfl ?_
  refine hg_puti hC fp_RX2_70 dX2_convert_118 qC_42 kC_42 fC_0_3 rfl rfl (n := 121) rfl (fun σ11 eσ11 => ?_)
  have hw := hw σ11 eσ11
  refine hg_aload_n hC dX2_convert_121 rfl 1 rfl (n := 122) rfl ?_
  refine hg_getr hC fl_RX2_112 dX2_convert_122 qC_16 kC_16 fC_3_4 rC_16_4 (n := 125) rfl ?_
  refine hg_iload_n hC dX2_convert_125 rfl 2 rfl (n := 126) rfl ?_
  obtain ⟨h9, hw⟩ := hw
  refine hg_iald hC dX2_convert_126 qC_21 kC_21 h9 (n := 127) rfl ?_
  refine hg_aload_n hC dX2_convert_127 rfl 1 rfl (n := 128) rfl ?_
  refine hg_getr hC fl_RX2_64 dX2_convert_128 qC_16 kC_16 fC_3_5 rC_16_5 (n := 131) rfl ?_
  refine hg_iload_n hC dX2_convert_131 rfl 2 rfl (n := 132) rfl ?_
  obtain ⟨h9, hw⟩ := hw
  refine hg_iald hC dX2_convert_132 qC_22 kC_22 h9 (n := 133) rfl ?_
  refine hg_icmp_ge hC dX2_convert_133 (tg := 199) rfl (n := 136) rfl (fun h9 => ?_) (fun h9 => ?_)
  · have hw := hw.1 h9
    exact hg_sub [0, 2, 3, 4, 5] rfl (tbC_X2_convert_199 hRr hC hR  x2 x3 x4 x5 σ11 hw)
  · have hw := hw.2 h9
    refine hg_aload_n hC dX2_convert_136 rfl 0 rfl (n := 137) rfl ?_
    refine hg_getr hC fl_RX2_12 dX2_convert_137 qC_25 kC_25 fC_2_0 rC_25_0 (n := 140) rfl ?_
    refine hg_iconst hC dX2_convert_140 hl_i0 (n := 141) rfl ?_
    refine hg_iconst hC dX2_convert_141 hl_im1 (n := 142) rfl ?_
    refine hg_iconst hC dX2_convert_142 hl_i0 (n := 143) rfl ?_
    refine hg_iconst hC dX2_convert_143 hl_i0 (n := 144) rfl ?_
    refine hg_iconst hC dX2_convert_144 hl_i0 (n := 145) rfl ?_
    refine hg_cVi hC (tC_X0_add (hg_Eof hC) X.2.1 (d + 4) _ _ _ _ _ _ _ hw) sv_RX2_95 dX2_convert_145 qC_42 kC_42 c_0 rfl (rest := []) rfl (Nat.le_of_ble_eq_true rfl) (n := 148) rfl (fun r13 σ12 hw => ?_)
    refine hg_istore hC (L1 := [(6, .int r13), (0, .ref (hg_ad X 25)), (1, .ref (hg_ad X 16)), (2, .int x2), (3, .int x3), (4, .int x4), (5, .int x5)]) dX2_convert_148 (by decide) rfl (n := 150) rfl ?_
    refine hg_aload_n hC dX2_convert_150 rfl 1 rfl (n := 151) rfl ?_
    refine hg_getr hC fl_RX2_12 dX2_convert_151 qC_25 kC_25 fC_2_0 rC_25_0 (n := 154) rfl ?_
    refine hg_bipush hC dX2_convert_154 hl_b10 (n := 156) rfl ?_
    refine hg_iconst hC dX2_convert_156 hl_im1 (n := 157) rfl ?_
    refine hg_iload hC dX2_convert_157 6 rfl (n := 159) rfl ?_
    refine hg_iload hC dX2_convert_159 0 rfl (n := 161) rfl ?_
    refine hg_iconst hC dX2_convert_161 hl_i0 (n := 162) rfl ?_
    refine hg_cVi hC (tC_X0_add (hg_Eof hC) X.2.1 (d + 4) _ _ _ _ _ _ _ hw) sv_RX2_95 dX2_convert_162 qC_42 kC_42 c_0 rfl (rest := []) rfl (Nat.le_of_ble_eq_true rfl) (n := 165) rfl (fun r15 σ14 hw => ?_)
    refine hg_istore hC (L1 := [(7, .int r15), (6, .int r13), (0, .ref (hg_ad X 25)), (1, .ref (hg_ad X 16)), (2, .int x2), (3, .int x3), (4, .int x4), (5, .int x5)]) dX2_convert_165 (by decide) rfl (n := 167) rfl ?_
    refine hg_aload_n hC dX2_convert_167 rfl 2 rfl (n := 168) rfl ?_
    refine hg_aload_n hC dX2_convert_168 rfl 2 rfl (n := 169) rfl ?_
    refine hg_iload hC dX2_convert_169 6 rfl (n := 171) rfl ?_
    refine hg_iload hC dX2_convert_171 0 rfl (n := 173) rfl ?_
    refine hg_cVi hC (tC_X2_guardWithin (hg_Eof hC) X.2.1 (d + 3) _ _ _ _ hw) sv_RX2_146 dX2_convert_173 qC_25 kC_25 c_2 rfl (rest := [.ref (hg_ad X 25)]) rfl (Nat.le_of_ble_eq_true rfl) (n := 176) rfl (fun r17 σ16 hw => ?_)
    refine hg_puti hC fp_RX2_34 dX2_convert_176 qC_25 kC_25 fC_2_5 rfl rfl (n := 179) rfl (fun σ18 eσ18 => ?_)
    have hw := hw σ18 eσ18
    refine hg_aload_n hC dX2_convert_179 rfl 2 rfl (n := 180) rfl ?_
    refine hg_aload_n hC dX2_convert_180 rfl 3 rfl (n := 181) rfl ?_
    refine hg_aload_n hC dX2_convert_181 rfl 3 rfl (n := 182) rfl ?_
    refine hg_getr hC fl_RX2_112 dX2_convert_182 qC_16 kC_16 fC_3_4 rC_16_4 (n := 185) rfl ?_
    refine hg_iload_n hC dX2_convert_185 rfl 4 rfl (n := 186) rfl ?_
    obtain ⟨h9, hw⟩ := hw
    refine hg_iald hC dX2_convert_186 qC_21 kC_21 h9 (n := 187) rfl ?_
    refine hg_aload_n hC dX2_convert_187 rfl 3 rfl (n := 188) rfl ?_
    refine hg_getr hC fl_RX2_64 dX2_convert_188 qC_16 kC_16 fC_3_5 rC_16_5 (n := 191) rfl ?_
    refine hg_iload_n hC dX2_convert_191 rfl 4 rfl (n := 192) rfl ?_
    obtain ⟨h9, hw⟩ := hw
    refine hg_iald hC dX2_convert_192 qC_22 kC_22 h9 (n := 193) rfl ?_
    refine hg_iload_n hC dX2_convert_193 rfl 5 rfl (n := 194) rfl ?_
    refine hg_iconst hC dX2_convert_194 hl_i1 (n := 195) rfl ?_
    refine hg_iadd hC dX2_convert_195 (n := 196) rfl ?_
    refine hg_cVv hC (hRr _ _ _ _ _ hw) sv_RX2_57 dX2_convert_196 qC_25 kC_25 c_2 rfl (rest := []) rfl (Nat.le_of_ble_eq_true rfl) (n := 199) rfl (fun σ19 hw => ?_)
    exact hg_sub [2, 4, 5, 6, 7] rfl (tbC_X2_convert_199 hRr hC hR  x2 x3 x4 x5 σ19 hw)
set_option maxRecDepth 4000 in
theorem tC_X2_convert {E : hg_Et} (hE : hg_Eok E) (l : Launch) (d : Nat) {R : Int32 → Int32 → Int32 → hg_M → (hg_M → Prop) → Prop} (hRr : ∀ (a2 : Int32) (a3 : Int32) (a4 : Int32) (σ : hg_M) (P : hg_M → Prop), R a2 a3 a4 σ P → hg_Nv hg_FC E l yX2_lowerRange cX2_lowerRange 6 (d + 5) (fun ad => [.ref (ad 25), .ref (ad 16), .int a2, .int a3, .int a4]) hg_rC σ P) (x2 : Int32) (x3 : Int32) (σ : hg_M) (P : hg_M → Prop) (hw : wC_X2_convert R x2 x3 σ P) : hg_Nv hg_FC E l yX2_convert cX2_convert 8 (d + 6) (fun ad => [.ref (ad 25), .ref (ad 16), .int x2, .int x3]) hg_rC σ P := by
  refine hg_nv hE (by decide) (fun _ => Nat.le_of_ble_eq_true rfl) (fun X hC hR hl => ?_)
  subst hl
  have hC : hg_C hg_FC 8 (d + 6) E cX2_convert RX2 X := hC
  show hg_G hg_FC 8 X 0 [(0, .ref (hg_ad X 25)), (1, .ref (hg_ad X 16)), (2, .int x2), (3, .int x3)] [] σ hg_rC
  unfold wC_X2_convert at hw
  refine hg_iload_n hC dX2_convert_0 rfl 3 rfl (n := 1) rfl ?_
  refine hg_bipush hC dX2_convert_1 hl_b6 (n := 3) rfl ?_
  refine hg_icmp_lt hC dX2_convert_3 (tg := 7) rfl (n := 6) rfl (fun h9 => ?_) (fun h9 => ?_)
  · have hw := hw.1 h9
    refine hg_aload_n hC dX2_convert_7 rfl 0 rfl (n := 8) rfl ?_
    refine hg_geti hC fl_RX2_34 dX2_convert_8 qC_25 kC_25 fC_2_5 (n := 11) rfl ?_
    refine hg_topi (fun v1 ev1 => ?_)
    have hw := hw v1 ev1
    refine hg_istore hC (L1 := [(4, .int v1), (0, .ref (hg_ad X 25)), (1, .ref (hg_ad X 16)), (2, .int x2), (3, .int x3)]) dX2_convert_11 (by decide) rfl (n := 13) rfl ?_
    refine hg_aload_n hC dX2_convert_13 rfl 1 rfl (n := 14) rfl ?_
    refine hg_aload_n hC dX2_convert_14 rfl 2 rfl (n := 15) rfl ?_
    refine hg_iload_n hC dX2_convert_15 rfl 3 rfl (n := 16) rfl ?_
    refine hg_cVi hC (tC_X2_testRegister (hg_Eof hC) X.2.1 (d + 2) _ _ _ hw) sv_RX2_109 dX2_convert_16 qC_25 kC_25 c_2 rfl (rest := []) rfl (Nat.le_of_ble_eq_true rfl) (n := 19) rfl (fun r3 σ2 hw => ?_)
    refine hg_istore hC (L1 := [(5, .int r3), (4, .int v1), (0, .ref (hg_ad X 25)), (1, .ref (hg_ad X 16)), (2, .int x2), (3, .int x3)]) dX2_convert_19 (by decide) rfl (n := 21) rfl ?_
    refine hg_aload_n hC dX2_convert_21 rfl 2 rfl (n := 22) rfl ?_
    refine hg_getr hC fl_RX2_22 dX2_convert_22 qC_25 kC_25 fC_2_2 rC_25_2 (n := 25) rfl ?_
    refine hg_iconst hC dX2_convert_25 hl_i0 (n := 26) rfl ?_
    refine hg_aload_n hC dX2_convert_26 rfl 2 rfl (n := 27) rfl ?_
    refine hg_getr hC fl_RX2_28 dX2_convert_27 qC_25 kC_25 fC_2_3 rC_25_3 (n := 30) rfl ?_
    refine hg_iload_n hC dX2_convert_30 rfl 5 rfl (n := 31) rfl ?_
    obtain ⟨hr31, hw⟩ := hw
    refine hg_aald hC (r := 29 + (x3).toNatClampNeg) dX2_convert_31 qC_28 kC_28 hr31 rfl (n := 32) rfl ?_
    refine hg_iconst hC dX2_convert_32 hl_i0 (n := 33) rfl ?_
    refine hg_bipush hC dX2_convert_33 hl_b16 (n := 35) rfl ?_
    obtain ⟨h9, hw⟩ := hw
    refine hg_copy hC ac_RX2_140 ac_1 ac_2 ac_3 qC_27 kC_27 (QC_29 (hg_lt hr31)) (KC_29 (hg_lt hr31)) h9 (Nat.le_of_ble_eq_true rfl) dX2_convert_35 (n := 38) rfl (fun σ4 eσ4 => ?_)
    have hw := hw σ4 eσ4
    refine hg_iload_n hC dX2_convert_38 rfl 4 rfl (n := 39) rfl ?_
    refine hg_iconst hC dX2_convert_39 hl_i1 (n := 40) rfl ?_
    refine hg_iadd hC dX2_convert_40 (n := 41) rfl ?_
    refine hg_aload_n hC dX2_convert_41 rfl 3 rfl (n := 42) rfl ?_
    refine hg_getr hC fl_RX2_112 dX2_convert_42 qC_16 kC_16 fC_3_4 rC_16_4 (n := 45) rfl ?_
    refine hg_iload_n hC dX2_convert_45 rfl 4 rfl (n := 46) rfl ?_
    obtain ⟨h9, hw⟩ := hw
    refine hg_iald hC dX2_convert_46 qC_21 kC_21 h9 (n := 47) rfl ?_
    refine hg_icmp_ge hC dX2_convert_47 (tg := 79) rfl (n := 50) rfl (fun h9 => ?_) (fun h9 => ?_)
    · have hw := hw.1 h9
      exact hg_sub [2, 3, 4, 5, 1, 0] rfl (tbC_X2_convert_79 hRr hC hR  x2 x3 v1 r3 σ4 hw)
    · have hw := hw.2 h9
      refine hg_aload_n hC dX2_convert_50 rfl 2 rfl (n := 51) rfl ?_
      refine hg_aload_n hC dX2_convert_51 rfl 2 rfl (n := 52) rfl ?_
      refine hg_iload hC dX2_convert_52 1 rfl (n := 54) rfl ?_
      refine hg_iload hC dX2_convert_54 0 rfl (n := 56) rfl ?_
      refine hg_cVi hC (tC_X2_guardWithin (hg_Eof hC) X.2.1 (d + 3) _ _ _ _ hw) sv_RX2_146 dX2_convert_56 qC_25 kC_25 c_2 rfl (rest := [.ref (hg_ad X 25)]) rfl (Nat.le_of_ble_eq_true rfl) (n := 59) rfl (fun r6 σ5 hw => ?_)
      refine hg_puti hC fp_RX2_34 dX2_convert_59 qC_25 kC_25 fC_2_5 rfl rfl (n := 62) rfl (fun σ7 eσ7 => ?_)
      have hw := hw σ7 eσ7
      refine hg_aload_n hC dX2_convert_62 rfl 2 rfl (n := 63) rfl ?_
      refine hg_aload_n hC dX2_convert_63 rfl 3 rfl (n := 64) rfl ?_
      refine hg_iload_n hC dX2_convert_64 rfl 4 rfl (n := 65) rfl ?_
      refine hg_iconst hC dX2_convert_65 hl_i1 (n := 66) rfl ?_
      refine hg_iadd hC dX2_convert_66 (n := 67) rfl ?_
      refine hg_aload_n hC dX2_convert_67 rfl 3 rfl (n := 68) rfl ?_
      refine hg_getr hC fl_RX2_112 dX2_convert_68 qC_16 kC_16 fC_3_4 rC_16_4 (n := 71) rfl ?_
      refine hg_iload_n hC dX2_convert_71 rfl 4 rfl (n := 72) rfl ?_
      obtain ⟨h9, hw⟩ := hw
      refine hg_iald hC dX2_convert_72 qC_21 kC_21 h9 (n := 73) rfl ?_
      refine hg_iload_n hC dX2_convert_73 rfl 5 rfl (n := 74) rfl ?_
      refine hg_iconst hC dX2_convert_74 hl_i1 (n := 75) rfl ?_
      refine hg_iadd hC dX2_convert_75 (n := 76) rfl ?_
      refine hg_cVv hC (hRr _ _ _ _ _ hw) sv_RX2_57 dX2_convert_76 qC_25 kC_25 c_2 rfl (rest := []) rfl (Nat.le_of_ble_eq_true rfl) (n := 79) rfl (fun σ8 hw => ?_)
      exact hg_sub [2, 3, 4, 5, 1, 0] rfl (tbC_X2_convert_79 hRr hC hR  x2 x3 v1 r3 σ8 hw)
  · have hw := hw.2 h9
    exact hg_retv hC hR dX2_convert_6 hw
def bC_X2_lowerRange_88 (R : Int32 → Int32 → Int32 → hg_M → (hg_M → Prop) → Prop) (P : hg_M → Prop) (J3 : Int32 → Int32 → Int32 → hg_M → Prop) (x3 : Int32) (x4 : Int32) (x5 : Int32) (σ : hg_M) : Prop := vp_in x5 60 ∧ (∀ v6 : Int32, v6 = (hg_max (x5 + (1 : Int32)) (σ 22 (x5).toNatClampNeg)) → J3 x3 x4 v6 σ)
def lC_X2_lowerRange_3 (R : Int32 → Int32 → Int32 → hg_M → (hg_M → Prop) → Prop) (P : hg_M → Prop)  : Nat → Int32 → Int32 → Int32 → hg_M → Prop
  | 0, _, _, _, _ => False
  | n + 1, x3, x4, x5, σ => ((x3 ≤ x5 → P σ) ∧ (¬ (x3 ≤ x5) → ∀ σ1 : hg_M, σ1 = hg_set σ 42 3 x5 → vp_in x5 60 ∧ ((((σ1 26 (x5).toNatClampNeg) = 0 → vp_in x5 60 ∧ ((((σ1 17 (x5).toNatClampNeg) ≠ (5 : Int32) → (((σ1 25 5) ≠ (-1 : Int32) → wC_X2_lowerGuarded x5 σ1 (fun σ2 => bC_X2_lowerRange_88 R P (fun k0 k1 k2 k3 => lC_X2_lowerRange_3 R P n k0 k1 k2 k3) x3 x4 x5 σ2)) ∧ ((σ1 25 5) = (-1 : Int32) → wC_X2_lowerPlainly x5 σ1 (fun σ3 => bC_X2_lowerRange_88 R P (fun k0 k1 k2 k3 => lC_X2_lowerRange_3 R P n k0 k1 k2 k3) x3 x4 x5 σ3)))) ∧ ((σ1 17 (x5).toNatClampNeg) = (5 : Int32) → wC_X2_lowerWithJumps R x5 x4 σ1 (fun σ4 => bC_X2_lowerRange_88 R P (fun k0 k1 k2 k3 => lC_X2_lowerRange_3 R P n k0 k1 k2 k3) x3 x4 x5 σ4))))) ∧ (¬ (σ1 26 (x5).toNatClampNeg) = 0 → wC_X2_convert R x5 x4 σ1 (fun σ5 => bC_X2_lowerRange_88 R P (fun k0 k1 k2 k3 => lC_X2_lowerRange_3 R P n k0 k1 k2 k3) x3 x4 x5 σ5))))))
def wC_X2_lowerRange (R : Int32 → Int32 → Int32 → hg_M → (hg_M → Prop) → Prop) (x2 : Int32) (x3 : Int32) (x4 : Int32) (σ : hg_M) (P : hg_M → Prop) : Prop := (∃ f9, lC_X2_lowerRange_3 R P f9 x3 x4 x2 σ)
set_option maxRecDepth 4000 in
theorem tbC_X2_lowerRange_88 {d : Nat} {E : hg_Et} {X : hg_X} {R : Int32 → Int32 → Int32 → hg_M → (hg_M → Prop) → Prop} {P : hg_M → Prop} {J3 : Int32 → Int32 → Int32 → hg_M → Prop} (hRr : ∀ (a2 : Int32) (a3 : Int32) (a4 : Int32) (σ : hg_M) (P : hg_M → Prop), R a2 a3 a4 σ P → hg_Nv hg_FC E X.2.1 yX2_lowerRange cX2_lowerRange 6 (d + 5) (fun ad => [.ref (ad 25), .ref (ad 16), .int a2, .int a3, .int a4]) hg_rC σ P) (hC : hg_C hg_FC 6 (d + 7) E cX2_lowerRange RX2 X) (hR : hg_Rnv hg_FC hg_rC P X) (hJ3 : ∀ (x3 : Int32) (x4 : Int32) (x5 : Int32) (σ : hg_M), J3 x3 x4 x5 σ → hg_G hg_FC 6 X 3 [(0, .ref (hg_ad X 25)), (1, .ref (hg_ad X 16)), (3, .int x3), (4, .int x4), (5, .int x5)] [] σ hg_rC) (x3 : Int32) (x4 : Int32) (x5 : Int32) (σ : hg_M) (hw : bC_X2_lowerRange_88 R P J3 x3 x4 x5 σ) : hg_G hg_FC 6 X 88 [(0, .ref (hg_ad X 25)), (1, .ref (hg_ad X 16)), (3, .int x3), (4, .int x4), (5, .int x5)] [] σ hg_rC := by
  unfold bC_X2_lowerRange_88 at hw
  refine hg_iload hC dX2_lowerRange_88 4 rfl (n := 90) rfl ?_
  refine hg_iconst hC dX2_lowerRange_90 hl_i1 (n := 91) rfl ?_
  refine hg_iadd hC dX2_lowerRange_91 (n := 92) rfl ?_
  refine hg_aload_n hC dX2_lowerRange_92 rfl 1 rfl (n := 93) rfl ?_
  refine hg_getr hC fl_RX2_64 dX2_lowerRange_93 qC_16 kC_16 fC_3_5 rC_16_5 (n := 96) rfl ?_
  refine hg_iload hC dX2_lowerRange_96 4 rfl (n := 98) rfl ?_
  obtain ⟨h9, hw⟩ := hw
  refine hg_iald hC dX2_lowerRange_98 qC_22 kC_22 h9 (n := 99) rfl ?_
  refine hg_mmax hC mx_RX2_83 mx_1 mx_2 mx_3 (Nat.le_of_ble_eq_true rfl) dX2_lowerRange_99 (n := 102) rfl ?_
  refine hg_topi (fun v6 ev6 => ?_)
  have hw := hw v6 ev6
  refine hg_istore hC (L1 := [(5, .int v6), (0, .ref (hg_ad X 25)), (1, .ref (hg_ad X 16)), (3, .int x3), (4, .int x4)]) dX2_lowerRange_102 (by decide) rfl (n := 104) rfl ?_
  refine hg_goto hC dX2_lowerRange_104 (tg := 3) rfl ?_
  exact hg_sub [1, 2, 3, 4, 0] rfl (hJ3 x3 x4 v6 σ hw)
set_option maxRecDepth 4000 in
theorem tlC_X2_lowerRange_3 {d : Nat} {E : hg_Et} {X : hg_X} {R : Int32 → Int32 → Int32 → hg_M → (hg_M → Prop) → Prop} {P : hg_M → Prop}  (hRr : ∀ (a2 : Int32) (a3 : Int32) (a4 : Int32) (σ : hg_M) (P : hg_M → Prop), R a2 a3 a4 σ P → hg_Nv hg_FC E X.2.1 yX2_lowerRange cX2_lowerRange 6 (d + 5) (fun ad => [.ref (ad 25), .ref (ad 16), .int a2, .int a3, .int a4]) hg_rC σ P) (hC : hg_C hg_FC 6 (d + 7) E cX2_lowerRange RX2 X) (hR : hg_Rnv hg_FC hg_rC P X)  (n : Nat) : ∀ (x3 : Int32) (x4 : Int32) (x5 : Int32) (σ : hg_M), lC_X2_lowerRange_3 R P n x3 x4 x5 σ → hg_G hg_FC 6 X 3 [(0, .ref (hg_ad X 25)), (1, .ref (hg_ad X 16)), (3, .int x3), (4, .int x4), (5, .int x5)] [] σ hg_rC := by
  induction n with
  | zero =>
    intro x3 x4 x5 σ hw
    rw [lC_X2_lowerRange_3] at hw
    exact hw.elim
  | succ n ih =>
    intro x3 x4 x5 σ hw
    rw [lC_X2_lowerRange_3] at hw
    refine hg_iload hC dX2_lowerRange_3 4 rfl (n := 5) rfl ?_
    refine hg_iload_n hC dX2_lowerRange_5 rfl 2 rfl (n := 6) rfl ?_
    refine hg_icmp_ge hC dX2_lowerRange_6 (tg := 107) rfl (n := 9) rfl (fun h9 => ?_) (fun h9 => ?_)
    · have hw := hw.1 h9
      exact hg_retv hC hR dX2_lowerRange_107 hw
    · have hw := hw.2 h9
      refine hg_aload_n hC dX2_lowerRange_9 rfl 0 rfl (n := 10) rfl ?_
      refine hg_getr hC fl_RX2_12 dX2_lowerRange_10 qC_25 kC_25 fC_2_0 rC_25_0 (n := 13) rfl ?_
      refine hg_iload hC dX2_lowerRange_13 4 rfl (n := 15) rfl ?_
      refine hg_puti hC fp_RX2_70 dX2_lowerRange_15 qC_42 kC_42 fC_0_3 rfl rfl (n := 18) rfl (fun σ1 eσ1 => ?_)
      have hw := hw σ1 eσ1
      refine hg_aload_n hC dX2_lowerRange_18 rfl 0 rfl (n := 19) rfl ?_
      refine hg_getr hC fl_RX2_18 dX2_lowerRange_19 qC_25 kC_25 fC_2_1 rC_25_1 (n := 22) rfl ?_
      refine hg_iload hC dX2_lowerRange_22 4 rfl (n := 24) rfl ?_
      obtain ⟨h9, hw⟩ := hw
      refine hg_zald hC dX2_lowerRange_24 qC_26 kC_26 h9 (n := 25) rfl ?_
      refine hg_if_eq hC dX2_lowerRange_25 (tg := 40) rfl (n := 28) rfl (fun h9 => ?_) (fun h9 => ?_)
      · have hw := hw.1 h9
        refine hg_aload_n hC dX2_lowerRange_40 rfl 1 rfl (n := 41) rfl ?_
        refine hg_getr hC fl_RX2_67 dX2_lowerRange_41 qC_16 kC_16 fC_3_0 rC_16_0 (n := 44) rfl ?_
        refine hg_iload hC dX2_lowerRange_44 4 rfl (n := 46) rfl ?_
        obtain ⟨h9, hw⟩ := hw
        refine hg_iald hC dX2_lowerRange_46 qC_17 kC_17 h9 (n := 47) rfl ?_
        refine hg_iconst hC dX2_lowerRange_47 hl_i5 (n := 48) rfl ?_
        refine hg_icmp_ne hC dX2_lowerRange_48 (tg := 63) rfl (n := 51) rfl (fun h9 => ?_) (fun h9 => ?_)
        · have hw := hw.1 h9
          refine hg_aload_n hC dX2_lowerRange_63 rfl 0 rfl (n := 64) rfl ?_
          refine hg_geti hC fl_RX2_34 dX2_lowerRange_64 qC_25 kC_25 fC_2_5 (n := 67) rfl ?_
          refine hg_iconst hC dX2_lowerRange_67 hl_im1 (n := 68) rfl ?_
          refine hg_icmp_ne hC dX2_lowerRange_68 (tg := 81) rfl (n := 71) rfl (fun h9 => ?_) (fun h9 => ?_)
          · have hw := hw.1 h9
            refine hg_aload_n hC dX2_lowerRange_81 rfl 0 rfl (n := 82) rfl ?_
            refine hg_aload_n hC dX2_lowerRange_82 rfl 1 rfl (n := 83) rfl ?_
            refine hg_iload hC dX2_lowerRange_83 4 rfl (n := 85) rfl ?_
            refine hg_cVv hC (tC_X2_lowerGuarded (hg_Eof hC) X.2.1 (d + 2) _ _ _ hw) sv_RX2_80 dX2_lowerRange_85 qC_25 kC_25 c_2 rfl (rest := []) rfl (Nat.le_of_ble_eq_true rfl) (n := 88) rfl (fun σ2 hw => ?_)
            exact tbC_X2_lowerRange_88 hRr hC hR ih x3 x4 x5 σ2 hw
          · have hw := hw.2 h9
            refine hg_aload_n hC dX2_lowerRange_71 rfl 0 rfl (n := 72) rfl ?_
            refine hg_aload_n hC dX2_lowerRange_72 rfl 1 rfl (n := 73) rfl ?_
            refine hg_iload hC dX2_lowerRange_73 4 rfl (n := 75) rfl ?_
            refine hg_cVv hC (tC_X2_lowerPlainly (hg_Eof hC) X.2.1 (d + 3) _ _ _ hw) sv_RX2_76 dX2_lowerRange_75 qC_25 kC_25 c_2 rfl (rest := []) rfl (Nat.le_of_ble_eq_true rfl) (n := 78) rfl (fun σ3 hw => ?_)
            refine hg_goto hC dX2_lowerRange_78 (tg := 88) rfl ?_
            exact tbC_X2_lowerRange_88 hRr hC hR ih x3 x4 x5 σ3 hw
        · have hw := hw.2 h9
          refine hg_aload_n hC dX2_lowerRange_51 rfl 0 rfl (n := 52) rfl ?_
          refine hg_aload_n hC dX2_lowerRange_52 rfl 1 rfl (n := 53) rfl ?_
          refine hg_iload hC dX2_lowerRange_53 4 rfl (n := 55) rfl ?_
          refine hg_iload hC dX2_lowerRange_55 3 rfl (n := 57) rfl ?_
          refine hg_cVv hC (tC_X2_lowerWithJumps (hg_Eof hC) X.2.1 (d + 0) hRr _ _ _ _ hw) sv_RX2_73 dX2_lowerRange_57 qC_25 kC_25 c_2 rfl (rest := []) rfl (Nat.le_of_ble_eq_true rfl) (n := 60) rfl (fun σ4 hw => ?_)
          refine hg_goto hC dX2_lowerRange_60 (tg := 88) rfl ?_
          exact tbC_X2_lowerRange_88 hRr hC hR ih x3 x4 x5 σ4 hw
      · have hw := hw.2 h9
        refine hg_aload_n hC dX2_lowerRange_28 rfl 0 rfl (n := 29) rfl ?_
        refine hg_aload_n hC dX2_lowerRange_29 rfl 1 rfl (n := 30) rfl ?_
        refine hg_iload hC dX2_lowerRange_30 4 rfl (n := 32) rfl ?_
        refine hg_iload hC dX2_lowerRange_32 3 rfl (n := 34) rfl ?_
        refine hg_cVv hC (tC_X2_convert (hg_Eof hC) X.2.1 (d + 0) hRr _ _ _ _ hw) sv_RX2_50 dX2_lowerRange_34 qC_25 kC_25 c_2 rfl (rest := []) rfl (Nat.le_of_ble_eq_true rfl) (n := 37) rfl (fun σ5 hw => ?_)
        refine hg_goto hC dX2_lowerRange_37 (tg := 88) rfl ?_
        exact tbC_X2_lowerRange_88 hRr hC hR ih x3 x4 x5 σ5 hw
set_option maxRecDepth 4000 in
theorem tC_X2_lowerRange {E : hg_Et} (hE : hg_Eok E) (l : Launch) (d : Nat) {R : Int32 → Int32 → Int32 → hg_M → (hg_M → Prop) → Prop} (hRr : ∀ (a2 : Int32) (a3 : Int32) (a4 : Int32) (σ : hg_M) (P : hg_M → Prop), R a2 a3 a4 σ P → hg_Nv hg_FC E l yX2_lowerRange cX2_lowerRange 6 (d + 5) (fun ad => [.ref (ad 25), .ref (ad 16), .int a2, .int a3, .int a4]) hg_rC σ P) (x2 : Int32) (x3 : Int32) (x4 : Int32) (σ : hg_M) (P : hg_M → Prop) (hw : wC_X2_lowerRange R x2 x3 x4 σ P) : hg_Nv hg_FC E l yX2_lowerRange cX2_lowerRange 6 (d + 7) (fun ad => [.ref (ad 25), .ref (ad 16), .int x2, .int x3, .int x4]) hg_rC σ P := by
  refine hg_nv hE (by decide) (fun _ => Nat.le_of_ble_eq_true rfl) (fun X hC hR hl => ?_)
  subst hl
  have hC : hg_C hg_FC 6 (d + 7) E cX2_lowerRange RX2 X := hC
  show hg_G hg_FC 6 X 0 [(0, .ref (hg_ad X 25)), (1, .ref (hg_ad X 16)), (2, .int x2), (3, .int x3), (4, .int x4)] [] σ hg_rC
  unfold wC_X2_lowerRange at hw
  refine hg_iload_n hC dX2_lowerRange_0 rfl 2 rfl (n := 1) rfl ?_
  refine hg_istore hC (L1 := [(5, .int x2), (0, .ref (hg_ad X 25)), (1, .ref (hg_ad X 16)), (2, .int x2), (3, .int x3), (4, .int x4)]) dX2_lowerRange_1 (by decide) rfl (n := 3) rfl ?_
  obtain ⟨n9, hw⟩ := hw
  exact hg_sub [1, 2, 4, 5, 0] rfl (tlC_X2_lowerRange_3 hRr hC hR  n9 x3 x4 x2 σ hw)
def uC_X2_lowerRange : Nat → Int32 → Int32 → Int32 → hg_M → (hg_M → Prop) → Prop
  | 0 => fun _ _ _ _ _ => False
  | f + 1 => fun a2 a3 a4 σ P => wC_X2_lowerRange (uC_X2_lowerRange f) a2 a3 a4 σ P
theorem tuC_X2_lowerRange {E : hg_Et} (hE : hg_Eok E) (l : Launch) : ∀ (f d : Nat) (a2 : Int32) (a3 : Int32) (a4 : Int32) (σ : hg_M) (P : hg_M → Prop), uC_X2_lowerRange f a2 a3 a4 σ P → hg_Nv hg_FC E l yX2_lowerRange cX2_lowerRange 6 (d + 2 * f + 5) (fun ad => [.ref (ad 25), .ref (ad 16), .int a2, .int a3, .int a4]) hg_rC σ P := by
  intro f
  induction f with
  | zero => intro d a2 a3 a4 σ P h; exact h.elim
  | succ f ih =>
    intro d a2 a3 a4 σ P h
    have hh := tC_X2_lowerRange hE l (d + 2 * f) (R := uC_X2_lowerRange f) (fun a2 a3 a4 σ P h => ih d a2 a3 a4 σ P h) a2 a3 a4 σ P h
    have e : d + 2 * (f + 1) + 5 = d + 2 * f + 7 := by omega
    rw [e]
    exact hh
abbrev vC_X2_lowerRange (a2 : Int32) (a3 : Int32) (a4 : Int32) (σ : hg_M) (P : hg_M → Prop) : Prop := uC_X2_lowerRange 8 a2 a3 a4 σ P
abbrev vC_X2_lowerWithJumps (a2 : Int32) (a3 : Int32) (σ : hg_M) (P : hg_M → Prop) : Prop := wC_X2_lowerWithJumps (uC_X2_lowerRange 8) a2 a3 σ P
abbrev vC_X2_convert (a2 : Int32) (a3 : Int32) (σ : hg_M) (P : hg_M → Prop) : Prop := wC_X2_convert (uC_X2_lowerRange 8) a2 a3 σ P
theorem tvC_X2_lowerRange {E : hg_Et} (hE : hg_Eok E) (l : Launch) (d : Nat) (a2 : Int32) (a3 : Int32) (a4 : Int32) (σ : hg_M) (P : hg_M → Prop) (h : vC_X2_lowerRange a2 a3 a4 σ P) : hg_Nv hg_FC E l yX2_lowerRange cX2_lowerRange 6 (d + 21) (fun ad => [.ref (ad 25), .ref (ad 16), .int a2, .int a3, .int a4]) hg_rC σ P := by
  have hh := tuC_X2_lowerRange hE l 8 d a2 a3 a4 σ P h
  exact hh
theorem tvC_X2_lowerWithJumps {E : hg_Et} (hE : hg_Eok E) (l : Launch) (d : Nat) (a2 : Int32) (a3 : Int32) (σ : hg_M) (P : hg_M → Prop) (h : vC_X2_lowerWithJumps a2 a3 σ P) : hg_Nv hg_FC E l yX2_lowerWithJumps cX2_lowerWithJumps 7 (d + 22) (fun ad => [.ref (ad 25), .ref (ad 16), .int a2, .int a3]) hg_rC σ P := tC_X2_lowerWithJumps hE l (d + 16) (R := uC_X2_lowerRange 8) (fun a2 a3 a4 σ P h => tuC_X2_lowerRange hE l 8 d a2 a3 a4 σ P h) a2 a3 σ P h
theorem tvC_X2_convert {E : hg_Et} (hE : hg_Eok E) (l : Launch) (d : Nat) (a2 : Int32) (a3 : Int32) (σ : hg_M) (P : hg_M → Prop) (h : vC_X2_convert a2 a3 σ P) : hg_Nv hg_FC E l yX2_convert cX2_convert 8 (d + 22) (fun ad => [.ref (ad 25), .ref (ad 16), .int a2, .int a3]) hg_rC σ P := tC_X2_convert hE l (d + 16) (R := uC_X2_lowerRange 8) (fun a2 a3 a4 σ P h => tuC_X2_lowerRange hE l 8 d a2 a3 a4 σ P h) a2 a3 σ P h
def bC_X0_dropUseless_85 (P : Int32 → hg_M → Prop) (J60 : Int32 → Int32 → hg_M → Prop) (x1 : Int32) (x2 : Int32) (σ : hg_M) : Prop := ∀ v8 : Int32, v8 = x2 + (1 : Int32) → J60 x1 v8 σ
def lC_X0_dropUseless_60 (P : Int32 → hg_M → Prop)  : Nat → Int32 → Int32 → hg_M → Prop
  | 0, _, _, _ => False
  | n + 1, x1, x2, σ => ((x1 ≤ x2 → vp_in x1 721 ∧ (∀ σ6 : hg_M, σ6 = hg_set σ 42 1 (σ 52 (x1).toNatClampNeg) → P (x1 - (σ6 42 1)) σ6)) ∧ (¬ (x1 ≤ x2) → vp_in x2 720 ∧ ((((σ 51 (x2).toNatClampNeg) = 0 → bC_X0_dropUseless_85 P (fun k0 k1 k2 => lC_X0_dropUseless_60 P n k0 k1 k2) x1 x2 σ) ∧ (¬ (σ 51 (x2).toNatClampNeg) = 0 → vp_in x2 721 ∧ (wC_X0_shift x2 (σ 52 (x2).toNatClampNeg) σ (fun σ7 => bC_X0_dropUseless_85 P (fun k0 k1 k2 => lC_X0_dropUseless_60 P n k0 k1 k2) x1 x2 σ7)))))))
def bC_X0_dropUseless_50 (P : Int32 → hg_M → Prop) (J18 : Int32 → Int32 → hg_M → Prop) (x1 : Int32) (x2 : Int32) (t1 : Int32) (t2 : Int32) (t3 : Int32) (σ : hg_M) : Prop := vp_in t1 721 ∧ (∀ σ4 : hg_M, σ4 = hg_set σ 52 (t1).toNatClampNeg (t2 + t3) → ∀ v5 : Int32, v5 = x2 + (1 : Int32) → J18 x1 v5 σ4)
def lC_X0_dropUseless_18 (P : Int32 → hg_M → Prop)  : Nat → Int32 → Int32 → hg_M → Prop
  | 0, _, _, _ => False
  | n + 1, x1, x2, σ => ((x1 ≤ x2 → (∃ f9, lC_X0_dropUseless_60 P f9 x1 (0 : Int32) σ)) ∧ (¬ (x1 ≤ x2) → vp_in x2 721 ∧ (vp_in x2 720 ∧ ((((σ 51 (x2).toNatClampNeg) = 0 → bC_X0_dropUseless_50 P (fun k0 k1 k2 => lC_X0_dropUseless_18 P n k0 k1 k2) x1 x2 (x2 + (1 : Int32)) (σ 52 (x2).toNatClampNeg) (0 : Int32) σ) ∧ (¬ (σ 51 (x2).toNatClampNeg) = 0 → bC_X0_dropUseless_50 P (fun k0 k1 k2 => lC_X0_dropUseless_18 P n k0 k1 k2) x1 x2 (x2 + (1 : Int32)) (σ 52 (x2).toNatClampNeg) (1 : Int32) σ))))))
def wC_X0_dropUseless  (σ : hg_M) (P : Int32 → hg_M → Prop) : Prop := wC_X0_findUseless σ (fun σ1 => ∀ v2 : Int32, v2 = (σ1 42 1) → vp_in (0 : Int32) 721 ∧ (∀ σ3 : hg_M, σ3 = hg_set σ1 52 ((0 : Int32)).toNatClampNeg (0 : Int32) → (∃ f9, lC_X0_dropUseless_18 P f9 v2 (0 : Int32) σ3)))
set_option maxRecDepth 4000 in
theorem tbC_X0_dropUseless_85 {d : Nat} {E : hg_Et} {X : hg_X} {P : Int32 → hg_M → Prop} {J60 : Int32 → Int32 → hg_M → Prop} (hC : hg_C hg_FC 3 (d + 4) E cX0_dropUseless RX0 X) (hR : hg_Rni hg_FC (some .int) hg_rC P X) (hJ60 : ∀ (x1 : Int32) (x2 : Int32) (σ : hg_M), J60 x1 x2 σ → hg_G hg_FC 3 X 60 [(0, .ref (hg_ad X 42)), (1, .int x1), (2, .int x2)] [] σ hg_rC) (x1 : Int32) (x2 : Int32) (σ : hg_M) (hw : bC_X0_dropUseless_85 P J60 x1 x2 σ) : hg_G hg_FC 3 X 85 [(0, .ref (hg_ad X 42)), (1, .int x1), (2, .int x2)] [] σ hg_rC := by
  unfold bC_X0_dropUseless_85 at hw
  obtain ⟨v8, ev8⟩ : ∃ z, z = x2 + (1 : Int32) := ⟨_, rfl⟩
  have hw := hw v8 ev8
  refine hg_iinc hC (v := v8) (L1 := [(2, .int v8), (0, .ref (hg_ad X 42)), (1, .int x1)]) dX0_dropUseless_85 2 rfl (by rw [hl_i1, ev8]) (by decide) rfl (n := 88) rfl ?_
  refine hg_goto hC dX0_dropUseless_88 (tg := 60) rfl ?_
  exact hg_sub [1, 2, 0] rfl (hJ60 x1 v8 σ hw)
set_option maxRecDepth 4000 in
theorem tlC_X0_dropUseless_60 {d : Nat} {E : hg_Et} {X : hg_X} {P : Int32 → hg_M → Prop}  (hC : hg_C hg_FC 3 (d + 4) E cX0_dropUseless RX0 X) (hR : hg_Rni hg_FC (some .int) hg_rC P X)  (n : Nat) : ∀ (x1 : Int32) (x2 : Int32) (σ : hg_M), lC_X0_dropUseless_60 P n x1 x2 σ → hg_G hg_FC 3 X 60 [(0, .ref (hg_ad X 42)), (1, .int x1), (2, .int x2)] [] σ hg_rC := by
  induction n with
  | zero =>
    intro x1 x2 σ hw
    rw [lC_X0_dropUseless_60] at hw
    exact hw.elim
  | succ n ih =>
    intro x1 x2 σ hw
    rw [lC_X0_dropUseless_60] at hw
    refine hg_iload_n hC dX0_dropUseless_60 rfl 2 rfl (n := 61) rfl ?_
    refine hg_iload_n hC dX0_dropUseless_61 rfl 1 rfl (n := 62) rfl ?_
    refine hg_icmp_ge hC dX0_dropUseless_62 (tg := 91) rfl (n := 65) rfl (fun h9 => ?_) (fun h9 => ?_)
    · have hw := hw.1 h9
      refine hg_aload_n hC dX0_dropUseless_91 rfl 0 rfl (n := 92) rfl ?_
      refine hg_aload_n hC dX0_dropUseless_92 rfl 0 rfl (n := 93) rfl ?_
      refine hg_getr hC fl_RX0_33 dX0_dropUseless_93 qC_42 kC_42 fC_0_6 rC_42_6 (n := 96) rfl ?_
      refine hg_iload_n hC dX0_dropUseless_96 rfl 1 rfl (n := 97) rfl ?_
      obtain ⟨h9, hw⟩ := hw
      refine hg_iald hC dX0_dropUseless_97 qC_52 kC_52 h9 (n := 98) rfl ?_
      refine hg_puti hC fp_RX0_16 dX0_dropUseless_98 qC_42 kC_42 fC_0_1 rfl rfl (n := 101) rfl (fun σ6 eσ6 => ?_)
      have hw := hw σ6 eσ6
      refine hg_iload_n hC dX0_dropUseless_101 rfl 1 rfl (n := 102) rfl ?_
      refine hg_aload_n hC dX0_dropUseless_102 rfl 0 rfl (n := 103) rfl ?_
      refine hg_geti hC fl_RX0_16 dX0_dropUseless_103 qC_42 kC_42 fC_0_1 (n := 106) rfl ?_
      refine hg_isub hC dX0_dropUseless_106 (n := 107) rfl ?_
      exact hg_reti hC hR dX0_dropUseless_107 hw
    · have hw := hw.2 h9
      refine hg_aload_n hC dX0_dropUseless_65 rfl 0 rfl (n := 66) rfl ?_
      refine hg_getr hC fl_RX0_30 dX0_dropUseless_66 qC_42 kC_42 fC_0_5 rC_42_5 (n := 69) rfl ?_
      refine hg_iload_n hC dX0_dropUseless_69 rfl 2 rfl (n := 70) rfl ?_
      obtain ⟨h9, hw⟩ := hw
      refine hg_zald hC dX0_dropUseless_70 qC_51 kC_51 h9 (n := 71) rfl ?_
      refine hg_if_eq hC dX0_dropUseless_71 (tg := 85) rfl (n := 74) rfl (fun h9 => ?_) (fun h9 => ?_)
      · have hw := hw.1 h9
        exact tbC_X0_dropUseless_85 hC hR ih x1 x2 σ hw
      · have hw := hw.2 h9
        refine hg_aload_n hC dX0_dropUseless_74 rfl 0 rfl (n := 75) rfl ?_
        refine hg_iload_n hC dX0_dropUseless_75 rfl 2 rfl (n := 76) rfl ?_
        refine hg_aload_n hC dX0_dropUseless_76 rfl 0 rfl (n := 77) rfl ?_
        refine hg_getr hC fl_RX0_33 dX0_dropUseless_77 qC_42 kC_42 fC_0_6 rC_42_6 (n := 80) rfl ?_
        refine hg_iload_n hC dX0_dropUseless_80 rfl 2 rfl (n := 81) rfl ?_
        obtain ⟨h9, hw⟩ := hw
        refine hg_iald hC dX0_dropUseless_81 qC_52 kC_52 h9 (n := 82) rfl ?_
        refine hg_cVv hC (tC_X0_shift (hg_Eof hC) X.2.1 (d + 1) _ _ _ _ hw) sv_RX0_48 dX0_dropUseless_82 qC_42 kC_42 c_0 rfl (rest := []) rfl (Nat.le_of_ble_eq_true rfl) (n := 85) rfl (fun σ7 hw => ?_)
        exact tbC_X0_dropUseless_85 hC hR ih x1 x2 σ7 hw
set_option maxRecDepth 4000 in
theorem tbC_X0_dropUseless_50 {d : Nat} {E : hg_Et} {X : hg_X} {P : Int32 → hg_M → Prop} {J18 : Int32 → Int32 → hg_M → Prop} (hC : hg_C hg_FC 3 (d + 4) E cX0_dropUseless RX0 X) (hR : hg_Rni hg_FC (some .int) hg_rC P X) (hJ18 : ∀ (x1 : Int32) (x2 : Int32) (σ : hg_M), J18 x1 x2 σ → hg_G hg_FC 3 X 18 [(0, .ref (hg_ad X 42)), (1, .int x1), (2, .int x2)] [] σ hg_rC) (x1 : Int32) (x2 : Int32) (t1 : Int32) (t2 : Int32) (t3 : Int32) (σ : hg_M) (hw : bC_X0_dropUseless_50 P J18 x1 x2 t1 t2 t3 σ) : hg_G hg_FC 3 X 50 [(0, .ref (hg_ad X 42)), (1, .int x1), (2, .int x2)] [.int t3, .int t2, .int t1, .ref (hg_ad X 52)] σ hg_rC := by
  unfold bC_X0_dropUseless_50 at hw
  refine hg_iadd hC dX0_dropUseless_50 (n := 51) rfl ?_
  obtain ⟨h9, hw⟩ := hw
  refine hg_iast hC dX0_dropUseless_51 qC_52 kC_52 h9 (n := 52) rfl (fun σ4 eσ4 => ?_)
  have hw := hw σ4 eσ4
  obtain ⟨v5, ev5⟩ : ∃ z, z = x2 + (1 : Int32) := ⟨_, rfl⟩
  have hw := hw v5 ev5
  refine hg_iinc hC (v := v5) (L1 := [(2, .int v5), (0, .ref (hg_ad X 42)), (1, .int x1)]) dX0_dropUseless_52 2 rfl (by rw [hl_i1, ev5]) (by decide) rfl (n := 55) rfl ?_
  refine hg_goto hC dX0_dropUseless_55 (tg := 18) rfl ?_
  exact hg_sub [1, 2, 0] rfl (hJ18 x1 v5 σ4 hw)
set_option maxRecDepth 4000 in
theorem tlC_X0_dropUseless_18 {d : Nat} {E : hg_Et} {X : hg_X} {P : Int32 → hg_M → Prop}  (hC : hg_C hg_FC 3 (d + 4) E cX0_dropUseless RX0 X) (hR : hg_Rni hg_FC (some .int) hg_rC P X)  (n : Nat) : ∀ (x1 : Int32) (x2 : Int32) (σ : hg_M), lC_X0_dropUseless_18 P n x1 x2 σ → hg_G hg_FC 3 X 18 [(0, .ref (hg_ad X 42)), (1, .int x1), (2, .int x2)] [] σ hg_rC := by
  induction n with
  | zero =>
    intro x1 x2 σ hw
    rw [lC_X0_dropUseless_18] at hw
    exact hw.elim
  | succ n ih =>
    intro x1 x2 σ hw
    rw [lC_X0_dropUseless_18] at hw
    refine hg_iload_n hC dX0_dropUseless_18 rfl 2 rfl (n := 19) rfl ?_
    refine hg_iload_n hC dX0_dropUseless_19 rfl 1 rfl (n := 20) rfl ?_
    refine hg_icmp_ge hC dX0_dropUseless_20 (tg := 58) rfl (n := 23) rfl (fun h9 => ?_) (fun h9 => ?_)
    · have hw := hw.1 h9
      refine hg_iconst hC dX0_dropUseless_58 hl_i0 (n := 59) rfl ?_
      refine hg_istore_n hC (L1 := [(2, .int (0 : Int32)), (0, .ref (hg_ad X 42)), (1, .int x1)]) dX0_dropUseless_59 rfl (by decide) rfl (n := 60) rfl ?_
      obtain ⟨n9, hw⟩ := hw
      exact hg_sub [1, 2, 0] rfl (tlC_X0_dropUseless_60 hC hR  n9 x1 (0 : Int32) σ hw)
    · have hw := hw.2 h9
      refine hg_aload_n hC dX0_dropUseless_23 rfl 0 rfl (n := 24) rfl ?_
      refine hg_getr hC fl_RX0_33 dX0_dropUseless_24 qC_42 kC_42 fC_0_6 rC_42_6 (n := 27) rfl ?_
      refine hg_iload_n hC dX0_dropUseless_27 rfl 2 rfl (n := 28) rfl ?_
      refine hg_iconst hC dX0_dropUseless_28 hl_i1 (n := 29) rfl ?_
      refine hg_iadd hC dX0_dropUseless_29 (n := 30) rfl ?_
      refine hg_aload_n hC dX0_dropUseless_30 rfl 0 rfl (n := 31) rfl ?_
      refine hg_getr hC fl_RX0_33 dX0_dropUseless_31 qC_42 kC_42 fC_0_6 rC_42_6 (n := 34) rfl ?_
      refine hg_iload_n hC dX0_dropUseless_34 rfl 2 rfl (n := 35) rfl ?_
      obtain ⟨h9, hw⟩ := hw
      refine hg_iald hC dX0_dropUseless_35 qC_52 kC_52 h9 (n := 36) rfl ?_
      refine hg_aload_n hC dX0_dropUseless_36 rfl 0 rfl (n := 37) rfl ?_
      refine hg_getr hC fl_RX0_30 dX0_dropUseless_37 qC_42 kC_42 fC_0_5 rC_42_5 (n := 40) rfl ?_
      refine hg_iload_n hC dX0_dropUseless_40 rfl 2 rfl (n := 41) rfl ?_
      obtain ⟨h9, hw⟩ := hw
      refine hg_zald hC dX0_dropUseless_41 qC_51 kC_51 h9 (n := 42) rfl ?_
      refine hg_if_eq hC dX0_dropUseless_42 (tg := 49) rfl (n := 45) rfl (fun h9 => ?_) (fun h9 => ?_)
      · have hw := hw.1 h9
        refine hg_iconst hC dX0_dropUseless_49 hl_i0 (n := 50) rfl ?_
        exact tbC_X0_dropUseless_50 hC hR ih x1 x2 (x2 + (1 : Int32)) (σ 52 (x2).toNatClampNeg) (0 : Int32) σ hw
      · have hw := hw.2 h9
        refine hg_iconst hC dX0_dropUseless_45 hl_i1 (n := 46) rfl ?_
        refine hg_goto hC dX0_dropUseless_46 (tg := 50) rfl ?_
        exact tbC_X0_dropUseless_50 hC hR ih x1 x2 (x2 + (1 : Int32)) (σ 52 (x2).toNatClampNeg) (1 : Int32) σ hw
set_option maxRecDepth 4000 in
theorem tC_X0_dropUseless {E : hg_Et} (hE : hg_Eok E) (l : Launch) (d : Nat)  (σ : hg_M) (P : Int32 → hg_M → Prop) (hw : wC_X0_dropUseless  σ P) : hg_Ni hg_FC E l yX0_dropUseless cX0_dropUseless 3 (some .int) (d + 4) (fun ad => [.ref (ad 42)]) hg_rC σ P := by
  refine hg_ni hE (by decide) (fun _ => Nat.le_of_ble_eq_true rfl) (fun X hC hR hl => ?_)
  subst hl
  have hC : hg_C hg_FC 3 (d + 4) E cX0_dropUseless RX0 X := hC
  show hg_G hg_FC 3 X 0 [(0, .ref (hg_ad X 42))] [] σ hg_rC
  unfold wC_X0_dropUseless at hw
  refine hg_aload_n hC dX0_dropUseless_0 rfl 0 rfl (n := 1) rfl ?_
  refine hg_cVv hC (tC_X0_findUseless (hg_Eof hC) X.2.1 (d + 0) _ _ hw) sv_RX0_45 dX0_dropUseless_1 qC_42 kC_42 c_0 rfl (rest := []) rfl (Nat.le_of_ble_eq_true rfl) (n := 4) rfl (fun σ1 hw => ?_)
  refine hg_aload_n hC dX0_dropUseless_4 rfl 0 rfl (n := 5) rfl ?_
  refine hg_geti hC fl_RX0_16 dX0_dropUseless_5 qC_42 kC_42 fC_0_1 (n := 8) rfl ?_
  refine hg_topi (fun v2 ev2 => ?_)
  have hw := hw v2 ev2
  refine hg_istore_n hC (L1 := [(1, .int v2), (0, .ref (hg_ad X 42))]) dX0_dropUseless_8 rfl (by decide) rfl (n := 9) rfl ?_
  refine hg_aload_n hC dX0_dropUseless_9 rfl 1 rfl (n := 10) rfl ?_
  refine hg_getr hC fl_RX0_33 dX0_dropUseless_10 qC_42 kC_42 fC_0_6 rC_42_6 (n := 13) rfl ?_
  refine hg_iconst hC dX0_dropUseless_13 hl_i0 (n := 14) rfl ?_
  refine hg_iconst hC dX0_dropUseless_14 hl_i0 (n := 15) rfl ?_
  obtain ⟨h9, hw⟩ := hw
  refine hg_iast hC dX0_dropUseless_15 qC_52 kC_52 h9 (n := 16) rfl (fun σ3 eσ3 => ?_)
  have hw := hw σ3 eσ3
  refine hg_iconst hC dX0_dropUseless_16 hl_i0 (n := 17) rfl ?_
  refine hg_istore_n hC (L1 := [(2, .int (0 : Int32)), (1, .int v2), (0, .ref (hg_ad X 42))]) dX0_dropUseless_17 rfl (by decide) rfl (n := 18) rfl ?_
  obtain ⟨n9, hw⟩ := hw
  exact hg_sub [2, 1, 0] rfl (tlC_X0_dropUseless_18 hC hR  n9 v2 (0 : Int32) σ3 hw)
def bC_X4_takeWrite_55 (P : Int32 → hg_M → Prop)  (t0 : Int32) (σ : hg_M) : Prop := ((t0 = 0 ∨ t0 = 1) ∧ P t0 σ)
def bC_X4_takeWrite_54 (P : Int32 → hg_M → Prop)   (σ : hg_M) : Prop := bC_X4_takeWrite_55 P (0 : Int32) σ
def wC_X4_takeWrite (x1 : Int32) (σ : hg_M) (P : Int32 → hg_M → Prop) : Prop := vp_in x1 60 ∧ (∀ σ1 : hg_M, σ1 = hg_set σ 8 (x1).toNatClampNeg (3 : Int32) → wC_X4_takeValue ((2 : Int32) * x1) σ1 (fun r3 σ2 => ((r3 = 0 → bC_X4_takeWrite_54 P σ2) ∧ (¬ r3 = 0 → wC_X4_takeByte (61 : Int32) σ2 (fun r5 σ4 => ((r5 = 0 → bC_X4_takeWrite_54 P σ4) ∧ (¬ r5 = 0 → wC_X4_takeValue (((2 : Int32) * x1) + (1 : Int32)) σ4 (fun r7 σ6 => ((r7 = 0 → bC_X4_takeWrite_54 P σ6) ∧ (¬ r7 = 0 → wC_X4_takeByte (59 : Int32) σ6 (fun r9 σ8 => ((r9 = 0 → bC_X4_takeWrite_54 P σ8) ∧ (¬ r9 = 0 → bC_X4_takeWrite_55 P (1 : Int32) σ8)))))))))))))
set_option maxRecDepth 4000 in
theorem tbC_X4_takeWrite_55 {d : Nat} {E : hg_Et} {X : hg_X} {P : Int32 → hg_M → Prop}  (hC : hg_C hg_FC 2 (d + 4) E cX4_takeWrite RX4 X) (hR : hg_Rni hg_FC (some .boolean) hg_rC P X)  (t0 : Int32) (σ : hg_M) (hw : bC_X4_takeWrite_55 P t0 σ) : hg_G hg_FC 2 X 55 [] [.int t0] σ hg_rC := by
  unfold bC_X4_takeWrite_55 at hw
  exact hg_retz hC hR dX4_takeWrite_55 hw
set_option maxRecDepth 4000 in
theorem tbC_X4_takeWrite_54 {d : Nat} {E : hg_Et} {X : hg_X} {P : Int32 → hg_M → Prop}  (hC : hg_C hg_FC 2 (d + 4) E cX4_takeWrite RX4 X) (hR : hg_Rni hg_FC (some .boolean) hg_rC P X)   (σ : hg_M) (hw : bC_X4_takeWrite_54 P  σ) : hg_G hg_FC 2 X 54 [] [] σ hg_rC := by
  unfold bC_X4_takeWrite_54 at hw
  refine hg_iconst hC dX4_takeWrite_54 hl_i0 (n := 55) rfl ?_
  exact tbC_X4_takeWrite_55 hC hR  (0 : Int32) σ hw
set_option maxRecDepth 4000 in
theorem tC_X4_takeWrite {E : hg_Et} (hE : hg_Eok E) (l : Launch) (d : Nat) (x1 : Int32) (σ : hg_M) (P : Int32 → hg_M → Prop) (hw : wC_X4_takeWrite x1 σ P) : hg_Ni hg_FC E l yX4_takeWrite cX4_takeWrite 2 (some .boolean) (d + 4) (fun ad => [.ref (ad 3), .int x1]) hg_rC σ P := by
  refine hg_ni hE (by decide) (fun _ => Nat.le_of_ble_eq_true rfl) (fun X hC hR hl => ?_)
  subst hl
  have hC : hg_C hg_FC 2 (d + 4) E cX4_takeWrite RX4 X := hC
  show hg_G hg_FC 2 X 0 [(0, .ref (hg_ad X 3)), (1, .int x1)] [] σ hg_rC
  unfold wC_X4_takeWrite at hw
  refine hg_aload_n hC dX4_takeWrite_0 rfl 0 rfl (n := 1) rfl ?_
  refine hg_getr hC fl_RX4_22 dX4_takeWrite_1 qC_3 kC_3 fC_4_2 rC_3_2 (n := 4) rfl ?_
  refine hg_getr hC fl_RX4_91 dX4_takeWrite_4 qC_7 kC_7 fC_3_0 rC_7_0 (n := 7) rfl ?_
  refine hg_iload_n hC dX4_takeWrite_7 rfl 1 rfl (n := 8) rfl ?_
  refine hg_iconst hC dX4_takeWrite_8 hl_i3 (n := 9) rfl ?_
  obtain ⟨h9, hw⟩ := hw
  refine hg_iast hC dX4_takeWrite_9 qC_8 kC_8 h9 (n := 10) rfl (fun σ1 eσ1 => ?_)
  have hw := hw σ1 eσ1
  refine hg_aload_n hC dX4_takeWrite_10 rfl 0 rfl (n := 11) rfl ?_
  refine hg_iconst hC dX4_takeWrite_11 hl_i2 (n := 12) rfl ?_
  refine hg_iload_n hC dX4_takeWrite_12 rfl 1 rfl (n := 13) rfl ?_
  refine hg_imul hC dX4_takeWrite_13 (n := 14) rfl ?_
  refine hg_cVi hC (tC_X4_takeValue (hg_Eof hC) X.2.1 (d + 0) _ _ _ hw) sv_RX4_94 dX4_takeWrite_14 qC_3 kC_3 c_4 rfl (rest := []) rfl (Nat.le_of_ble_eq_true rfl) (n := 17) rfl (fun r3 σ2 hw => ?_)
  refine hg_if_eq hC dX4_takeWrite_17 (tg := 54) rfl (n := 20) rfl (fun h9 => ?_) (fun h9 => ?_)
  · have hw := hw.1 h9
    exact hg_sub [] rfl (tbC_X4_takeWrite_54 hC hR  σ2 hw)
  · have hw := hw.2 h9
    refine hg_aload_n hC dX4_takeWrite_20 rfl 0 rfl (n := 21) rfl ?_
    refine hg_bipush hC dX4_takeWrite_21 hl_b61 (n := 23) rfl ?_
    refine hg_cVi hC (tC_X4_takeByte (hg_Eof hC) X.2.1 (d + 1) _ _ _ hw) sv_RX4_97 dX4_takeWrite_23 qC_3 kC_3 c_4 rfl (rest := []) rfl (Nat.le_of_ble_eq_true rfl) (n := 26) rfl (fun r5 σ4 hw => ?_)
    refine hg_if_eq hC dX4_takeWrite_26 (tg := 54) rfl (n := 29) rfl (fun h9 => ?_) (fun h9 => ?_)
    · have hw := hw.1 h9
      exact hg_sub [] rfl (tbC_X4_takeWrite_54 hC hR  σ4 hw)
    · have hw := hw.2 h9
      refine hg_aload_n hC dX4_takeWrite_29 rfl 0 rfl (n := 30) rfl ?_
      refine hg_iconst hC dX4_takeWrite_30 hl_i2 (n := 31) rfl ?_
      refine hg_iload_n hC dX4_takeWrite_31 rfl 1 rfl (n := 32) rfl ?_
      refine hg_imul hC dX4_takeWrite_32 (n := 33) rfl ?_
      refine hg_iconst hC dX4_takeWrite_33 hl_i1 (n := 34) rfl ?_
      refine hg_iadd hC dX4_takeWrite_34 (n := 35) rfl ?_
      refine hg_cVi hC (tC_X4_takeValue (hg_Eof hC) X.2.1 (d + 0) _ _ _ hw) sv_RX4_94 dX4_takeWrite_35 qC_3 kC_3 c_4 rfl (rest := []) rfl (Nat.le_of_ble_eq_true rfl) (n := 38) rfl (fun r7 σ6 hw => ?_)
      refine hg_if_eq hC dX4_takeWrite_38 (tg := 54) rfl (n := 41) rfl (fun h9 => ?_) (fun h9 => ?_)
      · have hw := hw.1 h9
        exact hg_sub [] rfl (tbC_X4_takeWrite_54 hC hR  σ6 hw)
      · have hw := hw.2 h9
        refine hg_aload_n hC dX4_takeWrite_41 rfl 0 rfl (n := 42) rfl ?_
        refine hg_bipush hC dX4_takeWrite_42 hl_b59 (n := 44) rfl ?_
        refine hg_cVi hC (tC_X4_takeByte (hg_Eof hC) X.2.1 (d + 1) _ _ _ hw) sv_RX4_97 dX4_takeWrite_44 qC_3 kC_3 c_4 rfl (rest := []) rfl (Nat.le_of_ble_eq_true rfl) (n := 47) rfl (fun r9 σ8 hw => ?_)
        refine hg_if_eq hC dX4_takeWrite_47 (tg := 54) rfl (n := 50) rfl (fun h9 => ?_) (fun h9 => ?_)
        · have hw := hw.1 h9
          exact hg_sub [] rfl (tbC_X4_takeWrite_54 hC hR  σ8 hw)
        · have hw := hw.2 h9
          refine hg_iconst hC dX4_takeWrite_50 hl_i1 (n := 51) rfl ?_
          refine hg_goto hC dX4_takeWrite_51 (tg := 55) rfl ?_
          exact hg_sub [] rfl (tbC_X4_takeWrite_55 hC hR  (1 : Int32) σ8 hw)
def bC_X4_takeTelling_34 (P : Int32 → hg_M → Prop)  (t0 : Int32) (σ : hg_M) : Prop := ((t0 = 0 ∨ t0 = 1) ∧ P t0 σ)
def bC_X4_takeTelling_33 (P : Int32 → hg_M → Prop)   (σ : hg_M) : Prop := bC_X4_takeTelling_34 P (0 : Int32) σ
def wC_X4_takeTelling (x1 : Int32) (σ : hg_M) (P : Int32 → hg_M → Prop) : Prop := vp_in x1 60 ∧ (∀ σ1 : hg_M, σ1 = hg_set σ 8 (x1).toNatClampNeg (4 : Int32) → wC_X4_takeValue ((2 : Int32) * x1) σ1 (fun r3 σ2 => ((r3 = 0 → bC_X4_takeTelling_33 P σ2) ∧ (¬ r3 = 0 → wC_X4_takeByte (59 : Int32) σ2 (fun r5 σ4 => ((r5 = 0 → bC_X4_takeTelling_33 P σ4) ∧ (¬ r5 = 0 → bC_X4_takeTelling_34 P (1 : Int32) σ4)))))))
set_option maxRecDepth 4000 in
theorem tbC_X4_takeTelling_34 {d : Nat} {E : hg_Et} {X : hg_X} {P : Int32 → hg_M → Prop}  (hC : hg_C hg_FC 2 (d + 4) E cX4_takeTelling RX4 X) (hR : hg_Rni hg_FC (some .boolean) hg_rC P X)  (t0 : Int32) (σ : hg_M) (hw : bC_X4_takeTelling_34 P t0 σ) : hg_G hg_FC 2 X 34 [] [.int t0] σ hg_rC := by
  unfold bC_X4_takeTelling_34 at hw
  exact hg_retz hC hR dX4_takeTelling_34 hw
set_option maxRecDepth 4000 in
theorem tbC_X4_takeTelling_33 {d : Nat} {E : hg_Et} {X : hg_X} {P : Int32 → hg_M → Prop}  (hC : hg_C hg_FC 2 (d + 4) E cX4_takeTelling RX4 X) (hR : hg_Rni hg_FC (some .boolean) hg_rC P X)   (σ : hg_M) (hw : bC_X4_takeTelling_33 P  σ) : hg_G hg_FC 2 X 33 [] [] σ hg_rC := by
  unfold bC_X4_takeTelling_33 at hw
  refine hg_iconst hC dX4_takeTelling_33 hl_i0 (n := 34) rfl ?_
  exact tbC_X4_takeTelling_34 hC hR  (0 : Int32) σ hw
set_option maxRecDepth 4000 in
theorem tC_X4_takeTelling {E : hg_Et} (hE : hg_Eok E) (l : Launch) (d : Nat) (x1 : Int32) (σ : hg_M) (P : Int32 → hg_M → Prop) (hw : wC_X4_takeTelling x1 σ P) : hg_Ni hg_FC E l yX4_takeTelling cX4_takeTelling 2 (some .boolean) (d + 4) (fun ad => [.ref (ad 3), .int x1]) hg_rC σ P := by
  refine hg_ni hE (by decide) (fun _ => Nat.le_of_ble_eq_true rfl) (fun X hC hR hl => ?_)
  subst hl
  have hC : hg_C hg_FC 2 (d + 4) E cX4_takeTelling RX4 X := hC
  show hg_G hg_FC 2 X 0 [(0, .ref (hg_ad X 3)), (1, .int x1)] [] σ hg_rC
  unfold wC_X4_takeTelling at hw
  refine hg_aload_n hC dX4_takeTelling_0 rfl 0 rfl (n := 1) rfl ?_
  refine hg_getr hC fl_RX4_22 dX4_takeTelling_1 qC_3 kC_3 fC_4_2 rC_3_2 (n := 4) rfl ?_
  refine hg_getr hC fl_RX4_91 dX4_takeTelling_4 qC_7 kC_7 fC_3_0 rC_7_0 (n := 7) rfl ?_
  refine hg_iload_n hC dX4_takeTelling_7 rfl 1 rfl (n := 8) rfl ?_
  refine hg_iconst hC dX4_takeTelling_8 hl_i4 (n := 9) rfl ?_
  obtain ⟨h9, hw⟩ := hw
  refine hg_iast hC dX4_takeTelling_9 qC_8 kC_8 h9 (n := 10) rfl (fun σ1 eσ1 => ?_)
  have hw := hw σ1 eσ1
  refine hg_aload_n hC dX4_takeTelling_10 rfl 0 rfl (n := 11) rfl ?_
  refine hg_iconst hC dX4_takeTelling_11 hl_i2 (n := 12) rfl ?_
  refine hg_iload_n hC dX4_takeTelling_12 rfl 1 rfl (n := 13) rfl ?_
  refine hg_imul hC dX4_takeTelling_13 (n := 14) rfl ?_
  refine hg_cVi hC (tC_X4_takeValue (hg_Eof hC) X.2.1 (d + 0) _ _ _ hw) sv_RX4_94 dX4_takeTelling_14 qC_3 kC_3 c_4 rfl (rest := []) rfl (Nat.le_of_ble_eq_true rfl) (n := 17) rfl (fun r3 σ2 hw => ?_)
  refine hg_if_eq hC dX4_takeTelling_17 (tg := 33) rfl (n := 20) rfl (fun h9 => ?_) (fun h9 => ?_)
  · have hw := hw.1 h9
    exact hg_sub [] rfl (tbC_X4_takeTelling_33 hC hR  σ2 hw)
  · have hw := hw.2 h9
    refine hg_aload_n hC dX4_takeTelling_20 rfl 0 rfl (n := 21) rfl ?_
    refine hg_bipush hC dX4_takeTelling_21 hl_b59 (n := 23) rfl ?_
    refine hg_cVi hC (tC_X4_takeByte (hg_Eof hC) X.2.1 (d + 1) _ _ _ hw) sv_RX4_97 dX4_takeTelling_23 qC_3 kC_3 c_4 rfl (rest := []) rfl (Nat.le_of_ble_eq_true rfl) (n := 26) rfl (fun r5 σ4 hw => ?_)
    refine hg_if_eq hC dX4_takeTelling_26 (tg := 33) rfl (n := 29) rfl (fun h9 => ?_) (fun h9 => ?_)
    · have hw := hw.1 h9
      exact hg_sub [] rfl (tbC_X4_takeTelling_33 hC hR  σ4 hw)
    · have hw := hw.2 h9
      refine hg_iconst hC dX4_takeTelling_29 hl_i1 (n := 30) rfl ?_
      refine hg_goto hC dX4_takeTelling_30 (tg := 34) rfl ?_
      exact hg_sub [] rfl (tbC_X4_takeTelling_34 hC hR  (1 : Int32) σ4 hw)
def bC_X4_takeBranch_87 (P : Int32 → hg_M → Prop)   (σ : hg_M) : Prop := (((0 : Int32) = 0 ∨ (0 : Int32) = 1) ∧ P (0 : Int32) σ)
def wC_X4_takeBranch (x1 : Int32) (σ : hg_M) (P : Int32 → hg_M → Prop) : Prop := vp_in x1 60 ∧ (∀ σ1 : hg_M, σ1 = hg_set σ 8 (x1).toNatClampNeg (5 : Int32) → wC_X4_takeValue ((2 : Int32) * x1) σ1 (fun r3 σ2 => ((r3 ≠ 0 → wC_X4_nextByte σ2 (fun r5 σ4 => wC_X4_placeIn 1 r5 σ4 (fun r7 σ6 => ((r7 ≠ (-1 : Int32) → ∀ σ8 : hg_M, σ8 = hg_set σ6 3 6 ((σ6 3 6) + (1 : Int32)) → vp_in x1 60 ∧ (∀ σ9 : hg_M, σ9 = hg_set σ8 11 (x1).toNatClampNeg ((10 : Int32) + r7) → wC_X4_takeValue (((2 : Int32) * x1) + (1 : Int32)) σ9 (fun r11 σ10 => ((r11 = 0 → bC_X4_takeBranch_87 P σ10) ∧ (¬ r11 = 0 → wC_X4_takeByte (123 : Int32) σ10 (fun r13 σ12 => ((r13 ≠ 0 → vp_in (σ12 3 5) 6 ∧ (∀ σ14 : hg_M, σ14 = hg_set σ12 5 ((σ12 3 5)).toNatClampNeg x1 → vp_in (σ14 3 5) 6 ∧ (∀ σ15 : hg_M, σ15 = hg_set σ14 6 ((σ14 3 5)).toNatClampNeg (vp_nar .boolean (0 : Int32)) → ∀ σ16 : hg_M, σ16 = hg_set σ15 3 5 ((σ15 3 5) + (1 : Int32)) → (((1 : Int32) = 0 ∨ (1 : Int32) = 1) ∧ P (1 : Int32) σ16)))) ∧ (r13 = 0 → bC_X4_takeBranch_87 P σ12)))))))) ∧ (r7 = (-1 : Int32) → wC_X4_refuse (1 : Int32) σ6 (fun r18 σ17 => ((r18 = 0 ∨ r18 = 1) ∧ P r18 σ17))))))) ∧ (r3 = 0 → (((0 : Int32) = 0 ∨ (0 : Int32) = 1) ∧ P (0 : Int32) σ2)))))
set_option maxRecDepth 4000 in
theorem tbC_X4_takeBranch_87 {d : Nat} {E : hg_Et} {X : hg_X} {P : Int32 → hg_M → Prop}  (hC : hg_C hg_FC 3 (d + 6) E cX4_takeBranch RX4 X) (hR : hg_Rni hg_FC (some .boolean) hg_rC P X)   (σ : hg_M) (hw : bC_X4_takeBranch_87 P  σ) : hg_G hg_FC 3 X 87 [] [] σ hg_rC := by
  unfold bC_X4_takeBranch_87 at hw
  refine hg_iconst hC dX4_takeBranch_87 hl_i0 (n := 88) rfl ?_
  exact hg_retz hC hR dX4_takeBranch_88 hw
set_option maxRecDepth 4000 in
theorem tC_X4_takeBranch {E : hg_Et} (hE : hg_Eok E) (l : Launch) (d : Nat) (x1 : Int32) (σ : hg_M) (P : Int32 → hg_M → Prop) (hw : wC_X4_takeBranch x1 σ P) : hg_Ni hg_FC E l yX4_takeBranch cX4_takeBranch 3 (some .boolean) (d + 6) (fun ad => [.ref (ad 3), .int x1]) hg_rC σ P := by
  refine hg_ni hE (by decide) (fun _ => Nat.le_of_ble_eq_true rfl) (fun X hC hR hl => ?_)
  subst hl
  have hC : hg_C hg_FC 3 (d + 6) E cX4_takeBranch RX4 X := hC
  show hg_G hg_FC 3 X 0 [(0, .ref (hg_ad X 3)), (1, .int x1)] [] σ hg_rC
  unfold wC_X4_takeBranch at hw
  refine hg_aload_n hC dX4_takeBranch_0 rfl 0 rfl (n := 1) rfl ?_
  refine hg_getr hC fl_RX4_22 dX4_takeBranch_1 qC_3 kC_3 fC_4_2 rC_3_2 (n := 4) rfl ?_
  refine hg_getr hC fl_RX4_91 dX4_takeBranch_4 qC_7 kC_7 fC_3_0 rC_7_0 (n := 7) rfl ?_
  refine hg_iload_n hC dX4_takeBranch_7 rfl 1 rfl (n := 8) rfl ?_
  refine hg_iconst hC dX4_takeBranch_8 hl_i5 (n := 9) rfl ?_
  obtain ⟨h9, hw⟩ := hw
  refine hg_iast hC dX4_takeBranch_9 qC_8 kC_8 h9 (n := 10) rfl (fun σ1 eσ1 => ?_)
  have hw := hw σ1 eσ1
  refine hg_aload_n hC dX4_takeBranch_10 rfl 0 rfl (n := 11) rfl ?_
  refine hg_iconst hC dX4_takeBranch_11 hl_i2 (n := 12) rfl ?_
  refine hg_iload_n hC dX4_takeBranch_12 rfl 1 rfl (n := 13) rfl ?_
  refine hg_imul hC dX4_takeBranch_13 (n := 14) rfl ?_
  refine hg_cVi hC (tC_X4_takeValue (hg_Eof hC) X.2.1 (d + 2) _ _ _ hw) sv_RX4_94 dX4_takeBranch_14 qC_3 kC_3 c_4 rfl (rest := []) rfl (Nat.le_of_ble_eq_true rfl) (n := 17) rfl (fun r3 σ2 hw => ?_)
  refine hg_if_ne hC dX4_takeBranch_17 (tg := 22) rfl (n := 20) rfl (fun h9 => ?_) (fun h9 => ?_)
  · have hw := hw.1 h9
    obtain ⟨z9, hz9⟩ := (hg_Eof hC).2.2.2.2
    refine hg_ldS hC (fun A U H h => (hz9 A U H h).2.2.2.2.2.2) dX4_takeBranch_22 (n := 24) rfl ?_
    refine hg_aload_n hC dX4_takeBranch_24 rfl 0 rfl (n := 25) rfl ?_
    refine hg_cVi hC (tC_X4_nextByte (hg_Eof hC) X.2.1 (d + 4) _ _ hw) sv_RX4_48 dX4_takeBranch_25 qC_3 kC_3 c_4 rfl (rest := [.ref (z9.2.2.1 1)]) rfl (Nat.le_of_ble_eq_true rfl) (n := 28) rfl (fun r5 σ4 hw => ?_)
    refine hg_cSi hC (tC_X4_placeIn (hg_Eof hC) X.2.1 (d + 0) (fun A U H h => (hz9 A U H h).2.2.2.2.1 1 (by decide)) _ _ _ hw) ss_RX4_102 dX4_takeBranch_28 rfl (rest := []) rfl (Nat.le_of_ble_eq_true rfl) (n := 31) rfl (fun r7 σ6 hw => ?_)
    refine hg_istore_n hC (L1 := [(2, .int r7), (0, .ref (hg_ad X 3)), (1, .int x1)]) dX4_takeBranch_31 rfl (by decide) rfl (n := 32) rfl ?_
    refine hg_iload_n hC dX4_takeBranch_32 rfl 0 rfl (n := 33) rfl ?_
    refine hg_iconst hC dX4_takeBranch_33 hl_im1 (n := 34) rfl ?_
    refine hg_icmp_ne hC dX4_takeBranch_34 (tg := 43) rfl (n := 37) rfl (fun h9 => ?_) (fun h9 => ?_)
    · have hw := hw.1 h9
      refine hg_aload_n hC dX4_takeBranch_43 rfl 1 rfl (n := 44) rfl ?_
      refine hg_dup hC dX4_takeBranch_44 rfl (n := 45) rfl ?_
      refine hg_geti hC fl_RX4_36 dX4_takeBranch_45 qC_3 kC_3 fC_4_6 (n := 48) rfl ?_
      refine hg_iconst hC dX4_takeBranch_48 hl_i1 (n := 49) rfl ?_
      refine hg_iadd hC dX4_takeBranch_49 (n := 50) rfl ?_
      refine hg_puti hC fp_RX4_36 dX4_takeBranch_50 qC_3 kC_3 fC_4_6 rfl rfl (n := 53) rfl (fun σ8 eσ8 => ?_)
      have hw := hw σ8 eσ8
      refine hg_aload_n hC dX4_takeBranch_53 rfl 1 rfl (n := 54) rfl ?_
      refine hg_getr hC fl_RX4_22 dX4_takeBranch_54 qC_3 kC_3 fC_4_2 rC_3_2 (n := 57) rfl ?_
      refine hg_getr hC fl_RX4_106 dX4_takeBranch_57 qC_7 kC_7 fC_3_3 rC_7_3 (n := 60) rfl ?_
      refine hg_iload_n hC dX4_takeBranch_60 rfl 2 rfl (n := 61) rfl ?_
      refine hg_bipush hC dX4_takeBranch_61 hl_b10 (n := 63) rfl ?_
      refine hg_iload_n hC dX4_takeBranch_63 rfl 0 rfl (n := 64) rfl ?_
      refine hg_iadd hC dX4_takeBranch_64 (n := 65) rfl ?_
      obtain ⟨h9, hw⟩ := hw
      refine hg_iast hC dX4_takeBranch_65 qC_11 kC_11 h9 (n := 66) rfl (fun σ9 eσ9 => ?_)
      have hw := hw σ9 eσ9
      refine hg_aload_n hC dX4_takeBranch_66 rfl 1 rfl (n := 67) rfl ?_
      refine hg_iconst hC dX4_takeBranch_67 hl_i2 (n := 68) rfl ?_
      refine hg_iload_n hC dX4_takeBranch_68 rfl 2 rfl (n := 69) rfl ?_
      refine hg_imul hC dX4_takeBranch_69 (n := 70) rfl ?_
      refine hg_iconst hC dX4_takeBranch_70 hl_i1 (n := 71) rfl ?_
      refine hg_iadd hC dX4_takeBranch_71 (n := 72) rfl ?_
      refine hg_cVi hC (tC_X4_takeValue (hg_Eof hC) X.2.1 (d + 2) _ _ _ hw) sv_RX4_94 dX4_takeBranch_72 qC_3 kC_3 c_4 rfl (rest := []) rfl (Nat.le_of_ble_eq_true rfl) (n := 75) rfl (fun r11 σ10 hw => ?_)
      refine hg_if_eq hC dX4_takeBranch_75 (tg := 87) rfl (n := 78) rfl (fun h9 => ?_) (fun h9 => ?_)
      · have hw := hw.1 h9
        exact hg_sub [] rfl (tbC_X4_takeBranch_87 hC hR  σ10 hw)
      · have hw := hw.2 h9
        refine hg_aload_n hC dX4_takeBranch_78 rfl 1 rfl (n := 79) rfl ?_
        refine hg_bipush hC dX4_takeBranch_79 hl_b123 (n := 81) rfl ?_
        refine hg_cVi hC (tC_X4_takeByte (hg_Eof hC) X.2.1 (d + 3) _ _ _ hw) sv_RX4_97 dX4_takeBranch_81 qC_3 kC_3 c_4 rfl (rest := []) rfl (Nat.le_of_ble_eq_true rfl) (n := 84) rfl (fun r13 σ12 hw => ?_)
        refine hg_if_ne hC dX4_takeBranch_84 (tg := 89) rfl (n := 87) rfl (fun h9 => ?_) (fun h9 => ?_)
        · have hw := hw.1 h9
          refine hg_aload_n hC dX4_takeBranch_89 rfl 1 rfl (n := 90) rfl ?_
          refine hg_getr hC fl_RX4_26 dX4_takeBranch_90 qC_3 kC_3 fC_4_3 rC_3_3 (n := 93) rfl ?_
          refine hg_aload_n hC dX4_takeBranch_93 rfl 1 rfl (n := 94) rfl ?_
          refine hg_geti hC fl_RX4_33 dX4_takeBranch_94 qC_3 kC_3 fC_4_5 (n := 97) rfl ?_
          refine hg_iload_n hC dX4_takeBranch_97 rfl 2 rfl (n := 98) rfl ?_
          obtain ⟨h9, hw⟩ := hw
          refine hg_iast hC dX4_takeBranch_98 qC_5 kC_5 h9 (n := 99) rfl (fun σ14 eσ14 => ?_)
          have hw := hw σ14 eσ14
          refine hg_aload_n hC dX4_takeBranch_99 rfl 1 rfl (n := 100) rfl ?_
          refine hg_getr hC fl_RX4_29 dX4_takeBranch_100 qC_3 kC_3 fC_4_4 rC_3_4 (n := 103) rfl ?_
          refine hg_aload_n hC dX4_takeBranch_103 rfl 1 rfl (n := 104) rfl ?_
          refine hg_geti hC fl_RX4_33 dX4_takeBranch_104 qC_3 kC_3 fC_4_5 (n := 107) rfl ?_
          refine hg_iconst hC dX4_takeBranch_107 hl_i0 (n := 108) rfl ?_
          obtain ⟨h9, hw⟩ := hw
          refine hg_zast hC dX4_takeBranch_108 qC_6 kC_6 h9 (n := 109) rfl (fun σ15 eσ15 => ?_)
          have hw := hw σ15 eσ15
          refine hg_aload_n hC dX4_takeBranch_109 rfl 1 rfl (n := 110) rfl ?_
          refine hg_dup hC dX4_takeBranch_110 rfl (n := 111) rfl ?_
          refine hg_geti hC fl_RX4_33 dX4_takeBranch_111 qC_3 kC_3 fC_4_5 (n := 114) rfl ?_
          refine hg_iconst hC dX4_takeBranch_114 hl_i1 (n := 115) rfl ?_
          refine hg_iadd hC dX4_takeBranch_115 (n := 116) rfl ?_
          refine hg_puti hC fp_RX4_33 dX4_takeBranch_116 qC_3 kC_3 fC_4_5 rfl rfl (n := 119) rfl (fun σ16 eσ16 => ?_)
          have hw := hw σ16 eσ16
          refine hg_iconst hC dX4_takeBranch_119 hl_i1 (n := 120) rfl ?_
          exact hg_retz hC hR dX4_takeBranch_120 hw
        · have hw := hw.2 h9
          exact hg_sub [] rfl (tbC_X4_takeBranch_87 hC hR  σ12 hw)
    · have hw := hw.2 h9
      refine hg_aload_n hC dX4_takeBranch_37 rfl 1 rfl (n := 38) rfl ?_
      refine hg_iconst hC dX4_takeBranch_38 hl_i1 (n := 39) rfl ?_
      refine hg_cVi hC (tC_X4_refuse (hg_Eof hC) X.2.1 (d + 4) _ _ _ hw) sv_RX4_52 dX4_takeBranch_39 qC_3 kC_3 c_4 rfl (rest := []) rfl (Nat.le_of_ble_eq_true rfl) (n := 42) rfl (fun r18 σ17 hw => ?_)
      exact hg_retz hC hR dX4_takeBranch_42 hw
  · have hw := hw.2 h9
    refine hg_iconst hC dX4_takeBranch_20 hl_i0 (n := 21) rfl ?_
    exact hg_retz hC hR dX4_takeBranch_21 hw
def bC_X4_takeSetting_157 (P : Int32 → hg_M → Prop)  (t0 : Int32) (σ : hg_M) : Prop := ((t0 = 0 ∨ t0 = 1) ∧ P t0 σ)
def bC_X4_takeSetting_156 (P : Int32 → hg_M → Prop)   (σ : hg_M) : Prop := bC_X4_takeSetting_157 P (0 : Int32) σ
def bC_X4_takeSetting_64 (P : Int32 → hg_M → Prop)  (t0 : Int32) (σ : hg_M) : Prop := ((t0 = 0 ∨ t0 = 1) ∧ P t0 σ)
def bC_X4_takeSetting_63 (P : Int32 → hg_M → Prop)   (σ : hg_M) : Prop := bC_X4_takeSetting_64 P (0 : Int32) σ
def wC_X4_takeSetting (x1 : Int32) (σ : hg_M) (P : Int32 → hg_M → Prop) : Prop := wC_X4_takeByte (61 : Int32) σ (fun r2 σ1 => ((r2 ≠ 0 → wC_X4_nextByte σ1 (fun r4 σ3 => ((r4 ≠ (64 : Int32) → wC_X4_takeValue ((2 : Int32) * x1) σ3 (fun r6 σ5 => ((r6 ≠ 0 → wC_X4_nextByte σ5 (fun r8 σ7 => wC_X4_placeIn 0 r8 σ7 (fun r10 σ9 => ((r10 ≠ (-1 : Int32) → ∀ σ11 : hg_M, σ11 = hg_set σ9 3 6 ((σ9 3 6) + (1 : Int32)) → vp_in x1 60 ∧ (∀ σ12 : hg_M, σ12 = hg_set σ11 8 (x1).toNatClampNeg (1 : Int32) → vp_in x1 60 ∧ (∀ σ13 : hg_M, σ13 = hg_set σ12 11 (x1).toNatClampNeg ((2 : Int32) + r10) → wC_X4_takeValue (((2 : Int32) * x1) + (1 : Int32)) σ13 (fun r15 σ14 => ((r15 = 0 → bC_X4_takeSetting_156 P σ14) ∧ (¬ r15 = 0 → wC_X4_takeByte (59 : Int32) σ14 (fun r17 σ16 => ((r17 = 0 → bC_X4_takeSetting_156 P σ16) ∧ (¬ r17 = 0 → bC_X4_takeSetting_157 P (1 : Int32) σ16))))))))) ∧ (r10 = (-1 : Int32) → wC_X4_takeByte (59 : Int32) σ9 (fun r19 σ18 => ((r19 = 0 ∨ r19 = 1) ∧ P r19 σ18))))))) ∧ (r6 = 0 → (((0 : Int32) = 0 ∨ (0 : Int32) = 1) ∧ P (0 : Int32) σ5))))) ∧ (r4 = (64 : Int32) → ∀ σ20 : hg_M, σ20 = hg_set σ3 3 6 ((σ3 3 6) + (1 : Int32)) → vp_in x1 60 ∧ (∀ σ21 : hg_M, σ21 = hg_set σ20 8 (x1).toNatClampNeg (2 : Int32) → wC_X4_takeValue ((2 : Int32) * x1) σ21 (fun r23 σ22 => ((r23 = 0 → bC_X4_takeSetting_63 P σ22) ∧ (¬ r23 = 0 → wC_X4_takeByte (59 : Int32) σ22 (fun r25 σ24 => ((r25 = 0 → bC_X4_takeSetting_63 P σ24) ∧ (¬ r25 = 0 → bC_X4_takeSetting_64 P (1 : Int32) σ24))))))))))) ∧ (r2 = 0 → (((0 : Int32) = 0 ∨ (0 : Int32) = 1) ∧ P (0 : Int32) σ1))))
set_option maxRecDepth 4000 in
theorem tbC_X4_takeSetting_157 {d : Nat} {E : hg_Et} {X : hg_X} {P : Int32 → hg_M → Prop}  (hC : hg_C hg_FC 3 (d + 6) E cX4_takeSetting RX4 X) (hR : hg_Rni hg_FC (some .boolean) hg_rC P X)  (t0 : Int32) (σ : hg_M) (hw : bC_X4_takeSetting_157 P t0 σ) : hg_G hg_FC 3 X 157 [] [.int t0] σ hg_rC := by
  unfold bC_X4_takeSetting_157 at hw
  exact hg_retz hC hR dX4_takeSetting_157 hw
set_option maxRecDepth 4000 in
theorem tbC_X4_takeSetting_156 {d : Nat} {E : hg_Et} {X : hg_X} {P : Int32 → hg_M → Prop}  (hC : hg_C hg_FC 3 (d + 6) E cX4_takeSetting RX4 X) (hR : hg_Rni hg_FC (some .boolean) hg_rC P X)   (σ : hg_M) (hw : bC_X4_takeSetting_156 P  σ) : hg_G hg_FC 3 X 156 [] [] σ hg_rC := by
  unfold bC_X4_takeSetting_156 at hw
  refine hg_iconst hC dX4_takeSetting_156 hl_i0 (n := 157) rfl ?_
  exact tbC_X4_takeSetting_157 hC hR  (0 : Int32) σ hw
set_option maxRecDepth 4000 in
theorem tbC_X4_takeSetting_64 {d : Nat} {E : hg_Et} {X : hg_X} {P : Int32 → hg_M → Prop}  (hC : hg_C hg_FC 3 (d + 6) E cX4_takeSetting RX4 X) (hR : hg_Rni hg_FC (some .boolean) hg_rC P X)  (t0 : Int32) (σ : hg_M) (hw : bC_X4_takeSetting_64 P t0 σ) : hg_G hg_FC 3 X 64 [] [.int t0] σ hg_rC := by
  unfold bC_X4_takeSetting_64 at hw
  exact hg_retz hC hR dX4_takeSetting_64 hw
set_option maxRecDepth 4000 in
theorem tbC_X4_takeSetting_63 {d : Nat} {E : hg_Et} {X : hg_X} {P : Int32 → hg_M → Prop}  (hC : hg_C hg_FC 3 (d + 6) E cX4_takeSetting RX4 X) (hR : hg_Rni hg_FC (some .boolean) hg_rC P X)   (σ : hg_M) (hw : bC_X4_takeSetting_63 P  σ) : hg_G hg_FC 3 X 63 [] [] σ hg_rC := by
  unfold bC_X4_takeSetting_63 at hw
  refine hg_iconst hC dX4_takeSetting_63 hl_i0 (n := 64) rfl ?_
  exact tbC_X4_takeSetting_64 hC hR  (0 : Int32) σ hw
set_option maxRecDepth 4000 in
theorem tC_X4_takeSetting {E : hg_Et} (hE : hg_Eok E) (l : Launch) (d : Nat) (x1 : Int32) (σ : hg_M) (P : Int32 → hg_M → Prop) (hw : wC_X4_takeSetting x1 σ P) : hg_Ni hg_FC E l yX4_takeSetting cX4_takeSetting 3 (some .boolean) (d + 6) (fun ad => [.ref (ad 3), .int x1]) hg_rC σ P := by
  refine hg_ni hE (by decide) (fun _ => Nat.le_of_ble_eq_true rfl) (fun X hC hR hl => ?_)
  subst hl
  have hC : hg_C hg_FC 3 (d + 6) E cX4_takeSetting RX4 X := hC
  show hg_G hg_FC 3 X 0 [(0, .ref (hg_ad X 3)), (1, .int x1)] [] σ hg_rC
  unfold wC_X4_takeSetting at hw
  refine hg_aload_n hC dX4_takeSetting_0 rfl 0 rfl (n := 1) rfl ?_
  refine hg_bipush hC dX4_takeSetting_1 hl_b61 (n := 3) rfl ?_
  refine hg_cVi hC (tC_X4_takeByte (hg_Eof hC) X.2.1 (d + 3) _ _ _ hw) sv_RX4_97 dX4_takeSetting_3 qC_3 kC_3 c_4 rfl (rest := []) rfl (Nat.le_of_ble_eq_true rfl) (n := 6) rfl (fun r2 σ1 hw => ?_)
  refine hg_if_ne hC dX4_takeSetting_6 (tg := 11) rfl (n := 9) rfl (fun h9 => ?_) (fun h9 => ?_)
  · have hw := hw.1 h9
    refine hg_aload_n hC dX4_takeSetting_11 rfl 0 rfl (n := 12) rfl ?_
    refine hg_cVi hC (tC_X4_nextByte (hg_Eof hC) X.2.1 (d + 4) _ _ hw) sv_RX4_48 dX4_takeSetting_12 qC_3 kC_3 c_4 rfl (rest := []) rfl (Nat.le_of_ble_eq_true rfl) (n := 15) rfl (fun r4 σ3 hw => ?_)
    refine hg_bipush hC dX4_takeSetting_15 hl_b64 (n := 17) rfl ?_
    refine hg_icmp_ne hC dX4_takeSetting_17 (tg := 65) rfl (n := 20) rfl (fun h9 => ?_) (fun h9 => ?_)
    · have hw := hw.1 h9
      refine hg_aload_n hC dX4_takeSetting_65 rfl 0 rfl (n := 66) rfl ?_
      refine hg_iconst hC dX4_takeSetting_66 hl_i2 (n := 67) rfl ?_
      refine hg_iload_n hC dX4_takeSetting_67 rfl 1 rfl (n := 68) rfl ?_
      refine hg_imul hC dX4_takeSetting_68 (n := 69) rfl ?_
      refine hg_cVi hC (tC_X4_takeValue (hg_Eof hC) X.2.1 (d + 2) _ _ _ hw) sv_RX4_94 dX4_takeSetting_69 qC_3 kC_3 c_4 rfl (rest := []) rfl (Nat.le_of_ble_eq_true rfl) (n := 72) rfl (fun r6 σ5 hw => ?_)
      refine hg_if_ne hC dX4_takeSetting_72 (tg := 77) rfl (n := 75) rfl (fun h9 => ?_) (fun h9 => ?_)
      · have hw := hw.1 h9
        obtain ⟨z9, hz9⟩ := (hg_Eof hC).2.2.2.2
        refine hg_ldS hC (fun A U H h => (hz9 A U H h).2.2.2.2.2.1) dX4_takeSetting_77 (n := 79) rfl ?_
        refine hg_aload_n hC dX4_takeSetting_79 rfl 0 rfl (n := 80) rfl ?_
        refine hg_cVi hC (tC_X4_nextByte (hg_Eof hC) X.2.1 (d + 4) _ _ hw) sv_RX4_48 dX4_takeSetting_80 qC_3 kC_3 c_4 rfl (rest := [.ref (z9.2.2.1 0)]) rfl (Nat.le_of_ble_eq_true rfl) (n := 83) rfl (fun r8 σ7 hw => ?_)
        refine hg_cSi hC (tC_X4_placeIn (hg_Eof hC) X.2.1 (d + 0) (fun A U H h => (hz9 A U H h).2.2.2.2.1 0 (by decide)) _ _ _ hw) ss_RX4_102 dX4_takeSetting_83 rfl (rest := []) rfl (Nat.le_of_ble_eq_true rfl) (n := 86) rfl (fun r10 σ9 hw => ?_)
        refine hg_istore_n hC (L1 := [(2, .int r10), (0, .ref (hg_ad X 3)), (1, .int x1)]) dX4_takeSetting_86 rfl (by decide) rfl (n := 87) rfl ?_
        refine hg_iload_n hC dX4_takeSetting_87 rfl 0 rfl (n := 88) rfl ?_
        refine hg_iconst hC dX4_takeSetting_88 hl_im1 (n := 89) rfl ?_
        refine hg_icmp_ne hC dX4_takeSetting_89 (tg := 99) rfl (n := 92) rfl (fun h9 => ?_) (fun h9 => ?_)
        · have hw := hw.1 h9
          refine hg_aload_n hC dX4_takeSetting_99 rfl 1 rfl (n := 100) rfl ?_
          refine hg_dup hC dX4_takeSetting_100 rfl (n := 101) rfl ?_
          refine hg_geti hC fl_RX4_36 dX4_takeSetting_101 qC_3 kC_3 fC_4_6 (n := 104) rfl ?_
          refine hg_iconst hC dX4_takeSetting_104 hl_i1 (n := 105) rfl ?_
          refine hg_iadd hC dX4_takeSetting_105 (n := 106) rfl ?_
          refine hg_puti hC fp_RX4_36 dX4_takeSetting_106 qC_3 kC_3 fC_4_6 rfl rfl (n := 109) rfl (fun σ11 eσ11 => ?_)
          have hw := hw σ11 eσ11
          refine hg_aload_n hC dX4_takeSetting_109 rfl 1 rfl (n := 110) rfl ?_
          refine hg_getr hC fl_RX4_22 dX4_takeSetting_110 qC_3 kC_3 fC_4_2 rC_3_2 (n := 113) rfl ?_
          refine hg_getr hC fl_RX4_91 dX4_takeSetting_113 qC_7 kC_7 fC_3_0 rC_7_0 (n := 116) rfl ?_
          refine hg_iload_n hC dX4_takeSetting_116 rfl 2 rfl (n := 117) rfl ?_
          refine hg_iconst hC dX4_takeSetting_117 hl_i1 (n := 118) rfl ?_
          obtain ⟨h9, hw⟩ := hw
          refine hg_iast hC dX4_takeSetting_118 qC_8 kC_8 h9 (n := 119) rfl (fun σ12 eσ12 => ?_)
          have hw := hw σ12 eσ12
          refine hg_aload_n hC dX4_takeSetting_119 rfl 1 rfl (n := 120) rfl ?_
          refine hg_getr hC fl_RX4_22 dX4_takeSetting_120 qC_3 kC_3 fC_4_2 rC_3_2 (n := 123) rfl ?_
          refine hg_getr hC fl_RX4_106 dX4_takeSetting_123 qC_7 kC_7 fC_3_3 rC_7_3 (n := 126) rfl ?_
          refine hg_iload_n hC dX4_takeSetting_126 rfl 2 rfl (n := 127) rfl ?_
          refine hg_iconst hC dX4_takeSetting_127 hl_i2 (n := 128) rfl ?_
          refine hg_iload_n hC dX4_takeSetting_128 rfl 0 rfl (n := 129) rfl ?_
          refine hg_iadd hC dX4_takeSetting_129 (n := 130) rfl ?_
          obtain ⟨h9, hw⟩ := hw
          refine hg_iast hC dX4_takeSetting_130 qC_11 kC_11 h9 (n := 131) rfl (fun σ13 eσ13 => ?_)
          have hw := hw σ13 eσ13
          refine hg_aload_n hC dX4_takeSetting_131 rfl 1 rfl (n := 132) rfl ?_
          refine hg_iconst hC dX4_takeSetting_132 hl_i2 (n := 133) rfl ?_
          refine hg_iload_n hC dX4_takeSetting_133 rfl 2 rfl (n := 134) rfl ?_
          refine hg_imul hC dX4_takeSetting_134 (n := 135) rfl ?_
          refine hg_iconst hC dX4_takeSetting_135 hl_i1 (n := 136) rfl ?_
          refine hg_iadd hC dX4_takeSetting_136 (n := 137) rfl ?_
          refine hg_cVi hC (tC_X4_takeValue (hg_Eof hC) X.2.1 (d + 2) _ _ _ hw) sv_RX4_94 dX4_takeSetting_137 qC_3 kC_3 c_4 rfl (rest := []) rfl (Nat.le_of_ble_eq_true rfl) (n := 140) rfl (fun r15 σ14 hw => ?_)
          refine hg_if_eq hC dX4_takeSetting_140 (tg := 156) rfl (n := 143) rfl (fun h9 => ?_) (fun h9 => ?_)
          · have hw := hw.1 h9
            exact hg_sub [] rfl (tbC_X4_takeSetting_156 hC hR  σ14 hw)
          · have hw := hw.2 h9
            refine hg_aload_n hC dX4_takeSetting_143 rfl 1 rfl (n := 144) rfl ?_
            refine hg_bipush hC dX4_takeSetting_144 hl_b59 (n := 146) rfl ?_
            refine hg_cVi hC (tC_X4_takeByte (hg_Eof hC) X.2.1 (d + 3) _ _ _ hw) sv_RX4_97 dX4_takeSetting_146 qC_3 kC_3 c_4 rfl (rest := []) rfl (Nat.le_of_ble_eq_true rfl) (n := 149) rfl (fun r17 σ16 hw => ?_)
            refine hg_if_eq hC dX4_takeSetting_149 (tg := 156) rfl (n := 152) rfl (fun h9 => ?_) (fun h9 => ?_)
            · have hw := hw.1 h9
              exact hg_sub [] rfl (tbC_X4_takeSetting_156 hC hR  σ16 hw)
            · have hw := hw.2 h9
              refine hg_iconst hC dX4_takeSetting_152 hl_i1 (n := 153) rfl ?_
              refine hg_goto hC dX4_takeSetting_153 (tg := 157) rfl ?_
              exact hg_sub [] rfl (tbC_X4_takeSetting_157 hC hR  (1 : Int32) σ16 hw)
        · have hw := hw.2 h9
          refine hg_aload_n hC dX4_takeSetting_92 rfl 1 rfl (n := 93) rfl ?_
          refine hg_bipush hC dX4_takeSetting_93 hl_b59 (n := 95) rfl ?_
          refine hg_cVi hC (tC_X4_takeByte (hg_Eof hC) X.2.1 (d + 3) _ _ _ hw) sv_RX4_97 dX4_takeSetting_95 qC_3 kC_3 c_4 rfl (rest := []) rfl (Nat.le_of_ble_eq_true rfl) (n := 98) rfl (fun r19 σ18 hw => ?_)
          exact hg_retz hC hR dX4_takeSetting_98 hw
      · have hw := hw.2 h9
        refine hg_iconst hC dX4_takeSetting_75 hl_i0 (n := 76) rfl ?_
        exact hg_retz hC hR dX4_takeSetting_76 hw
    · have hw := hw.2 h9
      refine hg_aload_n hC dX4_takeSetting_20 rfl 0 rfl (n := 21) rfl ?_
      refine hg_dup hC dX4_takeSetting_21 rfl (n := 22) rfl ?_
      refine hg_geti hC fl_RX4_36 dX4_takeSetting_22 qC_3 kC_3 fC_4_6 (n := 25) rfl ?_
      refine hg_iconst hC dX4_takeSetting_25 hl_i1 (n := 26) rfl ?_
      refine hg_iadd hC dX4_takeSetting_26 (n := 27) rfl ?_
      refine hg_puti hC fp_RX4_36 dX4_takeSetting_27 qC_3 kC_3 fC_4_6 rfl rfl (n := 30) rfl (fun σ20 eσ20 => ?_)
      have hw := hw σ20 eσ20
      refine hg_aload_n hC dX4_takeSetting_30 rfl 0 rfl (n := 31) rfl ?_
      refine hg_getr hC fl_RX4_22 dX4_takeSetting_31 qC_3 kC_3 fC_4_2 rC_3_2 (n := 34) rfl ?_
      refine hg_getr hC fl_RX4_91 dX4_takeSetting_34 qC_7 kC_7 fC_3_0 rC_7_0 (n := 37) rfl ?_
      refine hg_iload_n hC dX4_takeSetting_37 rfl 1 rfl (n := 38) rfl ?_
      refine hg_iconst hC dX4_takeSetting_38 hl_i2 (n := 39) rfl ?_
      obtain ⟨h9, hw⟩ := hw
      refine hg_iast hC dX4_takeSetting_39 qC_8 kC_8 h9 (n := 40) rfl (fun σ21 eσ21 => ?_)
      have hw := hw σ21 eσ21
      refine hg_aload_n hC dX4_takeSetting_40 rfl 0 rfl (n := 41) rfl ?_
      refine hg_iconst hC dX4_takeSetting_41 hl_i2 (n := 42) rfl ?_
      refine hg_iload_n hC dX4_takeSetting_42 rfl 1 rfl (n := 43) rfl ?_
      refine hg_imul hC dX4_takeSetting_43 (n := 44) rfl ?_
      refine hg_cVi hC (tC_X4_takeValue (hg_Eof hC) X.2.1 (d + 2) _ _ _ hw) sv_RX4_94 dX4_takeSetting_44 qC_3 kC_3 c_4 rfl (rest := []) rfl (Nat.le_of_ble_eq_true rfl) (n := 47) rfl (fun r23 σ22 hw => ?_)
      refine hg_if_eq hC dX4_takeSetting_47 (tg := 63) rfl (n := 50) rfl (fun h9 => ?_) (fun h9 => ?_)
      · have hw := hw.1 h9
        exact hg_sub [] rfl (tbC_X4_takeSetting_63 hC hR  σ22 hw)
      · have hw := hw.2 h9
        refine hg_aload_n hC dX4_takeSetting_50 rfl 0 rfl (n := 51) rfl ?_
        refine hg_bipush hC dX4_takeSetting_51 hl_b59 (n := 53) rfl ?_
        refine hg_cVi hC (tC_X4_takeByte (hg_Eof hC) X.2.1 (d + 3) _ _ _ hw) sv_RX4_97 dX4_takeSetting_53 qC_3 kC_3 c_4 rfl (rest := []) rfl (Nat.le_of_ble_eq_true rfl) (n := 56) rfl (fun r25 σ24 hw => ?_)
        refine hg_if_eq hC dX4_takeSetting_56 (tg := 63) rfl (n := 59) rfl (fun h9 => ?_) (fun h9 => ?_)
        · have hw := hw.1 h9
          exact hg_sub [] rfl (tbC_X4_takeSetting_63 hC hR  σ24 hw)
        · have hw := hw.2 h9
          refine hg_iconst hC dX4_takeSetting_59 hl_i1 (n := 60) rfl ?_
          refine hg_goto hC dX4_takeSetting_60 (tg := 64) rfl ?_
          exact hg_sub [] rfl (tbC_X4_takeSetting_64 hC hR  (1 : Int32) σ24 hw)
  · have hw := hw.2 h9
    refine hg_iconst hC dX4_takeSetting_9 hl_i0 (n := 10) rfl ?_
    exact hg_retz hC hR dX4_takeSetting_10 hw
def bC_X2_makeCode_74 (P : hg_M → Prop) (J28 : Int32 → Int32 → hg_M → Prop) (x2 : Int32) (x3 : Int32) (σ : hg_M) : Prop := ∀ v11 : Int32, v11 = x3 + (-1 : Int32) → J28 x2 v11 σ
def bC_X2_makeCode_73 (P : hg_M → Prop) (J28 : Int32 → Int32 → hg_M → Prop) (x2 : Int32) (x3 : Int32) (t1 : Int32) (t2 : Int32) (σ : hg_M) : Prop := vp_in t1 60 ∧ (∀ σ10 : hg_M, σ10 = hg_set σ 26 (t1).toNatClampNeg (vp_nar .boolean t2) → bC_X2_makeCode_74 P J28 x2 x3 σ10)
def lC_X2_makeCode_28 (P : hg_M → Prop)  : Nat → Int32 → Int32 → hg_M → Prop
  | 0, _, _, _ => False
  | n + 1, x2, x3, σ => ((x3 < 0 → wC_X2_beginCode σ (fun σ4 => vC_X2_lowerRange (0 : Int32) (σ4 16 8) (0 : Int32) σ4 (fun σ5 => P σ5))) ∧ (¬ x3 < 0 → wC_X2_mayConvert x3 σ (fun r7 σ6 => ((r7 = 0 → bC_X2_makeCode_74 P (fun k0 k1 k2 => lC_X2_makeCode_28 P n k0 k1 k2) x2 x3 σ6) ∧ (¬ r7 = 0 → wC_X2_beginCode σ6 (fun σ8 => vC_X2_convert x3 (0 : Int32) σ8 (fun σ9 => ((x2 < (σ9 42 1) → bC_X2_makeCode_73 P (fun k0 k1 k2 => lC_X2_makeCode_28 P n k0 k1 k2) x2 x3 x3 (0 : Int32) σ9) ∧ (¬ (x2 < (σ9 42 1)) → bC_X2_makeCode_73 P (fun k0 k1 k2 => lC_X2_makeCode_28 P n k0 k1 k2) x2 x3 x3 (1 : Int32) σ9)))))))))
def lC_X2_makeCode_2 (P : hg_M → Prop)  : Nat → Int32 → Int32 → hg_M → Prop
  | 0, _, _, _ => False
  | n + 1, x2, x3, σ => (((60 : Int32) ≤ x3 → ∀ v1 : Int32, v1 = ((σ 16 8) - (1 : Int32)) → (∃ f9, lC_X2_makeCode_28 P f9 x2 v1 σ)) ∧ (¬ ((60 : Int32) ≤ x3) → vp_in x3 60 ∧ (∀ σ2 : hg_M, σ2 = hg_set σ 26 (x3).toNatClampNeg (vp_nar .boolean (0 : Int32)) → ∀ v3 : Int32, v3 = x3 + (1 : Int32) → lC_X2_makeCode_2 P n x2 v3 σ2)))
def wC_X2_makeCode (x2 : Int32) (σ : hg_M) (P : hg_M → Prop) : Prop := (∃ f9, lC_X2_makeCode_2 P f9 x2 (0 : Int32) σ)
set_option maxRecDepth 4000 in
theorem tbC_X2_makeCode_74 {d : Nat} {E : hg_Et} {X : hg_X} {P : hg_M → Prop} {J28 : Int32 → Int32 → hg_M → Prop} (hC : hg_C hg_FC 4 (d + 23) E cX2_makeCode RX2 X) (hR : hg_Rnv hg_FC hg_rC P X) (hJ28 : ∀ (x2 : Int32) (x3 : Int32) (σ : hg_M), J28 x2 x3 σ → hg_G hg_FC 4 X 28 [(0, .ref (hg_ad X 25)), (1, .ref (hg_ad X 16)), (2, .int x2), (3, .int x3)] [] σ hg_rC) (x2 : Int32) (x3 : Int32) (σ : hg_M) (hw : bC_X2_makeCode_74 P J28 x2 x3 σ) : hg_G hg_FC 4 X 74 [(0, .ref (hg_ad X 25)), (1, .ref (hg_ad X 16)), (2, .int x2), (3, .int x3)] [] σ hg_rC := by
  unfold bC_X2_makeCode_74 at hw
  obtain ⟨v11, ev11⟩ : ∃ z, z = x3 + (-1 : Int32) := ⟨_, rfl⟩
  have hw := hw v11 ev11
  refine hg_iinc hC (v := v11) (L1 := [(3, .int v11), (0, .ref (hg_ad X 25)), (1, .ref (hg_ad X 16)), (2, .int x2)]) dX2_makeCode_74 3 rfl (by rw [hl_im1, ev11]) (by decide) rfl (n := 77) rfl ?_
  refine hg_goto hC dX2_makeCode_77 (tg := 28) rfl ?_
  exact hg_sub [1, 2, 3, 0] rfl (hJ28 x2 v11 σ hw)
set_option maxRecDepth 4000 in
theorem tbC_X2_makeCode_73 {d : Nat} {E : hg_Et} {X : hg_X} {P : hg_M → Prop} {J28 : Int32 → Int32 → hg_M → Prop} (hC : hg_C hg_FC 4 (d + 23) E cX2_makeCode RX2 X) (hR : hg_Rnv hg_FC hg_rC P X) (hJ28 : ∀ (x2 : Int32) (x3 : Int32) (σ : hg_M), J28 x2 x3 σ → hg_G hg_FC 4 X 28 [(0, .ref (hg_ad X 25)), (1, .ref (hg_ad X 16)), (2, .int x2), (3, .int x3)] [] σ hg_rC) (x2 : Int32) (x3 : Int32) (t1 : Int32) (t2 : Int32) (σ : hg_M) (hw : bC_X2_makeCode_73 P J28 x2 x3 t1 t2 σ) : hg_G hg_FC 4 X 73 [(0, .ref (hg_ad X 25)), (1, .ref (hg_ad X 16)), (2, .int x2), (3, .int x3)] [.int t2, .int t1, .ref (hg_ad X 26)] σ hg_rC := by
  unfold bC_X2_makeCode_73 at hw
  obtain ⟨h9, hw⟩ := hw
  refine hg_zast hC dX2_makeCode_73 qC_26 kC_26 h9 (n := 74) rfl (fun σ10 eσ10 => ?_)
  have hw := hw σ10 eσ10
  exact tbC_X2_makeCode_74 hC hR hJ28 x2 x3 σ10 hw
set_option maxRecDepth 4000 in
theorem tlC_X2_makeCode_28 {d : Nat} {E : hg_Et} {X : hg_X} {P : hg_M → Prop}  (hC : hg_C hg_FC 4 (d + 23) E cX2_makeCode RX2 X) (hR : hg_Rnv hg_FC hg_rC P X)  (n : Nat) : ∀ (x2 : Int32) (x3 : Int32) (σ : hg_M), lC_X2_makeCode_28 P n x2 x3 σ → hg_G hg_FC 4 X 28 [(0, .ref (hg_ad X 25)), (1, .ref (hg_ad X 16)), (2, .int x2), (3, .int x3)] [] σ hg_rC := by
  induction n with
  | zero =>
    intro x2 x3 σ hw
    rw [lC_X2_makeCode_28] at hw
    exact hw.elim
  | succ n ih =>
    intro x2 x3 σ hw
    rw [lC_X2_makeCode_28] at hw
    refine hg_iload_n hC dX2_makeCode_28 rfl 3 rfl (n := 29) rfl ?_
    refine hg_if_lt hC dX2_makeCode_29 (tg := 80) rfl (n := 32) rfl (fun h9 => ?_) (fun h9 => ?_)
    · have hw := hw.1 h9
      refine hg_aload_n hC dX2_makeCode_80 rfl 0 rfl (n := 81) rfl ?_
      refine hg_cVv hC (tC_X2_beginCode (hg_Eof hC) X.2.1 (d + 20) _ _ hw) sv_RX2_47 dX2_makeCode_81 qC_25 kC_25 c_2 rfl (rest := []) rfl (Nat.le_of_ble_eq_true rfl) (n := 84) rfl (fun σ4 hw => ?_)
      refine hg_aload_n hC dX2_makeCode_84 rfl 0 rfl (n := 85) rfl ?_
      refine hg_aload_n hC dX2_makeCode_85 rfl 1 rfl (n := 86) rfl ?_
      refine hg_iconst hC dX2_makeCode_86 hl_i0 (n := 87) rfl ?_
      refine hg_aload_n hC dX2_makeCode_87 rfl 1 rfl (n := 88) rfl ?_
      refine hg_geti hC fl_RX2_38 dX2_makeCode_88 qC_16 kC_16 fC_3_8 (n := 91) rfl ?_
      refine hg_iconst hC dX2_makeCode_91 hl_i0 (n := 92) rfl ?_
      refine hg_cVv hC (tvC_X2_lowerRange (hg_Eof hC) X.2.1 (d + 1) _ _ _ _ _ hw) sv_RX2_57 dX2_makeCode_92 qC_25 kC_25 c_2 rfl (rest := []) rfl (Nat.le_of_ble_eq_true rfl) (n := 95) rfl (fun σ5 hw => ?_)
      exact hg_retv hC hR dX2_makeCode_95 hw
    · have hw := hw.2 h9
      refine hg_aload_n hC dX2_makeCode_32 rfl 0 rfl (n := 33) rfl ?_
      refine hg_aload_n hC dX2_makeCode_33 rfl 1 rfl (n := 34) rfl ?_
      refine hg_iload_n hC dX2_makeCode_34 rfl 3 rfl (n := 35) rfl ?_
      refine hg_cVi hC (tC_X2_mayConvert (hg_Eof hC) X.2.1 (d + 21) _ _ _ hw) sv_RX2_43 dX2_makeCode_35 qC_25 kC_25 c_2 rfl (rest := []) rfl (Nat.le_of_ble_eq_true rfl) (n := 38) rfl (fun r7 σ6 hw => ?_)
      refine hg_if_eq hC dX2_makeCode_38 (tg := 74) rfl (n := 41) rfl (fun h9 => ?_) (fun h9 => ?_)
      · have hw := hw.1 h9
        exact tbC_X2_makeCode_74 hC hR ih x2 x3 σ6 hw
      · have hw := hw.2 h9
        refine hg_aload_n hC dX2_makeCode_41 rfl 0 rfl (n := 42) rfl ?_
        refine hg_cVv hC (tC_X2_beginCode (hg_Eof hC) X.2.1 (d + 20) _ _ hw) sv_RX2_47 dX2_makeCode_42 qC_25 kC_25 c_2 rfl (rest := []) rfl (Nat.le_of_ble_eq_true rfl) (n := 45) rfl (fun σ8 hw => ?_)
        refine hg_aload_n hC dX2_makeCode_45 rfl 0 rfl (n := 46) rfl ?_
        refine hg_aload_n hC dX2_makeCode_46 rfl 1 rfl (n := 47) rfl ?_
        refine hg_iload_n hC dX2_makeCode_47 rfl 3 rfl (n := 48) rfl ?_
        refine hg_iconst hC dX2_makeCode_48 hl_i0 (n := 49) rfl ?_
        refine hg_cVv hC (tvC_X2_convert (hg_Eof hC) X.2.1 (d + 0) _ _ _ _ hw) sv_RX2_50 dX2_makeCode_49 qC_25 kC_25 c_2 rfl (rest := []) rfl (Nat.le_of_ble_eq_true rfl) (n := 52) rfl (fun σ9 hw => ?_)
        refine hg_aload_n hC dX2_makeCode_52 rfl 0 rfl (n := 53) rfl ?_
        refine hg_getr hC fl_RX2_18 dX2_makeCode_53 qC_25 kC_25 fC_2_1 rC_25_1 (n := 56) rfl ?_
        refine hg_iload_n hC dX2_makeCode_56 rfl 3 rfl (n := 57) rfl ?_
        refine hg_aload_n hC dX2_makeCode_57 rfl 0 rfl (n := 58) rfl ?_
        refine hg_getr hC fl_RX2_12 dX2_makeCode_58 qC_25 kC_25 fC_2_0 rC_25_0 (n := 61) rfl ?_
        refine hg_geti hC fl_RX2_54 dX2_makeCode_61 qC_42 kC_42 fC_0_1 (n := 64) rfl ?_
        refine hg_iload_n hC dX2_makeCode_64 rfl 2 rfl (n := 65) rfl ?_
        refine hg_icmp_gt hC dX2_makeCode_65 (tg := 72) rfl (n := 68) rfl (fun h9 => ?_) (fun h9 => ?_)
        · have hw := hw.1 h9
          refine hg_iconst hC dX2_makeCode_72 hl_i0 (n := 73) rfl ?_
          exact tbC_X2_makeCode_73 hC hR ih x2 x3 x3 (0 : Int32) σ9 hw
        · have hw := hw.2 h9
          refine hg_iconst hC dX2_makeCode_68 hl_i1 (n := 69) rfl ?_
          refine hg_goto hC dX2_makeCode_69 (tg := 73) rfl ?_
          exact tbC_X2_makeCode_73 hC hR ih x2 x3 x3 (1 : Int32) σ9 hw
set_option maxRecDepth 4000 in
theorem tlC_X2_makeCode_2 {d : Nat} {E : hg_Et} {X : hg_X} {P : hg_M → Prop}  (hC : hg_C hg_FC 4 (d + 23) E cX2_makeCode RX2 X) (hR : hg_Rnv hg_FC hg_rC P X)  (n : Nat) : ∀ (x2 : Int32) (x3 : Int32) (σ : hg_M), lC_X2_makeCode_2 P n x2 x3 σ → hg_G hg_FC 4 X 2 [(0, .ref (hg_ad X 25)), (1, .ref (hg_ad X 16)), (2, .int x2), (3, .int x3)] [] σ hg_rC := by
  induction n with
  | zero =>
    intro x2 x3 σ hw
    rw [lC_X2_makeCode_2] at hw
    exact hw.elim
  | succ n ih =>
    intro x2 x3 σ hw
    rw [lC_X2_makeCode_2] at hw
    refine hg_iload_n hC dX2_makeCode_2 rfl 3 rfl (n := 3) rfl ?_
    refine hg_bipush hC dX2_makeCode_3 hl_b60 (n := 5) rfl ?_
    refine hg_icmp_ge hC dX2_makeCode_5 (tg := 21) rfl (n := 8) rfl (fun h9 => ?_) (fun h9 => ?_)
    · have hw := hw.1 h9
      refine hg_aload_n hC dX2_makeCode_21 rfl 1 rfl (n := 22) rfl ?_
      refine hg_geti hC fl_RX2_38 dX2_makeCode_22 qC_16 kC_16 fC_3_8 (n := 25) rfl ?_
      refine hg_iconst hC dX2_makeCode_25 hl_i1 (n := 26) rfl ?_
      refine hg_isub hC dX2_makeCode_26 (n := 27) rfl ?_
      refine hg_topi (fun v1 ev1 => ?_)
      have hw := hw v1 ev1
      refine hg_istore_n hC (L1 := [(3, .int v1), (0, .ref (hg_ad X 25)), (1, .ref (hg_ad X 16)), (2, .int x2)]) dX2_makeCode_27 rfl (by decide) rfl (n := 28) rfl ?_
      obtain ⟨n9, hw⟩ := hw
      exact hg_sub [1, 2, 3, 0] rfl (tlC_X2_makeCode_28 hC hR  n9 x2 v1 σ hw)
    · have hw := hw.2 h9
      refine hg_aload_n hC dX2_makeCode_8 rfl 0 rfl (n := 9) rfl ?_
      refine hg_getr hC fl_RX2_18 dX2_makeCode_9 qC_25 kC_25 fC_2_1 rC_25_1 (n := 12) rfl ?_
      refine hg_iload_n hC dX2_makeCode_12 rfl 3 rfl (n := 13) rfl ?_
      refine hg_iconst hC dX2_makeCode_13 hl_i0 (n := 14) rfl ?_
      obtain ⟨h9, hw⟩ := hw
      refine hg_zast hC dX2_makeCode_14 qC_26 kC_26 h9 (n := 15) rfl (fun σ2 eσ2 => ?_)
      have hw := hw σ2 eσ2
      obtain ⟨v3, ev3⟩ : ∃ z, z = x3 + (1 : Int32) := ⟨_, rfl⟩
      have hw := hw v3 ev3
      refine hg_iinc hC (v := v3) (L1 := [(3, .int v3), (0, .ref (hg_ad X 25)), (1, .ref (hg_ad X 16)), (2, .int x2)]) dX2_makeCode_15 3 rfl (by rw [hl_i1, ev3]) (by decide) rfl (n := 18) rfl ?_
      refine hg_goto hC dX2_makeCode_18 (tg := 2) rfl ?_
      exact hg_sub [1, 2, 3, 0] rfl (ih x2 v3 σ2 hw)
set_option maxRecDepth 4000 in
theorem tC_X2_makeCode {E : hg_Et} (hE : hg_Eok E) (l : Launch) (d : Nat) (x2 : Int32) (σ : hg_M) (P : hg_M → Prop) (hw : wC_X2_makeCode x2 σ P) : hg_Nv hg_FC E l yX2_makeCode cX2_makeCode 4 (d + 23) (fun ad => [.ref (ad 25), .ref (ad 16), .int x2]) hg_rC σ P := by
  refine hg_nv hE (by decide) (fun _ => Nat.le_of_ble_eq_true rfl) (fun X hC hR hl => ?_)
  subst hl
  have hC : hg_C hg_FC 4 (d + 23) E cX2_makeCode RX2 X := hC
  show hg_G hg_FC 4 X 0 [(0, .ref (hg_ad X 25)), (1, .ref (hg_ad X 16)), (2, .int x2)] [] σ hg_rC
  unfold wC_X2_makeCode at hw
  refine hg_iconst hC dX2_makeCode_0 hl_i0 (n := 1) rfl ?_
  refine hg_istore_n hC (L1 := [(3, .int (0 : Int32)), (0, .ref (hg_ad X 25)), (1, .ref (hg_ad X 16)), (2, .int x2)]) dX2_makeCode_1 rfl (by decide) rfl (n := 2) rfl ?_
  obtain ⟨n9, hw⟩ := hw
  exact hg_sub [1, 2, 3, 0] rfl (tlC_X2_makeCode_2 hC hR  n9 x2 (0 : Int32) σ hw)
def bC_X1_doSimple_129 (P : hg_M → Prop)   (σ : hg_M) : Prop := P σ
def wC_X1_doSimple (x2 : Int32) (σ : hg_M) (P : hg_M → Prop) : Prop := wC_X1_valueOf ((2 : Int32) * x2) σ (fun r2 σ1 => vp_in x2 60 ∧ ((((((σ1 17 (x2).toNatClampNeg)).toInt < 0 ∨ 3 < ((σ1 17 (x2).toNatClampNeg)).toInt) → wC_X1_say r2 σ1 (fun σ3 => bC_X1_doSimple_129 P σ3)) ∧ (((σ1 17 (x2).toNatClampNeg)).toInt = 0 → vp_in x2 60 ∧ (vp_in (σ1 19 (x2).toNatClampNeg) 736 ∧ (∀ σ4 : hg_M, σ4 = hg_set σ1 54 ((σ1 19 (x2).toNatClampNeg)).toNatClampNeg r2 → bC_X1_doSimple_129 P σ4))) ∧ (((σ1 17 (x2).toNatClampNeg)).toInt = 1 → vp_in x2 60 ∧ (vp_in x2 60 ∧ (wC_X1_valueOf (((2 : Int32) * x2) + (1 : Int32)) σ1 (fun r6 σ5 => wC_X1_reach (σ1 20 (x2).toNatClampNeg) (σ1 19 (x2).toNatClampNeg) r2 r6 x2 σ5 (fun σ7 => bC_X1_doSimple_129 P σ7))))) ∧ (((σ1 17 (x2).toNatClampNeg)).toInt = 2 → vp_in x2 60 ∧ (wC_X1_load (σ1 19 (x2).toNatClampNeg) r2 x2 σ1 (fun σ8 => bC_X1_doSimple_129 P σ8))) ∧ (((σ1 17 (x2).toNatClampNeg)).toInt = 3 → wC_X1_valueOf (((2 : Int32) * x2) + (1 : Int32)) σ1 (fun r10 σ9 => wC_X1_store r2 r10 x2 σ9 (fun σ11 => bC_X1_doSimple_129 P σ11))))))
set_option maxRecDepth 4000 in
theorem tbC_X1_doSimple_129 {d : Nat} {E : hg_Et} {X : hg_X} {P : hg_M → Prop}  (hC : hg_C hg_FC 4 (d + 3) E cX1_doSimple RX1 X) (hR : hg_Rnv hg_FC hg_rC P X)   (σ : hg_M) (hw : bC_X1_doSimple_129 P  σ) : hg_G hg_FC 4 X 129 [] [] σ hg_rC := by
  unfold bC_X1_doSimple_129 at hw
  exact hg_retv hC hR dX1_doSimple_129 hw
set_option maxRecDepth 4000 in
theorem tC_X1_doSimple {E : hg_Et} (hE : hg_Eok E) (l : Launch) (d : Nat) (x2 : Int32) (σ : hg_M) (P : hg_M → Prop) (hw : wC_X1_doSimple x2 σ P) : hg_Nv hg_FC E l yX1_doSimple cX1_doSimple 4 (d + 3) (fun ad => [.ref (ad 53), .ref (ad 16), .int x2]) hg_rC σ P := by
  refine hg_nv hE (by decide) (fun _ => Nat.le_of_ble_eq_true rfl) (fun X hC hR hl => ?_)
  subst hl
  have hC : hg_C hg_FC 4 (d + 3) E cX1_doSimple RX1 X := hC
  show hg_G hg_FC 4 X 0 [(0, .ref (hg_ad X 53)), (1, .ref (hg_ad X 16)), (2, .int x2)] [] σ hg_rC
  unfold wC_X1_doSimple at hw
  refine hg_aload_n hC dX1_doSimple_0 rfl 0 rfl (n := 1) rfl ?_
  refine hg_aload_n hC dX1_doSimple_1 rfl 1 rfl (n := 2) rfl ?_
  refine hg_iconst hC dX1_doSimple_2 hl_i2 (n := 3) rfl ?_
  refine hg_iload_n hC dX1_doSimple_3 rfl 2 rfl (n := 4) rfl ?_
  refine hg_imul hC dX1_doSimple_4 (n := 5) rfl ?_
  refine hg_cVi hC (tC_X1_valueOf (hg_Eof hC) X.2.1 (d + 1) _ _ _ hw) sv_RX1_78 dX1_doSimple_5 qC_53 kC_53 c_1 rfl (rest := []) rfl (Nat.le_of_ble_eq_true rfl) (n := 8) rfl (fun r2 σ1 hw => ?_)
  refine hg_istore_n hC (L1 := [(3, .int r2), (0, .ref (hg_ad X 53)), (1, .ref (hg_ad X 16)), (2, .int x2)]) dX1_doSimple_8 rfl (by decide) rfl (n := 9) rfl ?_
  refine hg_aload_n hC dX1_doSimple_9 rfl 2 rfl (n := 10) rfl ?_
  refine hg_getr hC fl_RX1_55 dX1_doSimple_10 qC_16 kC_16 fC_3_0 rC_16_0 (n := 13) rfl ?_
  refine hg_iload_n hC dX1_doSimple_13 rfl 3 rfl (n := 14) rfl ?_
  obtain ⟨h9, hw⟩ := hw
  refine hg_iald hC dX1_doSimple_14 qC_17 kC_17 h9 (n := 15) rfl ?_
  by_cases hsw : ((σ1 17 (x2).toNatClampNeg)).toInt < 0 ∨ 3 < ((σ1 17 (x2).toNatClampNeg)).toInt
  · have hw := hw.1 hsw
    refine hg_tout hC dX1_doSimple_15 hsw (tg := 124) rfl ?_
    refine hg_aload_n hC dX1_doSimple_124 rfl 1 rfl (n := 125) rfl ?_
    refine hg_iload_n hC dX1_doSimple_125 rfl 0 rfl (n := 126) rfl ?_
    refine hg_cVv hC (tC_X1_say (hg_Eof hC) X.2.1 (d + 1) _ _ _ hw) sv_RX1_110 dX1_doSimple_126 qC_53 kC_53 c_1 rfl (rest := []) rfl (Nat.le_of_ble_eq_true rfl) (n := 129) rfl (fun σ3 hw => ?_)
    exact hg_sub [] rfl (tbC_X1_doSimple_129 hC hR  σ3 hw)
  · rcases (show ((σ1 17 (x2).toNatClampNeg)).toInt = 0 ∨ ((σ1 17 (x2).toNatClampNeg)).toInt = 1 ∨ ((σ1 17 (x2).toNatClampNeg)).toInt = 2 ∨ ((σ1 17 (x2).toNatClampNeg)).toInt = 3 by omega) with hsx | hsx | hsx | hsx
    · have hw := hw.2.1 hsx
      refine hg_tin hC dX1_doSimple_15 hsx (by decide) (by decide) (by rfl) (tg := 44) rfl ?_
      refine hg_aload_n hC dX1_doSimple_44 rfl 1 rfl (n := 45) rfl ?_
      refine hg_getr hC fl_RX1_9 dX1_doSimple_45 qC_53 kC_53 fC_1_0 rC_53_0 (n := 48) rfl ?_
      refine hg_aload_n hC dX1_doSimple_48 rfl 2 rfl (n := 49) rfl ?_
      refine hg_getr hC fl_RX1_96 dX1_doSimple_49 qC_16 kC_16 fC_3_2 rC_16_2 (n := 52) rfl ?_
      refine hg_iload_n hC dX1_doSimple_52 rfl 3 rfl (n := 53) rfl ?_
      obtain ⟨h9, hw⟩ := hw
      refine hg_iald hC dX1_doSimple_53 qC_19 kC_19 h9 (n := 54) rfl ?_
      refine hg_iload_n hC dX1_doSimple_54 rfl 0 rfl (n := 55) rfl ?_
      obtain ⟨h9, hw⟩ := hw
      refine hg_iast hC dX1_doSimple_55 qC_54 kC_54 h9 (n := 56) rfl (fun σ4 eσ4 => ?_)
      have hw := hw σ4 eσ4
      refine hg_goto hC dX1_doSimple_56 (tg := 129) rfl ?_
      exact hg_sub [] rfl (tbC_X1_doSimple_129 hC hR  σ4 hw)
    · have hw := hw.2.2.1 hsx
      refine hg_tin hC dX1_doSimple_15 hsx (by decide) (by decide) (by rfl) (tg := 59) rfl ?_
      refine hg_aload_n hC dX1_doSimple_59 rfl 1 rfl (n := 60) rfl ?_
      refine hg_aload_n hC dX1_doSimple_60 rfl 2 rfl (n := 61) rfl ?_
      refine hg_getr hC fl_RX1_75 dX1_doSimple_61 qC_16 kC_16 fC_3_3 rC_16_3 (n := 64) rfl ?_
      refine hg_iload_n hC dX1_doSimple_64 rfl 3 rfl (n := 65) rfl ?_
      obtain ⟨h9, hw⟩ := hw
      refine hg_iald hC dX1_doSimple_65 qC_20 kC_20 h9 (n := 66) rfl ?_
      refine hg_aload_n hC dX1_doSimple_66 rfl 2 rfl (n := 67) rfl ?_
      refine hg_getr hC fl_RX1_96 dX1_doSimple_67 qC_16 kC_16 fC_3_2 rC_16_2 (n := 70) rfl ?_
      refine hg_iload_n hC dX1_doSimple_70 rfl 3 rfl (n := 71) rfl ?_
      obtain ⟨h9, hw⟩ := hw
      refine hg_iald hC dX1_doSimple_71 qC_19 kC_19 h9 (n := 72) rfl ?_
      refine hg_iload_n hC dX1_doSimple_72 rfl 0 rfl (n := 73) rfl ?_
      refine hg_aload_n hC dX1_doSimple_73 rfl 1 rfl (n := 74) rfl ?_
      refine hg_aload_n hC dX1_doSimple_74 rfl 2 rfl (n := 75) rfl ?_
      refine hg_iconst hC dX1_doSimple_75 hl_i2 (n := 76) rfl ?_
      refine hg_iload_n hC dX1_doSimple_76 rfl 3 rfl (n := 77) rfl ?_
      refine hg_imul hC dX1_doSimple_77 (n := 78) rfl ?_
      refine hg_iconst hC dX1_doSimple_78 hl_i1 (n := 79) rfl ?_
      refine hg_iadd hC dX1_doSimple_79 (n := 80) rfl ?_
      refine hg_cVi hC (tC_X1_valueOf (hg_Eof hC) X.2.1 (d + 1) _ _ _ hw) sv_RX1_78 dX1_doSimple_80 qC_53 kC_53 c_1 rfl (rest := [.int r2, .int (σ1 19 (x2).toNatClampNeg), .int (σ1 20 (x2).toNatClampNeg), .ref (hg_ad X 53)]) rfl (Nat.le_of_ble_eq_true rfl) (n := 83) rfl (fun r6 σ5 hw => ?_)
      refine hg_iload_n hC dX1_doSimple_83 rfl 3 rfl (n := 84) rfl ?_
      refine hg_cVv hC (tC_X1_reach (hg_Eof hC) X.2.1 (d + 0) _ _ _ _ _ _ _ hw) sv_RX1_99 dX1_doSimple_84 qC_53 kC_53 c_1 rfl (rest := []) rfl (Nat.le_of_ble_eq_true rfl) (n := 87) rfl (fun σ7 hw => ?_)
      refine hg_goto hC dX1_doSimple_87 (tg := 129) rfl ?_
      exact hg_sub [] rfl (tbC_X1_doSimple_129 hC hR  σ7 hw)
    · have hw := hw.2.2.2.1 hsx
      refine hg_tin hC dX1_doSimple_15 hsx (by decide) (by decide) (by rfl) (tg := 90) rfl ?_
      refine hg_aload_n hC dX1_doSimple_90 rfl 1 rfl (n := 91) rfl ?_
      refine hg_aload_n hC dX1_doSimple_91 rfl 2 rfl (n := 92) rfl ?_
      refine hg_getr hC fl_RX1_96 dX1_doSimple_92 qC_16 kC_16 fC_3_2 rC_16_2 (n := 95) rfl ?_
      refine hg_iload_n hC dX1_doSimple_95 rfl 3 rfl (n := 96) rfl ?_
      obtain ⟨h9, hw⟩ := hw
      refine hg_iald hC dX1_doSimple_96 qC_19 kC_19 h9 (n := 97) rfl ?_
      refine hg_iload_n hC dX1_doSimple_97 rfl 0 rfl (n := 98) rfl ?_
      refine hg_iload_n hC dX1_doSimple_98 rfl 3 rfl (n := 99) rfl ?_
      refine hg_cVv hC (tC_X1_load (hg_Eof hC) X.2.1 (d + 0) _ _ _ _ _ hw) sv_RX1_103 dX1_doSimple_99 qC_53 kC_53 c_1 rfl (rest := []) rfl (Nat.le_of_ble_eq_true rfl) (n := 102) rfl (fun σ8 hw => ?_)
      refine hg_goto hC dX1_doSimple_102 (tg := 129) rfl ?_
      exact hg_sub [] rfl (tbC_X1_doSimple_129 hC hR  σ8 hw)
    · have hw := hw.2.2.2.2 hsx
      refine hg_tin hC dX1_doSimple_15 hsx (by decide) (by decide) (by rfl) (tg := 105) rfl ?_
      refine hg_aload_n hC dX1_doSimple_105 rfl 1 rfl (n := 106) rfl ?_
      refine hg_iload_n hC dX1_doSimple_106 rfl 0 rfl (n := 107) rfl ?_
      refine hg_aload_n hC dX1_doSimple_107 rfl 1 rfl (n := 108) rfl ?_
      refine hg_aload_n hC dX1_doSimple_108 rfl 2 rfl (n := 109) rfl ?_
      refine hg_iconst hC dX1_doSimple_109 hl_i2 (n := 110) rfl ?_
      refine hg_iload_n hC dX1_doSimple_110 rfl 3 rfl (n := 111) rfl ?_
      refine hg_imul hC dX1_doSimple_111 (n := 112) rfl ?_
      refine hg_iconst hC dX1_doSimple_112 hl_i1 (n := 113) rfl ?_
      refine hg_iadd hC dX1_doSimple_113 (n := 114) rfl ?_
      refine hg_cVi hC (tC_X1_valueOf (hg_Eof hC) X.2.1 (d + 1) _ _ _ hw) sv_RX1_78 dX1_doSimple_114 qC_53 kC_53 c_1 rfl (rest := [.int r2, .ref (hg_ad X 53)]) rfl (Nat.le_of_ble_eq_true rfl) (n := 117) rfl (fun r10 σ9 hw => ?_)
      refine hg_iload_n hC dX1_doSimple_117 rfl 3 rfl (n := 118) rfl ?_
      refine hg_cVv hC (tC_X1_store (hg_Eof hC) X.2.1 (d + 0) _ _ _ _ _ hw) sv_RX1_107 dX1_doSimple_118 qC_53 kC_53 c_1 rfl (rest := []) rfl (Nat.le_of_ble_eq_true rfl) (n := 121) rfl (fun σ11 hw => ?_)
      refine hg_goto hC dX1_doSimple_121 (tg := 129) rfl ?_
      exact hg_sub [] rfl (tbC_X1_doSimple_129 hC hR  σ11 hw)
def bC_X1_doStep_292 (P : hg_M → Prop)   (σ : hg_M) : Prop := P σ
def bC_X1_doStep_200 (P : hg_M → Prop)  (t1 : Int32) (t3 : Int32) (σ : hg_M) : Prop := vp_in t3 736 ∧ (vp_in t1 736 ∧ (∀ σ22 : hg_M, σ22 = hg_set σ 54 (t1).toNatClampNeg (σ 54 (t3).toNatClampNeg) → bC_X1_doStep_292 P σ22))
def wC_X1_doStep (x2 : Int32) (σ : hg_M) (P : hg_M → Prop) : Prop := vp_in x2 720 ∧ (∀ v1 : Int32, v1 = (σ 44 (x2).toNatClampNeg) → vp_in x2 720 ∧ (∀ v2 : Int32, v2 = (σ 45 (x2).toNatClampNeg) → vp_in x2 720 ∧ (∀ v3 : Int32, v3 = (σ 46 (x2).toNatClampNeg) → vp_in x2 720 ∧ (∀ v4 : Int32, v4 = (σ 49 (x2).toNatClampNeg) → ((((v1).toInt < 0 ∨ 18 < (v1).toInt) → vp_in v3 736 ∧ (vp_in x2 720 ∧ (vp_in (σ 47 (x2).toNatClampNeg) 736 ∧ (wC_X1_reach v1 v2 (σ 54 (v3).toNatClampNeg) (σ 54 ((σ 47 (x2).toNatClampNeg)).toNatClampNeg) v4 σ (fun σ5 => bC_X1_doStep_292 P σ5))))) ∧ ((v1).toInt = 0 → vp_in v2 736 ∧ (∀ σ6 : hg_M, σ6 = hg_set σ 54 (v2).toNatClampNeg v3 → bC_X1_doStep_292 P σ6)) ∧ ((v1).toInt = 1 → vp_in v3 736 ∧ (vp_in v2 736 ∧ (∀ σ7 : hg_M, σ7 = hg_set σ 54 (v2).toNatClampNeg (σ 54 (v3).toNatClampNeg) → bC_X1_doStep_292 P σ7))) ∧ ((v1).toInt = 2 → vp_in v3 736 ∧ (vp_in x2 720 ∧ (vp_in (σ 47 (x2).toNatClampNeg) 736 ∧ (wC_X1_reach v1 v2 (σ 54 (v3).toNatClampNeg) (σ 54 ((σ 47 (x2).toNatClampNeg)).toNatClampNeg) v4 σ (fun σ8 => bC_X1_doStep_292 P σ8))))) ∧ ((v1).toInt = 3 → vp_in v3 736 ∧ (vp_in x2 720 ∧ (vp_in (σ 47 (x2).toNatClampNeg) 736 ∧ (wC_X1_reach v1 v2 (σ 54 (v3).toNatClampNeg) (σ 54 ((σ 47 (x2).toNatClampNeg)).toNatClampNeg) v4 σ (fun σ9 => bC_X1_doStep_292 P σ9))))) ∧ ((v1).toInt = 4 → vp_in v3 736 ∧ (vp_in x2 720 ∧ (vp_in (σ 47 (x2).toNatClampNeg) 736 ∧ (wC_X1_reach v1 v2 (σ 54 (v3).toNatClampNeg) (σ 54 ((σ 47 (x2).toNatClampNeg)).toNatClampNeg) v4 σ (fun σ10 => bC_X1_doStep_292 P σ10))))) ∧ ((v1).toInt = 5 → vp_in v3 736 ∧ (vp_in x2 720 ∧ (vp_in (σ 47 (x2).toNatClampNeg) 736 ∧ (wC_X1_reach v1 v2 (σ 54 (v3).toNatClampNeg) (σ 54 ((σ 47 (x2).toNatClampNeg)).toNatClampNeg) v4 σ (fun σ11 => bC_X1_doStep_292 P σ11))))) ∧ ((v1).toInt = 6 → vp_in v3 736 ∧ (vp_in x2 720 ∧ (vp_in (σ 47 (x2).toNatClampNeg) 736 ∧ (wC_X1_reach v1 v2 (σ 54 (v3).toNatClampNeg) (σ 54 ((σ 47 (x2).toNatClampNeg)).toNatClampNeg) v4 σ (fun σ12 => bC_X1_doStep_292 P σ12))))) ∧ ((v1).toInt = 7 → vp_in v3 736 ∧ (vp_in x2 720 ∧ (vp_in (σ 47 (x2).toNatClampNeg) 736 ∧ (wC_X1_reach v1 v2 (σ 54 (v3).toNatClampNeg) (σ 54 ((σ 47 (x2).toNatClampNeg)).toNatClampNeg) v4 σ (fun σ13 => bC_X1_doStep_292 P σ13))))) ∧ ((v1).toInt = 8 → vp_in v3 736 ∧ (vp_in x2 720 ∧ (vp_in (σ 47 (x2).toNatClampNeg) 736 ∧ (wC_X1_reach v1 v2 (σ 54 (v3).toNatClampNeg) (σ 54 ((σ 47 (x2).toNatClampNeg)).toNatClampNeg) v4 σ (fun σ14 => bC_X1_doStep_292 P σ14))))) ∧ ((v1).toInt = 9 → vp_in v3 736 ∧ (vp_in x2 720 ∧ (vp_in (σ 47 (x2).toNatClampNeg) 736 ∧ (wC_X1_reach v1 v2 (σ 54 (v3).toNatClampNeg) (σ 54 ((σ 47 (x2).toNatClampNeg)).toNatClampNeg) v4 σ (fun σ15 => bC_X1_doStep_292 P σ15))))) ∧ ((v1).toInt = 10 → vp_in v3 736 ∧ (vp_in x2 720 ∧ (vp_in (σ 47 (x2).toNatClampNeg) 736 ∧ (wC_X1_reach v1 v2 (σ 54 (v3).toNatClampNeg) (σ 54 ((σ 47 (x2).toNatClampNeg)).toNatClampNeg) v4 σ (fun σ16 => bC_X1_doStep_292 P σ16))))) ∧ ((v1).toInt = 11 → vp_in v3 736 ∧ (vp_in x2 720 ∧ (vp_in (σ 47 (x2).toNatClampNeg) 736 ∧ (wC_X1_reach v1 v2 (σ 54 (v3).toNatClampNeg) (σ 54 ((σ 47 (x2).toNatClampNeg)).toNatClampNeg) v4 σ (fun σ17 => bC_X1_doStep_292 P σ17))))) ∧ ((v1).toInt = 12 → vp_in v3 736 ∧ (vp_in x2 720 ∧ (vp_in (σ 47 (x2).toNatClampNeg) 736 ∧ (wC_X1_reach v1 v2 (σ 54 (v3).toNatClampNeg) (σ 54 ((σ 47 (x2).toNatClampNeg)).toNatClampNeg) v4 σ (fun σ18 => bC_X1_doStep_292 P σ18))))) ∧ ((v1).toInt = 13 → vp_in v3 736 ∧ ((((σ 54 (v3).toNatClampNeg) = 0 → vp_in x2 720 ∧ (bC_X1_doStep_200 P v2 (σ 48 (x2).toNatClampNeg) σ)) ∧ (¬ (σ 54 (v3).toNatClampNeg) = 0 → vp_in x2 720 ∧ (bC_X1_doStep_200 P v2 (σ 47 (x2).toNatClampNeg) σ))))) ∧ ((v1).toInt = 14 → vp_in v3 736 ∧ (wC_X1_load v2 (σ 54 (v3).toNatClampNeg) v4 σ (fun σ19 => bC_X1_doStep_292 P σ19))) ∧ ((v1).toInt = 15 → vp_in v2 736 ∧ (vp_in v3 736 ∧ (wC_X1_store (σ 54 (v2).toNatClampNeg) (σ 54 (v3).toNatClampNeg) v4 σ (fun σ20 => bC_X1_doStep_292 P σ20)))) ∧ ((v1).toInt = 16 → bC_X1_doStep_292 P σ) ∧ ((v1).toInt = 17 → bC_X1_doStep_292 P σ) ∧ ((v1).toInt = 18 → vp_in v2 736 ∧ (wC_X1_say (σ 54 (v2).toNatClampNeg) σ (fun σ21 => bC_X1_doStep_292 P σ21))))))))
set_option maxRecDepth 4000 in
theorem tbC_X1_doStep_292 {d : Nat} {E : hg_Et} {X : hg_X} {P : hg_M → Prop}  (hC : hg_C hg_FC 7 (d + 3) E cX1_doStep RX1 X) (hR : hg_Rnv hg_FC hg_rC P X)   (σ : hg_M) (hw : bC_X1_doStep_292 P  σ) : hg_G hg_FC 7 X 292 [] [] σ hg_rC := by
  unfold bC_X1_doStep_292 at hw
  exact hg_retv hC hR dX1_doStep_292 hw
set_option maxRecDepth 4000 in
theorem tbC_X1_doStep_200 {d : Nat} {E : hg_Et} {X : hg_X} {P : hg_M → Prop}  (hC : hg_C hg_FC 7 (d + 3) E cX1_doStep RX1 X) (hR : hg_Rnv hg_FC hg_rC P X)  (t1 : Int32) (t3 : Int32) (σ : hg_M) (hw : bC_X1_doStep_200 P t1 t3 σ) : hg_G hg_FC 7 X 200 [] [.int t3, .ref (hg_ad X 54), .int t1, .ref (hg_ad X 54)] σ hg_rC := by
  unfold bC_X1_doStep_200 at hw
  obtain ⟨h9, hw⟩ := hw
  refine hg_iald hC dX1_doStep_200 qC_54 kC_54 h9 (n := 201) rfl ?_
  obtain ⟨h9, hw⟩ := hw
  refine hg_iast hC dX1_doStep_201 qC_54 kC_54 h9 (n := 202) rfl (fun σ22 eσ22 => ?_)
  have hw := hw σ22 eσ22
  refine hg_goto hC dX1_doStep_202 (tg := 292) rfl ?_
  exact tbC_X1_doStep_292 hC hR  σ22 hw
set_option maxRecDepth 4000 in
theorem tC_X1_doStep {E : hg_Et} (hE : hg_Eok E) (l : Launch) (d : Nat) (x2 : Int32) (σ : hg_M) (P : hg_M → Prop) (hw : wC_X1_doStep x2 σ P) : hg_Nv hg_FC E l yX1_doStep cX1_doStep 7 (d + 3) (fun ad => [.ref (ad 53), .ref (ad 42), .int x2]) hg_rC σ P := by
  refine hg_nv hE (by decide) (fun _ => Nat.le_of_ble_eq_true rfl) (fun X hC hR hl => ?_)
  subst hl
  have hC : hg_C hg_FC 7 (d + 3) E cX1_doStep RX1 X := hC
  show hg_G hg_FC 7 X 0 [(0, .ref (hg_ad X 53)), (1, .ref (hg_ad X 42)), (2, .int x2)] [] σ hg_rC
  unfold wC_X1_doStep at hw
  refine hg_aload_n hC dX1_doStep_0 rfl 1 rfl (n := 1) rfl ?_
  refine hg_getr hC fl_RX1_127 dX1_doStep_1 qC_42 kC_42 fC_0_0 rC_42_0 (n := 4) rfl ?_
  refine hg_iconst hC dX1_doStep_4 hl_i0 (n := 5) rfl ?_
  refine hg_aald hC (r := 44) dX1_doStep_5 qC_43 kC_43 vi_0_6 riC_43_0 (n := 6) rfl ?_
  refine hg_iload_n hC dX1_doStep_6 rfl 2 rfl (n := 7) rfl ?_
  obtain ⟨h9, hw⟩ := hw
  refine hg_iald hC dX1_doStep_7 qC_44 kC_44 h9 (n := 8) rfl ?_
  refine hg_topi (fun v1 ev1 => ?_)
  have hw := hw v1 ev1
  refine hg_istore_n hC (L1 := [(3, .int v1), (0, .ref (hg_ad X 53)), (1, .ref (hg_ad X 42)), (2, .int x2)]) dX1_doStep_8 rfl (by decide) rfl (n := 9) rfl ?_
  refine hg_aload_n hC dX1_doStep_9 rfl 2 rfl (n := 10) rfl ?_
  refine hg_getr hC fl_RX1_127 dX1_doStep_10 qC_42 kC_42 fC_0_0 rC_42_0 (n := 13) rfl ?_
  refine hg_iconst hC dX1_doStep_13 hl_i1 (n := 14) rfl ?_
  refine hg_aald hC (r := 45) dX1_doStep_14 qC_43 kC_43 vi_1_6 riC_43_1 (n := 15) rfl ?_
  refine hg_iload_n hC dX1_doStep_15 rfl 3 rfl (n := 16) rfl ?_
  obtain ⟨h9, hw⟩ := hw
  refine hg_iald hC dX1_doStep_16 qC_45 kC_45 h9 (n := 17) rfl ?_
  refine hg_topi (fun v2 ev2 => ?_)
  have hw := hw v2 ev2
  refine hg_istore hC (L1 := [(4, .int v2), (3, .int v1), (0, .ref (hg_ad X 53)), (1, .ref (hg_ad X 42)), (2, .int x2)]) dX1_doStep_17 (by decide) rfl (n := 19) rfl ?_
  refine hg_aload_n hC dX1_doStep_19 rfl 3 rfl (n := 20) rfl ?_
  refine hg_getr hC fl_RX1_127 dX1_doStep_20 qC_42 kC_42 fC_0_0 rC_42_0 (n := 23) rfl ?_
  refine hg_iconst hC dX1_doStep_23 hl_i2 (n := 24) rfl ?_
  refine hg_aald hC (r := 46) dX1_doStep_24 qC_43 kC_43 vi_2_6 riC_43_2 (n := 25) rfl ?_
  refine hg_iload_n hC dX1_doStep_25 rfl 4 rfl (n := 26) rfl ?_
  obtain ⟨h9, hw⟩ := hw
  refine hg_iald hC dX1_doStep_26 qC_46 kC_46 h9 (n := 27) rfl ?_
  refine hg_topi (fun v3 ev3 => ?_)
  have hw := hw v3 ev3
  refine hg_istore hC (L1 := [(5, .int v3), (4, .int v2), (3, .int v1), (0, .ref (hg_ad X 53)), (1, .ref (hg_ad X 42)), (2, .int x2)]) dX1_doStep_27 (by decide) rfl (n := 29) rfl ?_
  refine hg_aload_n hC dX1_doStep_29 rfl 4 rfl (n := 30) rfl ?_
  refine hg_getr hC fl_RX1_127 dX1_doStep_30 qC_42 kC_42 fC_0_0 rC_42_0 (n := 33) rfl ?_
  refine hg_iconst hC dX1_doStep_33 hl_i5 (n := 34) rfl ?_
  refine hg_aald hC (r := 49) dX1_doStep_34 qC_43 kC_43 vi_5_6 riC_43_5 (n := 35) rfl ?_
  refine hg_iload_n hC dX1_doStep_35 rfl 5 rfl (n := 36) rfl ?_
  obtain ⟨h9, hw⟩ := hw
  refine hg_iald hC dX1_doStep_36 qC_49 kC_49 h9 (n := 37) rfl ?_
  refine hg_topi (fun v4 ev4 => ?_)
  have hw := hw v4 ev4
  refine hg_istore hC (L1 := [(6, .int v4), (5, .int v3), (4, .int v2), (3, .int v1), (0, .ref (hg_ad X 53)), (1, .ref (hg_ad X 42)), (2, .int x2)]) dX1_doStep_37 (by decide) rfl (n := 39) rfl ?_
  refine hg_iload_n hC dX1_doStep_39 rfl 3 rfl (n := 40) rfl ?_
  by_cases hsw : (v1).toInt < 0 ∨ 18 < (v1).toInt
  · have hw := hw.1 hsw
    refine hg_tout hC dX1_doStep_40 hsw (tg := 263) rfl ?_
    refine hg_aload_n hC dX1_doStep_263 rfl 4 rfl (n := 264) rfl ?_
    refine hg_iload_n hC dX1_doStep_264 rfl 3 rfl (n := 265) rfl ?_
    refine hg_iload hC dX1_doStep_265 2 rfl (n := 267) rfl ?_
    refine hg_aload_n hC dX1_doStep_267 rfl 4 rfl (n := 268) rfl ?_
    refine hg_getr hC fl_RX1_9 dX1_doStep_268 qC_53 kC_53 fC_1_0 rC_53_0 (n := 271) rfl ?_
    refine hg_iload hC dX1_doStep_271 1 rfl (n := 273) rfl ?_
    obtain ⟨h9, hw⟩ := hw
    refine hg_iald hC dX1_doStep_273 qC_54 kC_54 h9 (n := 274) rfl ?_
    refine hg_aload_n hC dX1_doStep_274 rfl 4 rfl (n := 275) rfl ?_
    refine hg_getr hC fl_RX1_9 dX1_doStep_275 qC_53 kC_53 fC_1_0 rC_53_0 (n := 278) rfl ?_
    refine hg_aload_n hC dX1_doStep_278 rfl 5 rfl (n := 279) rfl ?_
    refine hg_getr hC fl_RX1_127 dX1_doStep_279 qC_42 kC_42 fC_0_0 rC_42_0 (n := 282) rfl ?_
    refine hg_iconst hC dX1_doStep_282 hl_i3 (n := 283) rfl ?_
    refine hg_aald hC (r := 47) dX1_doStep_283 qC_43 kC_43 vi_3_6 riC_43_3 (n := 284) rfl ?_
    refine hg_iload_n hC dX1_doStep_284 rfl 6 rfl (n := 285) rfl ?_
    obtain ⟨h9, hw⟩ := hw
    refine hg_iald hC dX1_doStep_285 qC_47 kC_47 h9 (n := 286) rfl ?_
    obtain ⟨h9, hw⟩ := hw
    refine hg_iald hC dX1_doStep_286 qC_54 kC_54 h9 (n := 287) rfl ?_
    refine hg_iload hC dX1_doStep_287 0 rfl (n := 289) rfl ?_
    refine hg_cVv hC (tC_X1_reach (hg_Eof hC) X.2.1 (d + 0) _ _ _ _ _ _ _ hw) sv_RX1_99 dX1_doStep_289 qC_53 kC_53 c_1 rfl (rest := []) rfl (Nat.le_of_ble_eq_true rfl) (n := 292) rfl (fun σ5 hw => ?_)
    exact hg_sub [] rfl (tbC_X1_doStep_292 hC hR  σ5 hw)
  · rcases (show (v1).toInt = 0 ∨ (v1).toInt = 1 ∨ (v1).toInt = 2 ∨ (v1).toInt = 3 ∨ (v1).toInt = 4 ∨ (v1).toInt = 5 ∨ (v1).toInt = 6 ∨ (v1).toInt = 7 ∨ (v1).toInt = 8 ∨ (v1).toInt = 9 ∨ (v1).toInt = 10 ∨ (v1).toInt = 11 ∨ (v1).toInt = 12 ∨ (v1).toInt = 13 ∨ (v1).toInt = 14 ∨ (v1).toInt = 15 ∨ (v1).toInt = 16 ∨ (v1).toInt = 17 ∨ (v1).toInt = 18 by omega) with hsx | hsx | hsx | hsx | hsx | hsx | hsx | hsx | hsx | hsx | hsx | hsx | hsx | hsx | hsx | hsx | hsx | hsx | hsx
    · have hw := hw.2.1 hsx
      refine hg_tin hC dX1_doStep_40 hsx (by decide) (by decide) (by rfl) (tg := 132) rfl ?_
      refine hg_aload_n hC dX1_doStep_132 rfl 4 rfl (n := 133) rfl ?_
      refine hg_getr hC fl_RX1_9 dX1_doStep_133 qC_53 kC_53 fC_1_0 rC_53_0 (n := 136) rfl ?_
      refine hg_iload hC dX1_doStep_136 2 rfl (n := 138) rfl ?_
      refine hg_iload hC dX1_doStep_138 1 rfl (n := 140) rfl ?_
      obtain ⟨h9, hw⟩ := hw
      refine hg_iast hC dX1_doStep_140 qC_54 kC_54 h9 (n := 141) rfl (fun σ6 eσ6 => ?_)
      have hw := hw σ6 eσ6
      refine hg_goto hC dX1_doStep_141 (tg := 292) rfl ?_
      exact hg_sub [] rfl (tbC_X1_doStep_292 hC hR  σ6 hw)
    · have hw := hw.2.2.1 hsx
      refine hg_tin hC dX1_doStep_40 hsx (by decide) (by decide) (by rfl) (tg := 144) rfl ?_
      refine hg_aload_n hC dX1_doStep_144 rfl 4 rfl (n := 145) rfl ?_
      refine hg_getr hC fl_RX1_9 dX1_doStep_145 qC_53 kC_53 fC_1_0 rC_53_0 (n := 148) rfl ?_
      refine hg_iload hC dX1_doStep_148 2 rfl (n := 150) rfl ?_
      refine hg_aload_n hC dX1_doStep_150 rfl 4 rfl (n := 151) rfl ?_
      refine hg_getr hC fl_RX1_9 dX1_doStep_151 qC_53 kC_53 fC_1_0 rC_53_0 (n := 154) rfl ?_
      refine hg_iload hC dX1_doStep_154 1 rfl (n := 156) rfl ?_
      obtain ⟨h9, hw⟩ := hw
      refine hg_iald hC dX1_doStep_156 qC_54 kC_54 h9 (n := 157) rfl ?_
      obtain ⟨h9, hw⟩ := hw
      refine hg_iast hC dX1_doStep_157 qC_54 kC_54 h9 (n := 158) rfl (fun σ7 eσ7 => ?_)
      have hw := hw σ7 eσ7
      refine hg_goto hC dX1_doStep_158 (tg := 292) rfl ?_
      exact hg_sub [] rfl (tbC_X1_doStep_292 hC hR  σ7 hw)
    · have hw := hw.2.2.2.1 hsx
      refine hg_tin hC dX1_doStep_40 hsx (by decide) (by decide) (by rfl) (tg := 263) rfl ?_
      refine hg_aload_n hC dX1_doStep_263 rfl 4 rfl (n := 264) rfl ?_
      refine hg_iload_n hC dX1_doStep_264 rfl 3 rfl (n := 265) rfl ?_
      refine hg_iload hC dX1_doStep_265 2 rfl (n := 267) rfl ?_
      refine hg_aload_n hC dX1_doStep_267 rfl 4 rfl (n := 268) rfl ?_
      refine hg_getr hC fl_RX1_9 dX1_doStep_268 qC_53 kC_53 fC_1_0 rC_53_0 (n := 271) rfl ?_
      refine hg_iload hC dX1_doStep_271 1 rfl (n := 273) rfl ?_
      obtain ⟨h9, hw⟩ := hw
      refine hg_iald hC dX1_doStep_273 qC_54 kC_54 h9 (n := 274) rfl ?_
      refine hg_aload_n hC dX1_doStep_274 rfl 4 rfl (n := 275) rfl ?_
      refine hg_getr hC fl_RX1_9 dX1_doStep_275 qC_53 kC_53 fC_1_0 rC_53_0 (n := 278) rfl ?_
      refine hg_aload_n hC dX1_doStep_278 rfl 5 rfl (n := 279) rfl ?_
      refine hg_getr hC fl_RX1_127 dX1_doStep_279 qC_42 kC_42 fC_0_0 rC_42_0 (n := 282) rfl ?_
      refine hg_iconst hC dX1_doStep_282 hl_i3 (n := 283) rfl ?_
      refine hg_aald hC (r := 47) dX1_doStep_283 qC_43 kC_43 vi_3_6 riC_43_3 (n := 284) rfl ?_
      refine hg_iload_n hC dX1_doStep_284 rfl 6 rfl (n := 285) rfl ?_
      obtain ⟨h9, hw⟩ := hw
      refine hg_iald hC dX1_doStep_285 qC_47 kC_47 h9 (n := 286) rfl ?_
      obtain ⟨h9, hw⟩ := hw
      refine hg_iald hC dX1_doStep_286 qC_54 kC_54 h9 (n := 287) rfl ?_
      refine hg_iload hC dX1_doStep_287 0 rfl (n := 289) rfl ?_
      refine hg_cVv hC (tC_X1_reach (hg_Eof hC) X.2.1 (d + 0) _ _ _ _ _ _ _ hw) sv_RX1_99 dX1_doStep_289 qC_53 kC_53 c_1 rfl (rest := []) rfl (Nat.le_of_ble_eq_true rfl) (n := 292) rfl (fun σ8 hw => ?_)
      exact hg_sub [] rfl (tbC_X1_doStep_292 hC hR  σ8 hw)
    · have hw := hw.2.2.2.2.1 hsx
      refine hg_tin hC dX1_doStep_40 hsx (by decide) (by decide) (by rfl) (tg := 263) rfl ?_
      refine hg_aload_n hC dX1_doStep_263 rfl 4 rfl (n := 264) rfl ?_
      refine hg_iload_n hC dX1_doStep_264 rfl 3 rfl (n := 265) rfl ?_
      refine hg_iload hC dX1_doStep_265 2 rfl (n := 267) rfl ?_
      refine hg_aload_n hC dX1_doStep_267 rfl 4 rfl (n := 268) rfl ?_
      refine hg_getr hC fl_RX1_9 dX1_doStep_268 qC_53 kC_53 fC_1_0 rC_53_0 (n := 271) rfl ?_
      refine hg_iload hC dX1_doStep_271 1 rfl (n := 273) rfl ?_
      obtain ⟨h9, hw⟩ := hw
      refine hg_iald hC dX1_doStep_273 qC_54 kC_54 h9 (n := 274) rfl ?_
      refine hg_aload_n hC dX1_doStep_274 rfl 4 rfl (n := 275) rfl ?_
      refine hg_getr hC fl_RX1_9 dX1_doStep_275 qC_53 kC_53 fC_1_0 rC_53_0 (n := 278) rfl ?_
      refine hg_aload_n hC dX1_doStep_278 rfl 5 rfl (n := 279) rfl ?_
      refine hg_getr hC fl_RX1_127 dX1_doStep_279 qC_42 kC_42 fC_0_0 rC_42_0 (n := 282) rfl ?_
      refine hg_iconst hC dX1_doStep_282 hl_i3 (n := 283) rfl ?_
      refine hg_aald hC (r := 47) dX1_doStep_283 qC_43 kC_43 vi_3_6 riC_43_3 (n := 284) rfl ?_
      refine hg_iload_n hC dX1_doStep_284 rfl 6 rfl (n := 285) rfl ?_
      obtain ⟨h9, hw⟩ := hw
      refine hg_iald hC dX1_doStep_285 qC_47 kC_47 h9 (n := 286) rfl ?_
      obtain ⟨h9, hw⟩ := hw
      refine hg_iald hC dX1_doStep_286 qC_54 kC_54 h9 (n := 287) rfl ?_
      refine hg_iload hC dX1_doStep_287 0 rfl (n := 289) rfl ?_
      refine hg_cVv hC (tC_X1_reach (hg_Eof hC) X.2.1 (d + 0) _ _ _ _ _ _ _ hw) sv_RX1_99 dX1_doStep_289 qC_53 kC_53 c_1 rfl (rest := []) rfl (Nat.le_of_ble_eq_true rfl) (n := 292) rfl (fun σ9 hw => ?_)
      exact hg_sub [] rfl (tbC_X1_doStep_292 hC hR  σ9 hw)
    · have hw := hw.2.2.2.2.2.1 hsx
      refine hg_tin hC dX1_doStep_40 hsx (by decide) (by decide) (by rfl) (tg := 263) rfl ?_
      refine hg_aload_n hC dX1_doStep_263 rfl 4 rfl (n := 264) rfl ?_
      refine hg_iload_n hC dX1_doStep_264 rfl 3 rfl (n := 265) rfl ?_
      refine hg_iload hC dX1_doStep_265 2 rfl (n := 267) rfl ?_
      refine hg_aload_n hC dX1_doStep_267 rfl 4 rfl (n := 268) rfl ?_
      refine hg_getr hC fl_RX1_9 dX1_doStep_268 qC_53 kC_53 fC_1_0 rC_53_0 (n := 271) rfl ?_
      refine hg_iload hC dX1_doStep_271 1 rfl (n := 273) rfl ?_
      obtain ⟨h9, hw⟩ := hw
      refine hg_iald hC dX1_doStep_273 qC_54 kC_54 h9 (n := 274) rfl ?_
      refine hg_aload_n hC dX1_doStep_274 rfl 4 rfl (n := 275) rfl ?_
      refine hg_getr hC fl_RX1_9 dX1_doStep_275 qC_53 kC_53 fC_1_0 rC_53_0 (n := 278) rfl ?_
      refine hg_aload_n hC dX1_doStep_278 rfl 5 rfl (n := 279) rfl ?_
      refine hg_getr hC fl_RX1_127 dX1_doStep_279 qC_42 kC_42 fC_0_0 rC_42_0 (n := 282) rfl ?_
      refine hg_iconst hC dX1_doStep_282 hl_i3 (n := 283) rfl ?_
      refine hg_aald hC (r := 47) dX1_doStep_283 qC_43 kC_43 vi_3_6 riC_43_3 (n := 284) rfl ?_
      refine hg_iload_n hC dX1_doStep_284 rfl 6 rfl (n := 285) rfl ?_
      obtain ⟨h9, hw⟩ := hw
      refine hg_iald hC dX1_doStep_285 qC_47 kC_47 h9 (n := 286) rfl ?_
      obtain ⟨h9, hw⟩ := hw
      refine hg_iald hC dX1_doStep_286 qC_54 kC_54 h9 (n := 287) rfl ?_
      refine hg_iload hC dX1_doStep_287 0 rfl (n := 289) rfl ?_
      refine hg_cVv hC (tC_X1_reach (hg_Eof hC) X.2.1 (d + 0) _ _ _ _ _ _ _ hw) sv_RX1_99 dX1_doStep_289 qC_53 kC_53 c_1 rfl (rest := []) rfl (Nat.le_of_ble_eq_true rfl) (n := 292) rfl (fun σ10 hw => ?_)
      exact hg_sub [] rfl (tbC_X1_doStep_292 hC hR  σ10 hw)
    · have hw := hw.2.2.2.2.2.2.1 hsx
      refine hg_tin hC dX1_doStep_40 hsx (by decide) (by decide) (by rfl) (tg := 263) rfl ?_
      refine hg_aload_n hC dX1_doStep_263 rfl 4 rfl (n := 264) rfl ?_
      refine hg_iload_n hC dX1_doStep_264 rfl 3 rfl (n := 265) rfl ?_
      refine hg_iload hC dX1_doStep_265 2 rfl (n := 267) rfl ?_
      refine hg_aload_n hC dX1_doStep_267 rfl 4 rfl (n := 268) rfl ?_
      refine hg_getr hC fl_RX1_9 dX1_doStep_268 qC_53 kC_53 fC_1_0 rC_53_0 (n := 271) rfl ?_
      refine hg_iload hC dX1_doStep_271 1 rfl (n := 273) rfl ?_
      obtain ⟨h9, hw⟩ := hw
      refine hg_iald hC dX1_doStep_273 qC_54 kC_54 h9 (n := 274) rfl ?_
      refine hg_aload_n hC dX1_doStep_274 rfl 4 rfl (n := 275) rfl ?_
      refine hg_getr hC fl_RX1_9 dX1_doStep_275 qC_53 kC_53 fC_1_0 rC_53_0 (n := 278) rfl ?_
      refine hg_aload_n hC dX1_doStep_278 rfl 5 rfl (n := 279) rfl ?_
      refine hg_getr hC fl_RX1_127 dX1_doStep_279 qC_42 kC_42 fC_0_0 rC_42_0 (n := 282) rfl ?_
      refine hg_iconst hC dX1_doStep_282 hl_i3 (n := 283) rfl ?_
      refine hg_aald hC (r := 47) dX1_doStep_283 qC_43 kC_43 vi_3_6 riC_43_3 (n := 284) rfl ?_
      refine hg_iload_n hC dX1_doStep_284 rfl 6 rfl (n := 285) rfl ?_
      obtain ⟨h9, hw⟩ := hw
      refine hg_iald hC dX1_doStep_285 qC_47 kC_47 h9 (n := 286) rfl ?_
      obtain ⟨h9, hw⟩ := hw
      refine hg_iald hC dX1_doStep_286 qC_54 kC_54 h9 (n := 287) rfl ?_
      refine hg_iload hC dX1_doStep_287 0 rfl (n := 289) rfl ?_
      refine hg_cVv hC (tC_X1_reach (hg_Eof hC) X.2.1 (d + 0) _ _ _ _ _ _ _ hw) sv_RX1_99 dX1_doStep_289 qC_53 kC_53 c_1 rfl (rest := []) rfl (Nat.le_of_ble_eq_true rfl) (n := 292) rfl (fun σ11 hw => ?_)
      exact hg_sub [] rfl (tbC_X1_doStep_292 hC hR  σ11 hw)
    · have hw := hw.2.2.2.2.2.2.2.1 hsx
      refine hg_tin hC dX1_doStep_40 hsx (by decide) (by decide) (by rfl) (tg := 263) rfl ?_
      refine hg_aload_n hC dX1_doStep_263 rfl 4 rfl (n := 264) rfl ?_
      refine hg_iload_n hC dX1_doStep_264 rfl 3 rfl (n := 265) rfl ?_
      refine hg_iload hC dX1_doStep_265 2 rfl (n := 267) rfl ?_
      refine hg_aload_n hC dX1_doStep_267 rfl 4 rfl (n := 268) rfl ?_
      refine hg_getr hC fl_RX1_9 dX1_doStep_268 qC_53 kC_53 fC_1_0 rC_53_0 (n := 271) rfl ?_
      refine hg_iload hC dX1_doStep_271 1 rfl (n := 273) rfl ?_
      obtain ⟨h9, hw⟩ := hw
      refine hg_iald hC dX1_doStep_273 qC_54 kC_54 h9 (n := 274) rfl ?_
      refine hg_aload_n hC dX1_doStep_274 rfl 4 rfl (n := 275) rfl ?_
      refine hg_getr hC fl_RX1_9 dX1_doStep_275 qC_53 kC_53 fC_1_0 rC_53_0 (n := 278) rfl ?_
      refine hg_aload_n hC dX1_doStep_278 rfl 5 rfl (n := 279) rfl ?_
      refine hg_getr hC fl_RX1_127 dX1_doStep_279 qC_42 kC_42 fC_0_0 rC_42_0 (n := 282) rfl ?_
      refine hg_iconst hC dX1_doStep_282 hl_i3 (n := 283) rfl ?_
      refine hg_aald hC (r := 47) dX1_doStep_283 qC_43 kC_43 vi_3_6 riC_43_3 (n := 284) rfl ?_
      refine hg_iload_n hC dX1_doStep_284 rfl 6 rfl (n := 285) rfl ?_
      obtain ⟨h9, hw⟩ := hw
      refine hg_iald hC dX1_doStep_285 qC_47 kC_47 h9 (n := 286) rfl ?_
      obtain ⟨h9, hw⟩ := hw
      refine hg_iald hC dX1_doStep_286 qC_54 kC_54 h9 (n := 287) rfl ?_
      refine hg_iload hC dX1_doStep_287 0 rfl (n := 289) rfl ?_
      refine hg_cVv hC (tC_X1_reach (hg_Eof hC) X.2.1 (d + 0) _ _ _ _ _ _ _ hw) sv_RX1_99 dX1_doStep_289 qC_53 kC_53 c_1 rfl (rest := []) rfl (Nat.le_of_ble_eq_true rfl) (n := 292) rfl (fun σ12 hw => ?_)
      exact hg_sub [] rfl (tbC_X1_doStep_292 hC hR  σ12 hw)
    · have hw := hw.2.2.2.2.2.2.2.2.1 hsx
      refine hg_tin hC dX1_doStep_40 hsx (by decide) (by decide) (by rfl) (tg := 263) rfl ?_
      refine hg_aload_n hC dX1_doStep_263 rfl 4 rfl (n := 264) rfl ?_
      refine hg_iload_n hC dX1_doStep_264 rfl 3 rfl (n := 265) rfl ?_
      refine hg_iload hC dX1_doStep_265 2 rfl (n := 267) rfl ?_
      refine hg_aload_n hC dX1_doStep_267 rfl 4 rfl (n := 268) rfl ?_
      refine hg_getr hC fl_RX1_9 dX1_doStep_268 qC_53 kC_53 fC_1_0 rC_53_0 (n := 271) rfl ?_
      refine hg_iload hC dX1_doStep_271 1 rfl (n := 273) rfl ?_
      obtain ⟨h9, hw⟩ := hw
      refine hg_iald hC dX1_doStep_273 qC_54 kC_54 h9 (n := 274) rfl ?_
      refine hg_aload_n hC dX1_doStep_274 rfl 4 rfl (n := 275) rfl ?_
      refine hg_getr hC fl_RX1_9 dX1_doStep_275 qC_53 kC_53 fC_1_0 rC_53_0 (n := 278) rfl ?_
      refine hg_aload_n hC dX1_doStep_278 rfl 5 rfl (n := 279) rfl ?_
      refine hg_getr hC fl_RX1_127 dX1_doStep_279 qC_42 kC_42 fC_0_0 rC_42_0 (n := 282) rfl ?_
      refine hg_iconst hC dX1_doStep_282 hl_i3 (n := 283) rfl ?_
      refine hg_aald hC (r := 47) dX1_doStep_283 qC_43 kC_43 vi_3_6 riC_43_3 (n := 284) rfl ?_
      refine hg_iload_n hC dX1_doStep_284 rfl 6 rfl (n := 285) rfl ?_
      obtain ⟨h9, hw⟩ := hw
      refine hg_iald hC dX1_doStep_285 qC_47 kC_47 h9 (n := 286) rfl ?_
      obtain ⟨h9, hw⟩ := hw
      refine hg_iald hC dX1_doStep_286 qC_54 kC_54 h9 (n := 287) rfl ?_
      refine hg_iload hC dX1_doStep_287 0 rfl (n := 289) rfl ?_
      refine hg_cVv hC (tC_X1_reach (hg_Eof hC) X.2.1 (d + 0) _ _ _ _ _ _ _ hw) sv_RX1_99 dX1_doStep_289 qC_53 kC_53 c_1 rfl (rest := []) rfl (Nat.le_of_ble_eq_true rfl) (n := 292) rfl (fun σ13 hw => ?_)
      exact hg_sub [] rfl (tbC_X1_doStep_292 hC hR  σ13 hw)
    · have hw := hw.2.2.2.2.2.2.2.2.2.1 hsx
      refine hg_tin hC dX1_doStep_40 hsx (by decide) (by decide) (by rfl) (tg := 263) rfl ?_
      refine hg_aload_n hC dX1_doStep_263 rfl 4 rfl (n := 264) rfl ?_
      refine hg_iload_n hC dX1_doStep_264 rfl 3 rfl (n := 265) rfl ?_
      refine hg_iload hC dX1_doStep_265 2 rfl (n := 267) rfl ?_
      refine hg_aload_n hC dX1_doStep_267 rfl 4 rfl (n := 268) rfl ?_
      refine hg_getr hC fl_RX1_9 dX1_doStep_268 qC_53 kC_53 fC_1_0 rC_53_0 (n := 271) rfl ?_
      refine hg_iload hC dX1_doStep_271 1 rfl (n := 273) rfl ?_
      obtain ⟨h9, hw⟩ := hw
      refine hg_iald hC dX1_doStep_273 qC_54 kC_54 h9 (n := 274) rfl ?_
      refine hg_aload_n hC dX1_doStep_274 rfl 4 rfl (n := 275) rfl ?_
      refine hg_getr hC fl_RX1_9 dX1_doStep_275 qC_53 kC_53 fC_1_0 rC_53_0 (n := 278) rfl ?_
      refine hg_aload_n hC dX1_doStep_278 rfl 5 rfl (n := 279) rfl ?_
      refine hg_getr hC fl_RX1_127 dX1_doStep_279 qC_42 kC_42 fC_0_0 rC_42_0 (n := 282) rfl ?_
      refine hg_iconst hC dX1_doStep_282 hl_i3 (n := 283) rfl ?_
      refine hg_aald hC (r := 47) dX1_doStep_283 qC_43 kC_43 vi_3_6 riC_43_3 (n := 284) rfl ?_
      refine hg_iload_n hC dX1_doStep_284 rfl 6 rfl (n := 285) rfl ?_
      obtain ⟨h9, hw⟩ := hw
      refine hg_iald hC dX1_doStep_285 qC_47 kC_47 h9 (n := 286) rfl ?_
      obtain ⟨h9, hw⟩ := hw
      refine hg_iald hC dX1_doStep_286 qC_54 kC_54 h9 (n := 287) rfl ?_
      refine hg_iload hC dX1_doStep_287 0 rfl (n := 289) rfl ?_
      refine hg_cVv hC (tC_X1_reach (hg_Eof hC) X.2.1 (d + 0) _ _ _ _ _ _ _ hw) sv_RX1_99 dX1_doStep_289 qC_53 kC_53 c_1 rfl (rest := []) rfl (Nat.le_of_ble_eq_true rfl) (n := 292) rfl (fun σ14 hw => ?_)
      exact hg_sub [] rfl (tbC_X1_doStep_292 hC hR  σ14 hw)
    · have hw := hw.2.2.2.2.2.2.2.2.2.2.1 hsx
      refine hg_tin hC dX1_doStep_40 hsx (by decide) (by decide) (by rfl) (tg := 263) rfl ?_
      refine hg_aload_n hC dX1_doStep_263 rfl 4 rfl (n := 264) rfl ?_
      refine hg_iload_n hC dX1_doStep_264 rfl 3 rfl (n := 265) rfl ?_
      refine hg_iload hC dX1_doStep_265 2 rfl (n := 267) rfl ?_
      refine hg_aload_n hC dX1_doStep_267 rfl 4 rfl (n := 268) rfl ?_
      refine hg_getr hC fl_RX1_9 dX1_doStep_268 qC_53 kC_53 fC_1_0 rC_53_0 (n := 271) rfl ?_
      refine hg_iload hC dX1_doStep_271 1 rfl (n := 273) rfl ?_
      obtain ⟨h9, hw⟩ := hw
      refine hg_iald hC dX1_doStep_273 qC_54 kC_54 h9 (n := 274) rfl ?_
      refine hg_aload_n hC dX1_doStep_274 rfl 4 rfl (n := 275) rfl ?_
      refine hg_getr hC fl_RX1_9 dX1_doStep_275 qC_53 kC_53 fC_1_0 rC_53_0 (n := 278) rfl ?_
      refine hg_aload_n hC dX1_doStep_278 rfl 5 rfl (n := 279) rfl ?_
      refine hg_getr hC fl_RX1_127 dX1_doStep_279 qC_42 kC_42 fC_0_0 rC_42_0 (n := 282) rfl ?_
      refine hg_iconst hC dX1_doStep_282 hl_i3 (n := 283) rfl ?_
      refine hg_aald hC (r := 47) dX1_doStep_283 qC_43 kC_43 vi_3_6 riC_43_3 (n := 284) rfl ?_
      refine hg_iload_n hC dX1_doStep_284 rfl 6 rfl (n := 285) rfl ?_
      obtain ⟨h9, hw⟩ := hw
      refine hg_iald hC dX1_doStep_285 qC_47 kC_47 h9 (n := 286) rfl ?_
      obtain ⟨h9, hw⟩ := hw
      refine hg_iald hC dX1_doStep_286 qC_54 kC_54 h9 (n := 287) rfl ?_
      refine hg_iload hC dX1_doStep_287 0 rfl (n := 289) rfl ?_
      refine hg_cVv hC (tC_X1_reach (hg_Eof hC) X.2.1 (d + 0) _ _ _ _ _ _ _ hw) sv_RX1_99 dX1_doStep_289 qC_53 kC_53 c_1 rfl (rest := []) rfl (Nat.le_of_ble_eq_true rfl) (n := 292) rfl (fun σ15 hw => ?_)
      exact hg_sub [] rfl (tbC_X1_doStep_292 hC hR  σ15 hw)
    · have hw := hw.2.2.2.2.2.2.2.2.2.2.2.1 hsx
      refine hg_tin hC dX1_doStep_40 hsx (by decide) (by decide) (by rfl) (tg := 263) rfl ?_
      refine hg_aload_n hC dX1_doStep_263 rfl 4 rfl (n := 264) rfl ?_
      refine hg_iload_n hC dX1_doStep_264 rfl 3 rfl (n := 265) rfl ?_
      refine hg_iload hC dX1_doStep_265 2 rfl (n := 267) rfl ?_
      refine hg_aload_n hC dX1_doStep_267 rfl 4 rfl (n := 268) rfl ?_
      refine hg_getr hC fl_RX1_9 dX1_doStep_268 qC_53 kC_53 fC_1_0 rC_53_0 (n := 271) rfl ?_
      refine hg_iload hC dX1_doStep_271 1 rfl (n := 273) rfl ?_
      obtain ⟨h9, hw⟩ := hw
      refine hg_iald hC dX1_doStep_273 qC_54 kC_54 h9 (n := 274) rfl ?_
      refine hg_aload_n hC dX1_doStep_274 rfl 4 rfl (n := 275) rfl ?_
      refine hg_getr hC fl_RX1_9 dX1_doStep_275 qC_53 kC_53 fC_1_0 rC_53_0 (n := 278) rfl ?_
      refine hg_aload_n hC dX1_doStep_278 rfl 5 rfl (n := 279) rfl ?_
      refine hg_getr hC fl_RX1_127 dX1_doStep_279 qC_42 kC_42 fC_0_0 rC_42_0 (n := 282) rfl ?_
      refine hg_iconst hC dX1_doStep_282 hl_i3 (n := 283) rfl ?_
      refine hg_aald hC (r := 47) dX1_doStep_283 qC_43 kC_43 vi_3_6 riC_43_3 (n := 284) rfl ?_
      refine hg_iload_n hC dX1_doStep_284 rfl 6 rfl (n := 285) rfl ?_
      obtain ⟨h9, hw⟩ := hw
      refine hg_iald hC dX1_doStep_285 qC_47 kC_47 h9 (n := 286) rfl ?_
      obtain ⟨h9, hw⟩ := hw
      refine hg_iald hC dX1_doStep_286 qC_54 kC_54 h9 (n := 287) rfl ?_
      refine hg_iload hC dX1_doStep_287 0 rfl (n := 289) rfl ?_
      refine hg_cVv hC (tC_X1_reach (hg_Eof hC) X.2.1 (d + 0) _ _ _ _ _ _ _ hw) sv_RX1_99 dX1_doStep_289 qC_53 kC_53 c_1 rfl (rest := []) rfl (Nat.le_of_ble_eq_true rfl) (n := 292) rfl (fun σ16 hw => ?_)
      exact hg_sub [] rfl (tbC_X1_doStep_292 hC hR  σ16 hw)
    · have hw := hw.2.2.2.2.2.2.2.2.2.2.2.2.1 hsx
      refine hg_tin hC dX1_doStep_40 hsx (by decide) (by decide) (by rfl) (tg := 263) rfl ?_
      refine hg_aload_n hC dX1_doStep_263 rfl 4 rfl (n := 264) rfl ?_
      refine hg_iload_n hC dX1_doStep_264 rfl 3 rfl (n := 265) rfl ?_
      refine hg_iload hC dX1_doStep_265 2 rfl (n := 267) rfl ?_
      refine hg_aload_n hC dX1_doStep_267 rfl 4 rfl (n := 268) rfl ?_
      refine hg_getr hC fl_RX1_9 dX1_doStep_268 qC_53 kC_53 fC_1_0 rC_53_0 (n := 271) rfl ?_
      refine hg_iload hC dX1_doStep_271 1 rfl (n := 273) rfl ?_
      obtain ⟨h9, hw⟩ := hw
      refine hg_iald hC dX1_doStep_273 qC_54 kC_54 h9 (n := 274) rfl ?_
      refine hg_aload_n hC dX1_doStep_274 rfl 4 rfl (n := 275) rfl ?_
      refine hg_getr hC fl_RX1_9 dX1_doStep_275 qC_53 kC_53 fC_1_0 rC_53_0 (n := 278) rfl ?_
      refine hg_aload_n hC dX1_doStep_278 rfl 5 rfl (n := 279) rfl ?_
      refine hg_getr hC fl_RX1_127 dX1_doStep_279 qC_42 kC_42 fC_0_0 rC_42_0 (n := 282) rfl ?_
      refine hg_iconst hC dX1_doStep_282 hl_i3 (n := 283) rfl ?_
      refine hg_aald hC (r := 47) dX1_doStep_283 qC_43 kC_43 vi_3_6 riC_43_3 (n := 284) rfl ?_
      refine hg_iload_n hC dX1_doStep_284 rfl 6 rfl (n := 285) rfl ?_
      obtain ⟨h9, hw⟩ := hw
      refine hg_iald hC dX1_doStep_285 qC_47 kC_47 h9 (n := 286) rfl ?_
      obtain ⟨h9, hw⟩ := hw
      refine hg_iald hC dX1_doStep_286 qC_54 kC_54 h9 (n := 287) rfl ?_
      refine hg_iload hC dX1_doStep_287 0 rfl (n := 289) rfl ?_
      refine hg_cVv hC (tC_X1_reach (hg_Eof hC) X.2.1 (d + 0) _ _ _ _ _ _ _ hw) sv_RX1_99 dX1_doStep_289 qC_53 kC_53 c_1 rfl (rest := []) rfl (Nat.le_of_ble_eq_true rfl) (n := 292) rfl (fun σ17 hw => ?_)
      exact hg_sub [] rfl (tbC_X1_doStep_292 hC hR  σ17 hw)
    · have hw := hw.2.2.2.2.2.2.2.2.2.2.2.2.2.1 hsx
      refine hg_tin hC dX1_doStep_40 hsx (by decide) (by decide) (by rfl) (tg := 263) rfl ?_
      refine hg_aload_n hC dX1_doStep_263 rfl 4 rfl (n := 264) rfl ?_
      refine hg_iload_n hC dX1_doStep_264 rfl 3 rfl (n := 265) rfl ?_
      refine hg_iload hC dX1_doStep_265 2 rfl (n := 267) rfl ?_
      refine hg_aload_n hC dX1_doStep_267 rfl 4 rfl (n := 268) rfl ?_
      refine hg_getr hC fl_RX1_9 dX1_doStep_268 qC_53 kC_53 fC_1_0 rC_53_0 (n := 271) rfl ?_
      refine hg_iload hC dX1_doStep_271 1 rfl (n := 273) rfl ?_
      obtain ⟨h9, hw⟩ := hw
      refine hg_iald hC dX1_doStep_273 qC_54 kC_54 h9 (n := 274) rfl ?_
      refine hg_aload_n hC dX1_doStep_274 rfl 4 rfl (n := 275) rfl ?_
      refine hg_getr hC fl_RX1_9 dX1_doStep_275 qC_53 kC_53 fC_1_0 rC_53_0 (n := 278) rfl ?_
      refine hg_aload_n hC dX1_doStep_278 rfl 5 rfl (n := 279) rfl ?_
      refine hg_getr hC fl_RX1_127 dX1_doStep_279 qC_42 kC_42 fC_0_0 rC_42_0 (n := 282) rfl ?_
      refine hg_iconst hC dX1_doStep_282 hl_i3 (n := 283) rfl ?_
      refine hg_aald hC (r := 47) dX1_doStep_283 qC_43 kC_43 vi_3_6 riC_43_3 (n := 284) rfl ?_
      refine hg_iload_n hC dX1_doStep_284 rfl 6 rfl (n := 285) rfl ?_
      obtain ⟨h9, hw⟩ := hw
      refine hg_iald hC dX1_doStep_285 qC_47 kC_47 h9 (n := 286) rfl ?_
      obtain ⟨h9, hw⟩ := hw
      refine hg_iald hC dX1_doStep_286 qC_54 kC_54 h9 (n := 287) rfl ?_
      refine hg_iload hC dX1_doStep_287 0 rfl (n := 289) rfl ?_
      refine hg_cVv hC (tC_X1_reach (hg_Eof hC) X.2.1 (d + 0) _ _ _ _ _ _ _ hw) sv_RX1_99 dX1_doStep_289 qC_53 kC_53 c_1 rfl (rest := []) rfl (Nat.le_of_ble_eq_true rfl) (n := 292) rfl (fun σ18 hw => ?_)
      exact hg_sub [] rfl (tbC_X1_doStep_292 hC hR  σ18 hw)
    · have hw := hw.2.2.2.2.2.2.2.2.2.2.2.2.2.2.1 hsx
      refine hg_tin hC dX1_doStep_40 hsx (by decide) (by decide) (by rfl) (tg := 161) rfl ?_
      refine hg_aload_n hC dX1_doStep_161 rfl 4 rfl (n := 162) rfl ?_
      refine hg_getr hC fl_RX1_9 dX1_doStep_162 qC_53 kC_53 fC_1_0 rC_53_0 (n := 165) rfl ?_
      refine hg_iload hC dX1_doStep_165 2 rfl (n := 167) rfl ?_
      refine hg_aload_n hC dX1_doStep_167 rfl 4 rfl (n := 168) rfl ?_
      refine hg_getr hC fl_RX1_9 dX1_doStep_168 qC_53 kC_53 fC_1_0 rC_53_0 (n := 171) rfl ?_
      refine hg_aload_n hC dX1_doStep_171 rfl 4 rfl (n := 172) rfl ?_
      refine hg_getr hC fl_RX1_9 dX1_doStep_172 qC_53 kC_53 fC_1_0 rC_53_0 (n := 175) rfl ?_
      refine hg_iload hC dX1_doStep_175 1 rfl (n := 177) rfl ?_
      obtain ⟨h9, hw⟩ := hw
      refine hg_iald hC dX1_doStep_177 qC_54 kC_54 h9 (n := 178) rfl ?_
      refine hg_if_eq hC dX1_doStep_178 (tg := 192) rfl (n := 181) rfl (fun h9 => ?_) (fun h9 => ?_)
      · have hw := hw.1 h9
        refine hg_aload_n hC dX1_doStep_192 rfl 5 rfl (n := 193) rfl ?_
        refine hg_getr hC fl_RX1_127 dX1_doStep_193 qC_42 kC_42 fC_0_0 rC_42_0 (n := 196) rfl ?_
        refine hg_iconst hC dX1_doStep_196 hl_i4 (n := 197) rfl ?_
        refine hg_aald hC (r := 48) dX1_doStep_197 qC_43 kC_43 vi_4_6 riC_43_4 (n := 198) rfl ?_
        refine hg_iload_n hC dX1_doStep_198 rfl 6 rfl (n := 199) rfl ?_
        obtain ⟨h9, hw⟩ := hw
        refine hg_iald hC dX1_doStep_199 qC_48 kC_48 h9 (n := 200) rfl ?_
        exact hg_sub [] rfl (tbC_X1_doStep_200 hC hR  v2 (σ 48 (x2).toNatClampNeg) σ hw)
      · have hw := hw.2 h9
        refine hg_aload_n hC dX1_doStep_181 rfl 5 rfl (n := 182) rfl ?_
        refine hg_getr hC fl_RX1_127 dX1_doStep_182 qC_42 kC_42 fC_0_0 rC_42_0 (n := 185) rfl ?_
        refine hg_iconst hC dX1_doStep_185 hl_i3 (n := 186) rfl ?_
        refine hg_aald hC (r := 47) dX1_doStep_186 qC_43 kC_43 vi_3_6 riC_43_3 (n := 187) rfl ?_
        refine hg_iload_n hC dX1_doStep_187 rfl 6 rfl (n := 188) rfl ?_
        obtain ⟨h9, hw⟩ := hw
        refine hg_iald hC dX1_doStep_188 qC_47 kC_47 h9 (n := 189) rfl ?_
        refine hg_goto hC dX1_doStep_189 (tg := 200) rfl ?_
        exact hg_sub [] rfl (tbC_X1_doStep_200 hC hR  v2 (σ 47 (x2).toNatClampNeg) σ hw)
    · have hw := hw.2.2.2.2.2.2.2.2.2.2.2.2.2.2.2.1 hsx
      refine hg_tin hC dX1_doStep_40 hsx (by decide) (by decide) (by rfl) (tg := 205) rfl ?_
      refine hg_aload_n hC dX1_doStep_205 rfl 4 rfl (n := 206) rfl ?_
      refine hg_iload hC dX1_doStep_206 2 rfl (n := 208) rfl ?_
      refine hg_aload_n hC dX1_doStep_208 rfl 4 rfl (n := 209) rfl ?_
      refine hg_getr hC fl_RX1_9 dX1_doStep_209 qC_53 kC_53 fC_1_0 rC_53_0 (n := 212) rfl ?_
      refine hg_iload hC dX1_doStep_212 1 rfl (n := 214) rfl ?_
      obtain ⟨h9, hw⟩ := hw
      refine hg_iald hC dX1_doStep_214 qC_54 kC_54 h9 (n := 215) rfl ?_
      refine hg_iload hC dX1_doStep_215 0 rfl (n := 217) rfl ?_
      refine hg_cVv hC (tC_X1_load (hg_Eof hC) X.2.1 (d + 0) _ _ _ _ _ hw) sv_RX1_103 dX1_doStep_217 qC_53 kC_53 c_1 rfl (rest := []) rfl (Nat.le_of_ble_eq_true rfl) (n := 220) rfl (fun σ19 hw => ?_)
      refine hg_goto hC dX1_doStep_220 (tg := 292) rfl ?_
      exact hg_sub [] rfl (tbC_X1_doStep_292 hC hR  σ19 hw)
    · have hw := hw.2.2.2.2.2.2.2.2.2.2.2.2.2.2.2.2.1 hsx
      refine hg_tin hC dX1_doStep_40 hsx (by decide) (by decide) (by rfl) (tg := 223) rfl ?_
      refine hg_aload_n hC dX1_doStep_223 rfl 4 rfl (n := 224) rfl ?_
      refine hg_aload_n hC dX1_doStep_224 rfl 4 rfl (n := 225) rfl ?_
      refine hg_getr hC fl_RX1_9 dX1_doStep_225 qC_53 kC_53 fC_1_0 rC_53_0 (n := 228) rfl ?_
      refine hg_iload hC dX1_doStep_228 2 rfl (n := 230) rfl ?_
      obtain ⟨h9, hw⟩ := hw
      refine hg_iald hC dX1_doStep_230 qC_54 kC_54 h9 (n := 231) rfl ?_
      refine hg_aload_n hC dX1_doStep_231 rfl 4 rfl (n := 232) rfl ?_
      refine hg_getr hC fl_RX1_9 dX1_doStep_232 qC_53 kC_53 fC_1_0 rC_53_0 (n := 235) rfl ?_
      refine hg_iload hC dX1_doStep_235 1 rfl (n := 237) rfl ?_
      obtain ⟨h9, hw⟩ := hw
      refine hg_iald hC dX1_doStep_237 qC_54 kC_54 h9 (n := 238) rfl ?_
      refine hg_iload hC dX1_doStep_238 0 rfl (n := 240) rfl ?_
      refine hg_cVv hC (tC_X1_store (hg_Eof hC) X.2.1 (d + 0) _ _ _ _ _ hw) sv_RX1_107 dX1_doStep_240 qC_53 kC_53 c_1 rfl (rest := []) rfl (Nat.le_of_ble_eq_true rfl) (n := 243) rfl (fun σ20 hw => ?_)
      refine hg_goto hC dX1_doStep_243 (tg := 292) rfl ?_
      exact hg_sub [] rfl (tbC_X1_doStep_292 hC hR  σ20 hw)
    · have hw := hw.2.2.2.2.2.2.2.2.2.2.2.2.2.2.2.2.2.1 hsx
      refine hg_tin hC dX1_doStep_40 hsx (by decide) (by decide) (by rfl) (tg := 246) rfl ?_
      refine hg_goto hC dX1_doStep_246 (tg := 292) rfl ?_
      exact hg_sub [] rfl (tbC_X1_doStep_292 hC hR  σ hw)
    · have hw := hw.2.2.2.2.2.2.2.2.2.2.2.2.2.2.2.2.2.2.1 hsx
      refine hg_tin hC dX1_doStep_40 hsx (by decide) (by decide) (by rfl) (tg := 246) rfl ?_
      refine hg_goto hC dX1_doStep_246 (tg := 292) rfl ?_
      exact hg_sub [] rfl (tbC_X1_doStep_292 hC hR  σ hw)
    · have hw := hw.2.2.2.2.2.2.2.2.2.2.2.2.2.2.2.2.2.2.2 hsx
      refine hg_tin hC dX1_doStep_40 hsx (by decide) (by decide) (by rfl) (tg := 249) rfl ?_
      refine hg_aload_n hC dX1_doStep_249 rfl 4 rfl (n := 250) rfl ?_
      refine hg_aload_n hC dX1_doStep_250 rfl 4 rfl (n := 251) rfl ?_
      refine hg_getr hC fl_RX1_9 dX1_doStep_251 qC_53 kC_53 fC_1_0 rC_53_0 (n := 254) rfl ?_
      refine hg_iload hC dX1_doStep_254 2 rfl (n := 256) rfl ?_
      obtain ⟨h9, hw⟩ := hw
      refine hg_iald hC dX1_doStep_256 qC_54 kC_54 h9 (n := 257) rfl ?_
      refine hg_cVv hC (tC_X1_say (hg_Eof hC) X.2.1 (d + 1) _ _ _ hw) sv_RX1_110 dX1_doStep_257 qC_53 kC_53 c_1 rfl (rest := []) rfl (Nat.le_of_ble_eq_true rfl) (n := 260) rfl (fun σ21 hw => ?_)
      refine hg_goto hC dX1_doStep_260 (tg := 292) rfl ?_
      exact hg_sub [] rfl (tbC_X1_doStep_292 hC hR  σ21 hw)
def bC_X5_trim_18 (P : Int32 → hg_M → Prop)  (t0 : Int32) (σ : hg_M) : Prop := P t0 σ
def wC_X5_trim  (σ : hg_M) (P : Int32 → hg_M → Prop) : Prop := (((σ 0 6) = 0 → bC_X5_trim_18 P (0 : Int32) σ) ∧ (¬ (σ 0 6) = 0 → wC_X0_dropUseless σ (fun r2 σ1 => bC_X5_trim_18 P r2 σ1)))
set_option maxRecDepth 4000 in
theorem tbC_X5_trim_18 {d : Nat} {E : hg_Et} {X : hg_X} {P : Int32 → hg_M → Prop}  (hC : hg_C hg_FC 1 (d + 5) E cX5_trim RX5 X) (hR : hg_Rni hg_FC (some .int) hg_rC P X)  (t0 : Int32) (σ : hg_M) (hw : bC_X5_trim_18 P t0 σ) : hg_G hg_FC 1 X 18 [] [.int t0] σ hg_rC := by
  unfold bC_X5_trim_18 at hw
  exact hg_reti hC hR dX5_trim_18 hw
set_option maxRecDepth 4000 in
theorem tC_X5_trim {E : hg_Et} (hE : hg_Eok E) (l : Launch) (d : Nat)  (σ : hg_M) (P : Int32 → hg_M → Prop) (hw : wC_X5_trim  σ P) : hg_Ni hg_FC E l yX5_trim cX5_trim 1 (some .int) (d + 5) (fun ad => [.ref (ad 0)]) hg_rC σ P := by
  refine hg_ni hE (by decide) (fun _ => Nat.le_of_ble_eq_true rfl) (fun X hC hR hl => ?_)
  subst hl
  have hC : hg_C hg_FC 1 (d + 5) E cX5_trim RX5 X := hC
  show hg_G hg_FC 1 X 0 [(0, .ref (hg_ad X 0))] [] σ hg_rC
  unfold wC_X5_trim at hw
  refine hg_aload_n hC dX5_trim_0 rfl 0 rfl (n := 1) rfl ?_
  refine hg_geti hC fl_RX5_42 dX5_trim_1 qC_0 kC_0 fC_5_6 (n := 4) rfl ?_
  refine hg_if_eq hC dX5_trim_4 (tg := 17) rfl (n := 7) rfl (fun h9 => ?_) (fun h9 => ?_)
  · have hw := hw.1 h9
    refine hg_iconst hC dX5_trim_17 hl_i0 (n := 18) rfl ?_
    exact hg_sub [] rfl (tbC_X5_trim_18 hC hR  (0 : Int32) σ hw)
  · have hw := hw.2 h9
    refine hg_aload_n hC dX5_trim_7 rfl 0 rfl (n := 8) rfl ?_
    refine hg_getr hC fl_RX5_41 dX5_trim_8 qC_0 kC_0 fC_5_5 rC_0_5 (n := 11) rfl ?_
    refine hg_cVi hC (tC_X0_dropUseless (hg_Eof hC) X.2.1 (d + 0) _ _ hw) sv_RX5_126 dX5_trim_11 qC_42 kC_42 c_0 rfl (rest := []) rfl (Nat.le_of_ble_eq_true rfl) (n := 14) rfl (fun r2 σ1 hw => ?_)
    refine hg_goto hC dX5_trim_14 (tg := 18) rfl ?_
    exact hg_sub [] rfl (tbC_X5_trim_18 hC hR  r2 σ1 hw)
def bC_X4_takeStatement_70 (P : Int32 → hg_M → Prop)  (x1 : Int32) (σ : hg_M) : Prop := wC_X3_begin (σ 3 5) σ (fun r10 σ9 => ∀ σ11 : hg_M, σ11 = hg_set σ9 3 6 ((σ9 3 6) + (1 : Int32)) → ((((x1).toInt ≠ 33 ∧ (x1).toInt ≠ 63 ∧ (x1).toInt ≠ 64) → vp_in r10 60 ∧ (∀ σ12 : hg_M, σ12 = hg_set σ11 10 (r10).toNatClampNeg (x1 - (97 : Int32)) → wC_X4_takeSetting r10 σ12 (fun r14 σ13 => ((r14 = 0 ∨ r14 = 1) ∧ P r14 σ13)))) ∧ ((x1).toInt = 33 → wC_X4_takeTelling r10 σ11 (fun r16 σ15 => ((r16 = 0 ∨ r16 = 1) ∧ P r16 σ15))) ∧ ((x1).toInt = 63 → wC_X4_takeBranch r10 σ11 (fun r18 σ17 => ((r18 = 0 ∨ r18 = 1) ∧ P r18 σ17))) ∧ ((x1).toInt = 64 → wC_X4_takeWrite r10 σ11 (fun r20 σ19 => ((r20 = 0 ∨ r20 = 1) ∧ P r20 σ19)))))
def bC_X4_takeStatement_31 (P : Int32 → hg_M → Prop)  (x1 : Int32) (σ : hg_M) : Prop := (((σ 7 8) < (60 : Int32) → ((x1 ≠ (63 : Int32) → bC_X4_takeStatement_70 P x1 σ) ∧ (x1 = (63 : Int32) → (((σ 3 5) < (6 : Int32) → bC_X4_takeStatement_70 P x1 σ) ∧ (¬ ((σ 3 5) < (6 : Int32)) → wC_X4_refuse (4 : Int32) σ (fun r6 σ5 => ((r6 = 0 ∨ r6 = 1) ∧ P r6 σ5))))))) ∧ (¬ ((σ 7 8) < (60 : Int32)) → wC_X4_refuse (3 : Int32) σ (fun r8 σ7 => ((r8 = 0 ∨ r8 = 1) ∧ P r8 σ7))))
def wC_X4_takeStatement (x1 : Int32) (σ : hg_M) (P : Int32 → hg_M → Prop) : Prop := wC_X4_isVariable x1 σ (fun r2 σ1 => ((r2 ≠ 0 → bC_X4_takeStatement_31 P x1 σ1) ∧ (r2 = 0 → ((x1 = (64 : Int32) → bC_X4_takeStatement_31 P x1 σ1) ∧ (¬ (x1 = (64 : Int32)) → ((x1 = (33 : Int32) → bC_X4_takeStatement_31 P x1 σ1) ∧ (¬ (x1 = (33 : Int32)) → ((x1 = (63 : Int32) → bC_X4_takeStatement_31 P x1 σ1) ∧ (¬ (x1 = (63 : Int32)) → wC_X4_refuse (1 : Int32) σ1 (fun r4 σ3 => ((r4 = 0 ∨ r4 = 1) ∧ P r4 σ3)))))))))))
set_option maxRecDepth 4000 in
theorem tbC_X4_takeStatement_70 {d : Nat} {E : hg_Et} {X : hg_X} {P : Int32 → hg_M → Prop}  (hC : hg_C hg_FC 3 (d + 7) E cX4_takeStatement RX4 X) (hR : hg_Rni hg_FC (some .boolean) hg_rC P X)  (x1 : Int32) (σ : hg_M) (hw : bC_X4_takeStatement_70 P x1 σ) : hg_G hg_FC 3 X 70 [(0, .ref (hg_ad X 3)), (1, .int x1)] [] σ hg_rC := by
  unfold bC_X4_takeStatement_70 at hw
  refine hg_aload_n hC dX4_takeStatement_70 rfl 0 rfl (n := 71) rfl ?_
  refine hg_getr hC fl_RX4_22 dX4_takeStatement_71 qC_3 kC_3 fC_4_2 rC_3_2 (n := 74) rfl ?_
  refine hg_aload_n hC dX4_takeStatement_74 rfl 0 rfl (n := 75) rfl ?_
  refine hg_geti hC fl_RX4_33 dX4_takeStatement_75 qC_3 kC_3 fC_4_5 (n := 78) rfl ?_
  refine hg_cVi hC (tC_X3_begin (hg_Eof hC) X.2.1 (d + 5) _ _ _ hw) sv_RX4_72 dX4_takeStatement_78 qC_7 kC_7 c_3 rfl (rest := []) rfl (Nat.le_of_ble_eq_true rfl) (n := 81) rfl (fun r10 σ9 hw => ?_)
  refine hg_istore_n hC (L1 := [(2, .int r10), (0, .ref (hg_ad X 3)), (1, .int x1)]) dX4_takeStatement_81 rfl (by decide) rfl (n := 82) rfl ?_
  refine hg_aload_n hC dX4_takeStatement_82 rfl 1 rfl (n := 83) rfl ?_
  refine hg_dup hC dX4_takeStatement_83 rfl (n := 84) rfl ?_
  refine hg_geti hC fl_RX4_36 dX4_takeStatement_84 qC_3 kC_3 fC_4_6 (n := 87) rfl ?_
  refine hg_iconst hC dX4_takeStatement_87 hl_i1 (n := 88) rfl ?_
  refine hg_iadd hC dX4_takeStatement_88 (n := 89) rfl ?_
  refine hg_puti hC fp_RX4_36 dX4_takeStatement_89 qC_3 kC_3 fC_4_6 rfl rfl (n := 92) rfl (fun σ11 eσ11 => ?_)
  have hw := hw σ11 eσ11
  refine hg_iload_n hC dX4_takeStatement_92 rfl 2 rfl (n := 93) rfl ?_
  by_cases hsw : (x1).toInt ≠ 33 ∧ (x1).toInt ≠ 63 ∧ (x1).toInt ≠ 64
  · have hw := hw.1 hsw
    refine hg_lku hC dX4_takeStatement_93 (off := 53) (by decide) (by show (if (33 : Int) = (x1).toInt then (41 : Int) else (if (63 : Int) = (x1).toInt then (47 : Int) else (if (64 : Int) = (x1).toInt then (35 : Int) else (53 : Int)))) = _; rw [if_neg (fun h => hsw.1 h.symm), if_neg (fun h => hsw.2.1 h.symm), if_neg (fun h => hsw.2.2 h.symm)]) (tg := 146) rfl ?_
    refine hg_aload_n hC dX4_takeStatement_146 rfl 1 rfl (n := 147) rfl ?_
    refine hg_getr hC fl_RX4_22 dX4_takeStatement_147 qC_3 kC_3 fC_4_2 rC_3_2 (n := 150) rfl ?_
    refine hg_getr hC fl_RX4_85 dX4_takeStatement_150 qC_7 kC_7 fC_3_2 rC_7_2 (n := 153) rfl ?_
    refine hg_iload_n hC dX4_takeStatement_153 rfl 0 rfl (n := 154) rfl ?_
    refine hg_iload_n hC dX4_takeStatement_154 rfl 2 rfl (n := 155) rfl ?_
    refine hg_bipush hC dX4_takeStatement_155 hl_b97 (n := 157) rfl ?_
    refine hg_isub hC dX4_takeStatement_157 (n := 158) rfl ?_
    obtain ⟨h9, hw⟩ := hw
    refine hg_iast hC dX4_takeStatement_158 qC_10 kC_10 h9 (n := 159) rfl (fun σ12 eσ12 => ?_)
    have hw := hw σ12 eσ12
    refine hg_aload_n hC dX4_takeStatement_159 rfl 1 rfl (n := 160) rfl ?_
    refine hg_iload_n hC dX4_takeStatement_160 rfl 0 rfl (n := 161) rfl ?_
    refine hg_cVi hC (tC_X4_takeSetting (hg_Eof hC) X.2.1 (d + 0) _ _ _ hw) sv_RX4_88 dX4_takeStatement_161 qC_3 kC_3 c_4 rfl (rest := []) rfl (Nat.le_of_ble_eq_true rfl) (n := 164) rfl (fun r14 σ13 hw => ?_)
    exact hg_retz hC hR dX4_takeStatement_164 hw
  · rcases (show (x1).toInt = 33 ∨ (x1).toInt = 63 ∨ (x1).toInt = 64 by omega) with hsx | hsx | hsx
    · have hw := hw.2.1 hsx
      refine hg_lku hC dX4_takeStatement_93 (by decide) (by rw [hsx]) (tg := 134) rfl ?_
      refine hg_aload_n hC dX4_takeStatement_134 rfl 1 rfl (n := 135) rfl ?_
      refine hg_iload_n hC dX4_takeStatement_135 rfl 0 rfl (n := 136) rfl ?_
      refine hg_cVi hC (tC_X4_takeTelling (hg_Eof hC) X.2.1 (d + 2) _ _ _ hw) sv_RX4_79 dX4_takeStatement_136 qC_3 kC_3 c_4 rfl (rest := []) rfl (Nat.le_of_ble_eq_true rfl) (n := 139) rfl (fun r16 σ15 hw => ?_)
      exact hg_retz hC hR dX4_takeStatement_139 hw
    · have hw := hw.2.2.1 hsx
      refine hg_lku hC dX4_takeStatement_93 (by decide) (by rw [hsx]) (tg := 140) rfl ?_
      refine hg_aload_n hC dX4_takeStatement_140 rfl 1 rfl (n := 141) rfl ?_
      refine hg_iload_n hC dX4_takeStatement_141 rfl 0 rfl (n := 142) rfl ?_
      refine hg_cVi hC (tC_X4_takeBranch (hg_Eof hC) X.2.1 (d + 0) _ _ _ hw) sv_RX4_82 dX4_takeStatement_142 qC_3 kC_3 c_4 rfl (rest := []) rfl (Nat.le_of_ble_eq_true rfl) (n := 145) rfl (fun r18 σ17 hw => ?_)
      exact hg_retz hC hR dX4_takeStatement_145 hw
    · have hw := hw.2.2.2 hsx
      refine hg_lku hC dX4_takeStatement_93 (by decide) (by rw [hsx]) (tg := 128) rfl ?_
      refine hg_aload_n hC dX4_takeStatement_128 rfl 1 rfl (n := 129) rfl ?_
      refine hg_iload_n hC dX4_takeStatement_129 rfl 0 rfl (n := 130) rfl ?_
      refine hg_cVi hC (tC_X4_takeWrite (hg_Eof hC) X.2.1 (d + 2) _ _ _ hw) sv_RX4_76 dX4_takeStatement_130 qC_3 kC_3 c_4 rfl (rest := []) rfl (Nat.le_of_ble_eq_true rfl) (n := 133) rfl (fun r20 σ19 hw => ?_)
      exact hg_retz hC hR dX4_takeStatement_133 hw
set_option maxRecDepth 4000 in
theorem tbC_X4_takeStatement_31 {d : Nat} {E : hg_Et} {X : hg_X} {P : Int32 → hg_M → Prop}  (hC : hg_C hg_FC 3 (d + 7) E cX4_takeStatement RX4 X) (hR : hg_Rni hg_FC (some .boolean) hg_rC P X)  (x1 : Int32) (σ : hg_M) (hw : bC_X4_takeStatement_31 P x1 σ) : hg_G hg_FC 3 X 31 [(0, .ref (hg_ad X 3)), (1, .int x1)] [] σ hg_rC := by
  unfold bC_X4_takeStatement_31 at hw
  refine hg_aload_n hC dX4_takeStatement_31 rfl 0 rfl (n := 32) rfl ?_
  refine hg_getr hC fl_RX4_22 dX4_takeStatement_32 qC_3 kC_3 fC_4_2 rC_3_2 (n := 35) rfl ?_
  refine hg_geti hC fl_RX4_45 dX4_takeStatement_35 qC_7 kC_7 fC_3_8 (n := 38) rfl ?_
  refine hg_bipush hC dX4_takeStatement_38 hl_b60 (n := 40) rfl ?_
  refine hg_icmp_lt hC dX4_takeStatement_40 (tg := 49) rfl (n := 43) rfl (fun h9 => ?_) (fun h9 => ?_)
  · have hw := hw.1 h9
    refine hg_iload_n hC dX4_takeStatement_49 rfl 1 rfl (n := 50) rfl ?_
    refine hg_bipush hC dX4_takeStatement_50 hl_b63 (n := 52) rfl ?_
    refine hg_icmp_ne hC dX4_takeStatement_52 (tg := 70) rfl (n := 55) rfl (fun h9 => ?_) (fun h9 => ?_)
    · have hw := hw.1 h9
      exact tbC_X4_takeStatement_70 hC hR  x1 σ hw
    · have hw := hw.2 h9
      refine hg_aload_n hC dX4_takeStatement_55 rfl 0 rfl (n := 56) rfl ?_
      refine hg_geti hC fl_RX4_33 dX4_takeStatement_56 qC_3 kC_3 fC_4_5 (n := 59) rfl ?_
      refine hg_bipush hC dX4_takeStatement_59 hl_b6 (n := 61) rfl ?_
      refine hg_icmp_lt hC dX4_takeStatement_61 (tg := 70) rfl (n := 64) rfl (fun h9 => ?_) (fun h9 => ?_)
      · have hw := hw.1 h9
        exact tbC_X4_takeStatement_70 hC hR  x1 σ hw
      · have hw := hw.2 h9
        refine hg_aload_n hC dX4_takeStatement_64 rfl 0 rfl (n := 65) rfl ?_
        refine hg_iconst hC dX4_takeStatement_65 hl_i4 (n := 66) rfl ?_
        refine hg_cVi hC (tC_X4_refuse (hg_Eof hC) X.2.1 (d + 5) _ _ _ hw) sv_RX4_52 dX4_takeStatement_66 qC_3 kC_3 c_4 rfl (rest := []) rfl (Nat.le_of_ble_eq_true rfl) (n := 69) rfl (fun r6 σ5 hw => ?_)
        exact hg_retz hC hR dX4_takeStatement_69 hw
  · have hw := hw.2 h9
    refine hg_aload_n hC dX4_takeStatement_43 rfl 0 rfl (n := 44) rfl ?_
    refine hg_iconst hC dX4_takeStatement_44 hl_i3 (n := 45) rfl ?_
    refine hg_cVi hC (tC_X4_refuse (hg_Eof hC) X.2.1 (d + 5) _ _ _ hw) sv_RX4_52 dX4_takeStatement_45 qC_3 kC_3 c_4 rfl (rest := []) rfl (Nat.le_of_ble_eq_true rfl) (n := 48) rfl (fun r8 σ7 hw => ?_)
    exact hg_retz hC hR dX4_takeStatement_48 hw
set_option maxRecDepth 4000 in
theorem tC_X4_takeStatement {E : hg_Et} (hE : hg_Eok E) (l : Launch) (d : Nat) (x1 : Int32) (σ : hg_M) (P : Int32 → hg_M → Prop) (hw : wC_X4_takeStatement x1 σ P) : hg_Ni hg_FC E l yX4_takeStatement cX4_takeStatement 3 (some .boolean) (d + 7) (fun ad => [.ref (ad 3), .int x1]) hg_rC σ P := by
  refine hg_ni hE (by decide) (fun _ => Nat.le_of_ble_eq_true rfl) (fun X hC hR hl => ?_)
  subst hl
  have hC : hg_C hg_FC 3 (d + 7) E cX4_takeStatement RX4 X := hC
  show hg_G hg_FC 3 X 0 [(0, .ref (hg_ad X 3)), (1, .int x1)] [] σ hg_rC
  unfold wC_X4_takeStatement at hw
  refine hg_iload_n hC dX4_takeStatement_0 rfl 1 rfl (n := 1) rfl ?_
  refine hg_cSi hC (tC_X4_isVariable (hg_Eof hC) X.2.1 (d + 5) _ _ _ hw) ss_RX4_69 dX4_takeStatement_1 rfl (rest := []) rfl (Nat.le_of_ble_eq_true rfl) (n := 4) rfl (fun r2 σ1 hw => ?_)
  refine hg_if_ne hC dX4_takeStatement_4 (tg := 31) rfl (n := 7) rfl (fun h9 => ?_) (fun h9 => ?_)
  · have hw := hw.1 h9
    exact tbC_X4_takeStatement_31 hC hR  x1 σ1 hw
  · have hw := hw.2 h9
    refine hg_iload_n hC dX4_takeStatement_7 rfl 1 rfl (n := 8) rfl ?_
    refine hg_bipush hC dX4_takeStatement_8 hl_b64 (n := 10) rfl ?_
    refine hg_icmp_eq hC dX4_takeStatement_10 (tg := 31) rfl (n := 13) rfl (fun h9 => ?_) (fun h9 => ?_)
    · have hw := hw.1 h9
      exact tbC_X4_takeStatement_31 hC hR  x1 σ1 hw
    · have hw := hw.2 h9
      refine hg_iload_n hC dX4_takeStatement_13 rfl 1 rfl (n := 14) rfl ?_
      refine hg_bipush hC dX4_takeStatement_14 hl_b33 (n := 16) rfl ?_
      refine hg_icmp_eq hC dX4_takeStatement_16 (tg := 31) rfl (n := 19) rfl (fun h9 => ?_) (fun h9 => ?_)
      · have hw := hw.1 h9
        exact tbC_X4_takeStatement_31 hC hR  x1 σ1 hw
      · have hw := hw.2 h9
        refine hg_iload_n hC dX4_takeStatement_19 rfl 1 rfl (n := 20) rfl ?_
        refine hg_bipush hC dX4_takeStatement_20 hl_b63 (n := 22) rfl ?_
        refine hg_icmp_eq hC dX4_takeStatement_22 (tg := 31) rfl (n := 25) rfl (fun h9 => ?_) (fun h9 => ?_)
        · have hw := hw.1 h9
          exact tbC_X4_takeStatement_31 hC hR  x1 σ1 hw
        · have hw := hw.2 h9
          refine hg_aload_n hC dX4_takeStatement_25 rfl 0 rfl (n := 26) rfl ?_
          refine hg_iconst hC dX4_takeStatement_26 hl_i1 (n := 27) rfl ?_
          refine hg_cVi hC (tC_X4_refuse (hg_Eof hC) X.2.1 (d + 5) _ _ _ hw) sv_RX4_52 dX4_takeStatement_27 qC_3 kC_3 c_4 rfl (rest := []) rfl (Nat.le_of_ble_eq_true rfl) (n := 30) rfl (fun r4 σ3 hw => ?_)
          exact hg_retz hC hR dX4_takeStatement_30 hw
def bC_X1_doBranch_77 (R : Int32 → Int32 → Int32 → hg_M → (hg_M → Prop) → Prop) (P : hg_M → Prop)   (σ : hg_M) : Prop := P σ
def wC_X1_doBranch (R : Int32 → Int32 → Int32 → hg_M → (hg_M → Prop) → Prop) (x2 : Int32) (x3 : Int32) (σ : hg_M) (P : hg_M → Prop) : Prop := ((x3 < (6 : Int32) → vp_in x2 60 ∧ (wC_X1_valueOf ((2 : Int32) * x2) σ (fun r2 σ1 => wC_X1_valueOf (((2 : Int32) * x2) + (1 : Int32)) σ1 (fun r4 σ3 => wC_X5_resultOf (σ 20 (x2).toNatClampNeg) r2 r4 σ3 (fun r6 σ5 => ((r6 = 0 → vp_in x2 60 ∧ (vp_in x2 60 ∧ (R (σ5 21 (x2).toNatClampNeg) (σ5 22 (x2).toNatClampNeg) (x3 + (1 : Int32)) σ5 (fun σ7 => bC_X1_doBranch_77 R P σ7)))) ∧ (¬ r6 = 0 → vp_in x2 60 ∧ (R (x2 + (1 : Int32)) (σ5 21 (x2).toNatClampNeg) (x3 + (1 : Int32)) σ5 (fun σ8 => bC_X1_doBranch_77 R P σ8))))))))) ∧ (¬ (x3 < (6 : Int32)) → P σ))
set_option maxRecDepth 4000 in
theorem tbC_X1_doBranch_77 {d : Nat} {E : hg_Et} {X : hg_X} {R : Int32 → Int32 → Int32 → hg_M → (hg_M → Prop) → Prop} {P : hg_M → Prop}  (hRr : ∀ (a2 : Int32) (a3 : Int32) (a4 : Int32) (σ : hg_M) (P : hg_M → Prop), R a2 a3 a4 σ P → hg_Nv hg_FC E X.2.1 yX1_doRange cX1_doRange 6 (d + 4) (fun ad => [.ref (ad 53), .ref (ad 16), .int a2, .int a3, .int a4]) hg_rC σ P) (hC : hg_C hg_FC 4 (d + 5) E cX1_doBranch RX1 X) (hR : hg_Rnv hg_FC hg_rC P X)   (σ : hg_M) (hw : bC_X1_doBranch_77 R P  σ) : hg_G hg_FC 4 X 77 [] [] σ hg_rC := by
  unfold bC_X1_doBranch_77 at hw
  exact hg_retv hC hR dX1_doBranch_77 hw
set_option maxRecDepth 4000 in
theorem tC_X1_doBranch {E : hg_Et} (hE : hg_Eok E) (l : Launch) (d : Nat) {R : Int32 → Int32 → Int32 → hg_M → (hg_M → Prop) → Prop} (hRr : ∀ (a2 : Int32) (a3 : Int32) (a4 : Int32) (σ : hg_M) (P : hg_M → Prop), R a2 a3 a4 σ P → hg_Nv hg_FC E l yX1_doRange cX1_doRange 6 (d + 4) (fun ad => [.ref (ad 53), .ref (ad 16), .int a2, .int a3, .int a4]) hg_rC σ P) (x2 : Int32) (x3 : Int32) (σ : hg_M) (P : hg_M → Prop) (hw : wC_X1_doBranch R x2 x3 σ P) : hg_Nv hg_FC E l yX1_doBranch cX1_doBranch 4 (d + 5) (fun ad => [.ref (ad 53), .ref (ad 16), .int x2, .int x3]) hg_rC σ P := by
  refine hg_nv hE (by decide) (fun _ => Nat.le_of_ble_eq_true rfl) (fun X hC hR hl => ?_)
  subst hl
  have hC : hg_C hg_FC 4 (d + 5) E cX1_doBranch RX1 X := hC
  show hg_G hg_FC 4 X 0 [(0, .ref (hg_ad X 53)), (1, .ref (hg_ad X 16)), (2, .int x2), (3, .int x3)] [] σ hg_rC
  unfold wC_X1_doBranch at hw
  refine hg_iload_n hC dX1_doBranch_0 rfl 3 rfl (n := 1) rfl ?_
  refine hg_bipush hC dX1_doBranch_1 hl_b6 (n := 3) rfl ?_
  refine hg_icmp_lt hC dX1_doBranch_3 (tg := 7) rfl (n := 6) rfl (fun h9 => ?_) (fun h9 => ?_)
  · have hw := hw.1 h9
    refine hg_aload_n hC dX1_doBranch_7 rfl 1 rfl (n := 8) rfl ?_
    refine hg_getr hC fl_RX1_75 dX1_doBranch_8 qC_16 kC_16 fC_3_3 rC_16_3 (n := 11) rfl ?_
    refine hg_iload_n hC dX1_doBranch_11 rfl 2 rfl (n := 12) rfl ?_
    obtain ⟨h9, hw⟩ := hw
    refine hg_iald hC dX1_doBranch_12 qC_20 kC_20 h9 (n := 13) rfl ?_
    refine hg_aload_n hC dX1_doBranch_13 rfl 0 rfl (n := 14) rfl ?_
    refine hg_aload_n hC dX1_doBranch_14 rfl 1 rfl (n := 15) rfl ?_
    refine hg_iconst hC dX1_doBranch_15 hl_i2 (n := 16) rfl ?_
    refine hg_iload_n hC dX1_doBranch_16 rfl 2 rfl (n := 17) rfl ?_
    refine hg_imul hC dX1_doBranch_17 (n := 18) rfl ?_
    refine hg_cVi hC (tC_X1_valueOf (hg_Eof hC) X.2.1 (d + 3) _ _ _ hw) sv_RX1_78 dX1_doBranch_18 qC_53 kC_53 c_1 rfl (rest := [.int (σ 20 (x2).toNatClampNeg)]) rfl (Nat.le_of_ble_eq_true rfl) (n := 21) rfl (fun r2 σ1 hw => ?_)
    refine hg_aload_n hC dX1_doBranch_21 rfl 0 rfl (n := 22) rfl ?_
    refine hg_aload_n hC dX1_doBranch_22 rfl 1 rfl (n := 23) rfl ?_
    refine hg_iconst hC dX1_doBranch_23 hl_i2 (n := 24) rfl ?_
    refine hg_iload_n hC dX1_doBranch_24 rfl 2 rfl (n := 25) rfl ?_
    refine hg_imul hC dX1_doBranch_25 (n := 26) rfl ?_
    refine hg_iconst hC dX1_doBranch_26 hl_i1 (n := 27) rfl ?_
    refine hg_iadd hC dX1_doBranch_27 (n := 28) rfl ?_
    refine hg_cVi hC (tC_X1_valueOf (hg_Eof hC) X.2.1 (d + 3) _ _ _ hw) sv_RX1_78 dX1_doBranch_28 qC_53 kC_53 c_1 rfl (rest := [.int r2, .int (σ 20 (x2).toNatClampNeg)]) rfl (Nat.le_of_ble_eq_true rfl) (n := 31) rfl (fun r4 σ3 hw => ?_)
    refine hg_cNi hC (tC_X5_resultOf (hg_Eof hC) X.2.1 (d + 3) _ _ _ _ _ hw) sn_RX1_82 dX1_doBranch_31 rfl (rest := []) rfl (Nat.le_of_ble_eq_true rfl) (n := 34) rfl (fun r6 σ5 hw => ?_)
    refine hg_if_eq hC dX1_doBranch_34 (tg := 57) rfl (n := 37) rfl (fun h9 => ?_) (fun h9 => ?_)
    · have hw := hw.1 h9
      refine hg_aload_n hC dX1_doBranch_57 rfl 0 rfl (n := 58) rfl ?_
      refine hg_aload_n hC dX1_doBranch_58 rfl 1 rfl (n := 59) rfl ?_
      refine hg_aload_n hC dX1_doBranch_59 rfl 1 rfl (n := 60) rfl ?_
      refine hg_getr hC fl_RX1_86 dX1_doBranch_60 qC_16 kC_16 fC_3_4 rC_16_4 (n := 63) rfl ?_
      refine hg_iload_n hC dX1_doBranch_63 rfl 2 rfl (n := 64) rfl ?_
      obtain ⟨h9, hw⟩ := hw
      refine hg_iald hC dX1_doBranch_64 qC_21 kC_21 h9 (n := 65) rfl ?_
      refine hg_aload_n hC dX1_doBranch_65 rfl 1 rfl (n := 66) rfl ?_
      refine hg_getr hC fl_RX1_66 dX1_doBranch_66 qC_16 kC_16 fC_3_5 rC_16_5 (n := 69) rfl ?_
      refine hg_iload_n hC dX1_doBranch_69 rfl 2 rfl (n := 70) rfl ?_
      obtain ⟨h9, hw⟩ := hw
      refine hg_iald hC dX1_doBranch_70 qC_22 kC_22 h9 (n := 71) rfl ?_
      refine hg_iload_n hC dX1_doBranch_71 rfl 3 rfl (n := 72) rfl ?_
      refine hg_iconst hC dX1_doBranch_72 hl_i1 (n := 73) rfl ?_
      refine hg_iadd hC dX1_doBranch_73 (n := 74) rfl ?_
      refine hg_cVv hC (hRr _ _ _ _ _ hw) sv_RX1_51 dX1_doBranch_74 qC_53 kC_53 c_1 rfl (rest := []) rfl (Nat.le_of_ble_eq_true rfl) (n := 77) rfl (fun σ7 hw => ?_)
      exact hg_sub [] rfl (tbC_X1_doBranch_77 hRr hC hR  σ7 hw)
    · have hw := hw.2 h9
      refine hg_aload_n hC dX1_doBranch_37 rfl 0 rfl (n := 38) rfl ?_
      refine hg_aload_n hC dX1_doBranch_38 rfl 1 rfl (n := 39) rfl ?_
      refine hg_iload_n hC dX1_doBranch_39 rfl 2 rfl (n := 40) rfl ?_
      refine hg_iconst hC dX1_doBranch_40 hl_i1 (n := 41) rfl ?_
      refine hg_iadd hC dX1_doBranch_41 (n := 42) rfl ?_
      refine hg_aload_n hC dX1_doBranch_42 rfl 1 rfl (n := 43) rfl ?_
      refine hg_getr hC fl_RX1_86 dX1_doBranch_43 qC_16 kC_16 fC_3_4 rC_16_4 (n := 46) rfl ?_
      refine hg_iload_n hC dX1_doBranch_46 rfl 2 rfl (n := 47) rfl ?_
      obtain ⟨h9, hw⟩ := hw
      refine hg_iald hC dX1_doBranch_47 qC_21 kC_21 h9 (n := 48) rfl ?_
      refine hg_iload_n hC dX1_doBranch_48 rfl 3 rfl (n := 49) rfl ?_
      refine hg_iconst hC dX1_doBranch_49 hl_i1 (n := 50) rfl ?_
      refine hg_iadd hC dX1_doBranch_50 (n := 51) rfl ?_
      refine hg_cVv hC (hRr _ _ _ _ _ hw) sv_RX1_51 dX1_doBranch_51 qC_53 kC_53 c_1 rfl (rest := []) rfl (Nat.le_of_ble_eq_true rfl) (n := 54) rfl (fun σ8 hw => ?_)
      refine hg_goto hC dX1_doBranch_54 (tg := 77) rfl ?_
      exact hg_sub [] rfl (tbC_X1_doBranch_77 hRr hC hR  σ8 hw)
  · have hw := hw.2 h9
    exact hg_retv hC hR dX1_doBranch_6 hw
def bC_X1_doRange_75 (R : Int32 → Int32 → Int32 → hg_M → (hg_M → Prop) → Prop) (P : hg_M → Prop)   (σ : hg_M) : Prop := P σ
def bC_X1_doRange_56 (R : Int32 → Int32 → Int32 → hg_M → (hg_M → Prop) → Prop) (P : hg_M → Prop) (J3 : Int32 → Int32 → Int32 → hg_M → Prop) (x3 : Int32) (x4 : Int32) (x5 : Int32) (σ : hg_M) : Prop := vp_in x5 60 ∧ (∀ v4 : Int32, v4 = (hg_max (x5 + (1 : Int32)) (σ 22 (x5).toNatClampNeg)) → J3 x3 x4 v4 σ)
def lC_X1_doRange_3 (R : Int32 → Int32 → Int32 → hg_M → (hg_M → Prop) → Prop) (P : hg_M → Prop)  : Nat → Int32 → Int32 → Int32 → hg_M → Prop
  | 0, _, _, _, _ => False
  | n + 1, x3, x4, x5, σ => ((x3 ≤ x5 → bC_X1_doRange_75 R P σ) ∧ (¬ (x3 ≤ x5) → (((σ 53 4) ≠ 0 → bC_X1_doRange_75 R P σ) ∧ ((σ 53 4) = 0 → ∀ σ1 : hg_M, σ1 = hg_set σ 53 6 ((σ 53 6) + (1 : Int32)) → vp_in x5 60 ∧ ((((σ1 17 (x5).toNatClampNeg) ≠ (5 : Int32) → wC_X1_doSimple x5 σ1 (fun σ2 => bC_X1_doRange_56 R P (fun k0 k1 k2 k3 => lC_X1_doRange_3 R P n k0 k1 k2 k3) x3 x4 x5 σ2)) ∧ ((σ1 17 (x5).toNatClampNeg) = (5 : Int32) → wC_X1_doBranch R x5 x4 σ1 (fun σ3 => bC_X1_doRange_56 R P (fun k0 k1 k2 k3 => lC_X1_doRange_3 R P n k0 k1 k2 k3) x3 x4 x5 σ3))))))))
def wC_X1_doRange (R : Int32 → Int32 → Int32 → hg_M → (hg_M → Prop) → Prop) (x2 : Int32) (x3 : Int32) (x4 : Int32) (σ : hg_M) (P : hg_M → Prop) : Prop := (∃ f9, lC_X1_doRange_3 R P f9 x3 x4 x2 σ)
set_option maxRecDepth 4000 in
theorem tbC_X1_doRange_75 {d : Nat} {E : hg_Et} {X : hg_X} {R : Int32 → Int32 → Int32 → hg_M → (hg_M → Prop) → Prop} {P : hg_M → Prop}  (hRr : ∀ (a2 : Int32) (a3 : Int32) (a4 : Int32) (σ : hg_M) (P : hg_M → Prop), R a2 a3 a4 σ P → hg_Nv hg_FC E X.2.1 yX1_doRange cX1_doRange 6 (d + 4) (fun ad => [.ref (ad 53), .ref (ad 16), .int a2, .int a3, .int a4]) hg_rC σ P) (hC : hg_C hg_FC 6 (d + 6) E cX1_doRange RX1 X) (hR : hg_Rnv hg_FC hg_rC P X)   (σ : hg_M) (hw : bC_X1_doRange_75 R P  σ) : hg_G hg_FC 6 X 75 [] [] σ hg_rC := by
  unfold bC_X1_doRange_75 at hw
  exact hg_retv hC hR dX1_doRange_75 hw
set_option maxRecDepth 4000 in
theorem tbC_X1_doRange_56 {d : Nat} {E : hg_Et} {X : hg_X} {R : Int32 → Int32 → Int32 → hg_M → (hg_M → Prop) → Prop} {P : hg_M → Prop} {J3 : Int32 → Int32 → Int32 → hg_M → Prop} (hRr : ∀ (a2 : Int32) (a3 : Int32) (a4 : Int32) (σ : hg_M) (P : hg_M → Prop), R a2 a3 a4 σ P → hg_Nv hg_FC E X.2.1 yX1_doRange cX1_doRange 6 (d + 4) (fun ad => [.ref (ad 53), .ref (ad 16), .int a2, .int a3, .int a4]) hg_rC σ P) (hC : hg_C hg_FC 6 (d + 6) E cX1_doRange RX1 X) (hR : hg_Rnv hg_FC hg_rC P X) (hJ3 : ∀ (x3 : Int32) (x4 : Int32) (x5 : Int32) (σ : hg_M), J3 x3 x4 x5 σ → hg_G hg_FC 6 X 3 [(0, .ref (hg_ad X 53)), (1, .ref (hg_ad X 16)), (3, .int x3), (4, .int x4), (5, .int x5)] [] σ hg_rC) (x3 : Int32) (x4 : Int32) (x5 : Int32) (σ : hg_M) (hw : bC_X1_doRange_56 R P J3 x3 x4 x5 σ) : hg_G hg_FC 6 X 56 [(0, .ref (hg_ad X 53)), (1, .ref (hg_ad X 16)), (3, .int x3), (4, .int x4), (5, .int x5)] [] σ hg_rC := by
  unfold bC_X1_doRange_56 at hw
  refine hg_iload hC dX1_doRange_56 4 rfl (n := 58) rfl ?_
  refine hg_iconst hC dX1_doRange_58 hl_i1 (n := 59) rfl ?_
  refine hg_iadd hC dX1_doRange_59 (n := 60) rfl ?_
  refine hg_aload_n hC dX1_doRange_60 rfl 1 rfl (n := 61) rfl ?_
  refine hg_getr hC fl_RX1_66 dX1_doRange_61 qC_16 kC_16 fC_3_5 rC_16_5 (n := 64) rfl ?_
  refine hg_iload hC dX1_doRange_64 4 rfl (n := 66) rfl ?_
  obtain ⟨h9, hw⟩ := hw
  refine hg_iald hC dX1_doRange_66 qC_22 kC_22 h9 (n := 67) rfl ?_
  refine hg_mmax hC mx_RX1_69 mx_1 mx_2 mx_3 (Nat.le_of_ble_eq_true rfl) dX1_doRange_67 (n := 70) rfl ?_
  refine hg_topi (fun v4 ev4 => ?_)
  have hw := hw v4 ev4
  refine hg_istore hC (L1 := [(5, .int v4), (0, .ref (hg_ad X 53)), (1, .ref (hg_ad X 16)), (3, .int x3), (4, .int x4)]) dX1_doRange_70 (by decide) rfl (n := 72) rfl ?_
  refine hg_goto hC dX1_doRange_72 (tg := 3) rfl ?_
  exact hg_sub [1, 2, 3, 4, 0] rfl (hJ3 x3 x4 v4 σ hw)
set_option maxRecDepth 4000 in
theorem tlC_X1_doRange_3 {d : Nat} {E : hg_Et} {X : hg_X} {R : Int32 → Int32 → Int32 → hg_M → (hg_M → Prop) → Prop} {P : hg_M → Prop}  (hRr : ∀ (a2 : Int32) (a3 : Int32) (a4 : Int32) (σ : hg_M) (P : hg_M → Prop), R a2 a3 a4 σ P → hg_Nv hg_FC E X.2.1 yX1_doRange cX1_doRange 6 (d + 4) (fun ad => [.ref (ad 53), .ref (ad 16), .int a2, .int a3, .int a4]) hg_rC σ P) (hC : hg_C hg_FC 6 (d + 6) E cX1_doRange RX1 X) (hR : hg_Rnv hg_FC hg_rC P X)  (n : Nat) : ∀ (x3 : Int32) (x4 : Int32) (x5 : Int32) (σ : hg_M), lC_X1_doRange_3 R P n x3 x4 x5 σ → hg_G hg_FC 6 X 3 [(0, .ref (hg_ad X 53)), (1, .ref (hg_ad X 16)), (3, .int x3), (4, .int x4), (5, .int x5)] [] σ hg_rC := by
  induction n with
  | zero =>
    intro x3 x4 x5 σ hw
    rw [lC_X1_doRange_3] at hw
    exact hw.elim
  | succ n ih =>
    intro x3 x4 x5 σ hw
    rw [lC_X1_doRange_3] at hw
    refine hg_iload hC dX1_doRange_3 4 rfl (n := 5) rfl ?_
    refine hg_iload_n hC dX1_doRange_5 rfl 2 rfl (n := 6) rfl ?_
    refine hg_icmp_ge hC dX1_doRange_6 (tg := 75) rfl (n := 9) rfl (fun h9 => ?_) (fun h9 => ?_)
    · have hw := hw.1 h9
      exact hg_sub [] rfl (tbC_X1_doRange_75 hRr hC hR  σ hw)
    · have hw := hw.2 h9
      refine hg_aload_n hC dX1_doRange_9 rfl 0 rfl (n := 10) rfl ?_
      refine hg_geti hC fl_RX1_25 dX1_doRange_10 qC_53 kC_53 fC_1_4 (n := 13) rfl ?_
      refine hg_if_ne hC dX1_doRange_13 (tg := 75) rfl (n := 16) rfl (fun h9 => ?_) (fun h9 => ?_)
      · have hw := hw.1 h9
        exact hg_sub [] rfl (tbC_X1_doRange_75 hRr hC hR  σ hw)
      · have hw := hw.2 h9
        refine hg_aload_n hC dX1_doRange_16 rfl 0 rfl (n := 17) rfl ?_
        refine hg_dup hC dX1_doRange_17 rfl (n := 18) rfl ?_
        refine hg_geti hC fl_RX1_31 dX1_doRange_18 qC_53 kC_53 fC_1_6 (n := 21) rfl ?_
        refine hg_iconst hC dX1_doRange_21 hl_i1 (n := 22) rfl ?_
        refine hg_iadd hC dX1_doRange_22 (n := 23) rfl ?_
        refine hg_puti hC fp_RX1_31 dX1_doRange_23 qC_53 kC_53 fC_1_6 rfl rfl (n := 26) rfl (fun σ1 eσ1 => ?_)
        have hw := hw σ1 eσ1
        refine hg_aload_n hC dX1_doRange_26 rfl 1 rfl (n := 27) rfl ?_
        refine hg_getr hC fl_RX1_55 dX1_doRange_27 qC_16 kC_16 fC_3_0 rC_16_0 (n := 30) rfl ?_
        refine hg_iload hC dX1_doRange_30 4 rfl (n := 32) rfl ?_
        obtain ⟨h9, hw⟩ := hw
        refine hg_iald hC dX1_doRange_32 qC_17 kC_17 h9 (n := 33) rfl ?_
        refine hg_iconst hC dX1_doRange_33 hl_i5 (n := 34) rfl ?_
        refine hg_icmp_ne hC dX1_doRange_34 (tg := 49) rfl (n := 37) rfl (fun h9 => ?_) (fun h9 => ?_)
        · have hw := hw.1 h9
          refine hg_aload_n hC dX1_doRange_49 rfl 0 rfl (n := 50) rfl ?_
          refine hg_aload_n hC dX1_doRange_50 rfl 1 rfl (n := 51) rfl ?_
          refine hg_iload hC dX1_doRange_51 4 rfl (n := 53) rfl ?_
          refine hg_cVv hC (tC_X1_doSimple (hg_Eof hC) X.2.1 (d + 2) _ _ _ hw) sv_RX1_62 dX1_doRange_53 qC_53 kC_53 c_1 rfl (rest := []) rfl (Nat.le_of_ble_eq_true rfl) (n := 56) rfl (fun σ2 hw => ?_)
          exact tbC_X1_doRange_56 hRr hC hR ih x3 x4 x5 σ2 hw
        · have hw := hw.2 h9
          refine hg_aload_n hC dX1_doRange_37 rfl 0 rfl (n := 38) rfl ?_
          refine hg_aload_n hC dX1_doRange_38 rfl 1 rfl (n := 39) rfl ?_
          refine hg_iload hC dX1_doRange_39 4 rfl (n := 41) rfl ?_
          refine hg_iload hC dX1_doRange_41 3 rfl (n := 43) rfl ?_
          refine hg_cVv hC (tC_X1_doBranch (hg_Eof hC) X.2.1 (d + 0) hRr _ _ _ _ hw) sv_RX1_58 dX1_doRange_43 qC_53 kC_53 c_1 rfl (rest := []) rfl (Nat.le_of_ble_eq_true rfl) (n := 46) rfl (fun σ3 hw => ?_)
          refine hg_goto hC dX1_doRange_46 (tg := 56) rfl ?_
          exact tbC_X1_doRange_56 hRr hC hR ih x3 x4 x5 σ3 hw
set_option maxRecDepth 4000 in
theorem tC_X1_doRange {E : hg_Et} (hE : hg_Eok E) (l : Launch) (d : Nat) {R : Int32 → Int32 → Int32 → hg_M → (hg_M → Prop) → Prop} (hRr : ∀ (a2 : Int32) (a3 : Int32) (a4 : Int32) (σ : hg_M) (P : hg_M → Prop), R a2 a3 a4 σ P → hg_Nv hg_FC E l yX1_doRange cX1_doRange 6 (d + 4) (fun ad => [.ref (ad 53), .ref (ad 16), .int a2, .int a3, .int a4]) hg_rC σ P) (x2 : Int32) (x3 : Int32) (x4 : Int32) (σ : hg_M) (P : hg_M → Prop) (hw : wC_X1_doRange R x2 x3 x4 σ P) : hg_Nv hg_FC E l yX1_doRange cX1_doRange 6 (d + 6) (fun ad => [.ref (ad 53), .ref (ad 16), .int x2, .int x3, .int x4]) hg_rC σ P := by
  refine hg_nv hE (by decide) (fun _ => Nat.le_of_ble_eq_true rfl) (fun X hC hR hl => ?_)
  subst hl
  have hC : hg_C hg_FC 6 (d + 6) E cX1_doRange RX1 X := hC
  show hg_G hg_FC 6 X 0 [(0, .ref (hg_ad X 53)), (1, .ref (hg_ad X 16)), (2, .int x2), (3, .int x3), (4, .int x4)] [] σ hg_rC
  unfold wC_X1_doRange at hw
  refine hg_iload_n hC dX1_doRange_0 rfl 2 rfl (n := 1) rfl ?_
  refine hg_istore hC (L1 := [(5, .int x2), (0, .ref (hg_ad X 53)), (1, .ref (hg_ad X 16)), (2, .int x2), (3, .int x3), (4, .int x4)]) dX1_doRange_1 (by decide) rfl (n := 3) rfl ?_
  obtain ⟨n9, hw⟩ := hw
  exact hg_sub [1, 2, 4, 5, 0] rfl (tlC_X1_doRange_3 hRr hC hR  n9 x3 x4 x2 σ hw)
def uC_X1_doRange : Nat → Int32 → Int32 → Int32 → hg_M → (hg_M → Prop) → Prop
  | 0 => fun _ _ _ _ _ => False
  | f + 1 => fun a2 a3 a4 σ P => wC_X1_doRange (uC_X1_doRange f) a2 a3 a4 σ P
theorem tuC_X1_doRange {E : hg_Et} (hE : hg_Eok E) (l : Launch) : ∀ (f d : Nat) (a2 : Int32) (a3 : Int32) (a4 : Int32) (σ : hg_M) (P : hg_M → Prop), uC_X1_doRange f a2 a3 a4 σ P → hg_Nv hg_FC E l yX1_doRange cX1_doRange 6 (d + 2 * f + 4) (fun ad => [.ref (ad 53), .ref (ad 16), .int a2, .int a3, .int a4]) hg_rC σ P := by
  intro f
  induction f with
  | zero => intro d a2 a3 a4 σ P h; exact h.elim
  | succ f ih =>
    intro d a2 a3 a4 σ P h
    have hh := tC_X1_doRange hE l (d + 2 * f) (R := uC_X1_doRange f) (fun a2 a3 a4 σ P h => ih d a2 a3 a4 σ P h) a2 a3 a4 σ P h
    have e : d + 2 * (f + 1) + 4 = d + 2 * f + 6 := by omega
    rw [e]
    exact hh
abbrev vC_X1_doRange (a2 : Int32) (a3 : Int32) (a4 : Int32) (σ : hg_M) (P : hg_M → Prop) : Prop := uC_X1_doRange 8 a2 a3 a4 σ P
abbrev vC_X1_doBranch (a2 : Int32) (a3 : Int32) (σ : hg_M) (P : hg_M → Prop) : Prop := wC_X1_doBranch (uC_X1_doRange 8) a2 a3 σ P
theorem tvC_X1_doRange {E : hg_Et} (hE : hg_Eok E) (l : Launch) (d : Nat) (a2 : Int32) (a3 : Int32) (a4 : Int32) (σ : hg_M) (P : hg_M → Prop) (h : vC_X1_doRange a2 a3 a4 σ P) : hg_Nv hg_FC E l yX1_doRange cX1_doRange 6 (d + 20) (fun ad => [.ref (ad 53), .ref (ad 16), .int a2, .int a3, .int a4]) hg_rC σ P := by
  have hh := tuC_X1_doRange hE l 8 d a2 a3 a4 σ P h
  exact hh
theorem tvC_X1_doBranch {E : hg_Et} (hE : hg_Eok E) (l : Launch) (d : Nat) (a2 : Int32) (a3 : Int32) (σ : hg_M) (P : hg_M → Prop) (h : vC_X1_doBranch a2 a3 σ P) : hg_Nv hg_FC E l yX1_doBranch cX1_doBranch 4 (d + 21) (fun ad => [.ref (ad 53), .ref (ad 16), .int a2, .int a3]) hg_rC σ P := tC_X1_doBranch hE l (d + 16) (R := uC_X1_doRange 8) (fun a2 a3 a4 σ P h => tuC_X1_doRange hE l 8 d a2 a3 a4 σ P h) a2 a3 σ P h
def bC_X4_takeTape_87 (P : Int32 → hg_M → Prop) (J30 : Int32 → hg_M → Prop) (x1 : Int32) (t0 : Int32) (σ : hg_M) : Prop := ((t0 ≠ 0 → ∀ v14 : Int32, v14 = x1 + (1 : Int32) → J30 v14 σ) ∧ (t0 = 0 → (((0 : Int32) = 0 ∨ (0 : Int32) = 1) ∧ P (0 : Int32) σ)))
def bC_X4_takeTape_68 (P : Int32 → hg_M → Prop)  (t0 : Int32) (σ : hg_M) : Prop := ((t0 = 0 ∨ t0 = 1) ∧ P t0 σ)
def bC_X4_takeTape_63 (P : Int32 → hg_M → Prop)   (σ : hg_M) : Prop := bC_X4_takeTape_68 P (1 : Int32) σ
def lC_X4_takeTape_30 (P : Int32 → hg_M → Prop)  : Nat → Int32 → hg_M → Prop
  | 0, _, _ => False
  | n + 1, x1, σ => (((σ 3 1) < x1 → (((0 : Int32) = 0 ∨ (0 : Int32) = 1) ∧ P (0 : Int32) σ)) ∧ (¬ ((σ 3 1) < x1) → wC_X4_nextByte σ (fun r7 σ6 => ((r7 ≠ (-1 : Int32) → ((r7 ≠ (125 : Int32) → wC_X4_takeStatement r7 σ6 (fun r9 σ8 => bC_X4_takeTape_87 P (fun k0 k1 => lC_X4_takeTape_30 P n k0 k1) x1 r9 σ8)) ∧ (r7 = (125 : Int32) → wC_X4_closeSide σ6 (fun r11 σ10 => bC_X4_takeTape_87 P (fun k0 k1 => lC_X4_takeTape_30 P n k0 k1) x1 r11 σ10)))) ∧ (r7 = (-1 : Int32) → (((σ6 3 5) = 0 → bC_X4_takeTape_63 P σ6) ∧ (¬ (σ6 3 5) = 0 → wC_X4_refuse (1 : Int32) σ6 (fun r13 σ12 => ((r13 = 0 → bC_X4_takeTape_68 P (0 : Int32) σ12) ∧ (¬ r13 = 0 → bC_X4_takeTape_63 P σ12))))))))))
def wC_X4_takeTape  (σ : hg_M) (P : Int32 → hg_M → Prop) : Prop := ∀ σ1 : hg_M, σ1 = hg_set σ 7 8 (0 : Int32) → ∀ σ2 : hg_M, σ2 = hg_set σ1 3 5 (0 : Int32) → ∀ σ3 : hg_M, σ3 = hg_set σ2 3 6 (0 : Int32) → ∀ σ4 : hg_M, σ4 = hg_set σ3 3 7 (0 : Int32) → ∀ σ5 : hg_M, σ5 = hg_set σ4 3 8 (0 : Int32) → (∃ f9, lC_X4_takeTape_30 P f9 (0 : Int32) σ5)
set_option maxRecDepth 4000 in
theorem tbC_X4_takeTape_87 {d : Nat} {E : hg_Et} {X : hg_X} {P : Int32 → hg_M → Prop} {J30 : Int32 → hg_M → Prop} (hC : hg_C hg_FC 4 (d + 8) E cX4_takeTape RX4 X) (hR : hg_Rni hg_FC (some .boolean) hg_rC P X) (hJ30 : ∀ (x1 : Int32) (σ : hg_M), J30 x1 σ → hg_G hg_FC 4 X 30 [(0, .ref (hg_ad X 3)), (1, .int x1)] [] σ hg_rC) (x1 : Int32) (t0 : Int32) (σ : hg_M) (hw : bC_X4_takeTape_87 P J30 x1 t0 σ) : hg_G hg_FC 4 X 87 [(0, .ref (hg_ad X 3)), (1, .int x1)] [.int t0] σ hg_rC := by
  unfold bC_X4_takeTape_87 at hw
  refine hg_istore_n hC (L1 := [(3, .int t0), (0, .ref (hg_ad X 3)), (1, .int x1)]) dX4_takeTape_87 rfl (by decide) rfl (n := 88) rfl ?_
  refine hg_iload_n hC dX4_takeTape_88 rfl 0 rfl (n := 89) rfl ?_
  refine hg_if_ne hC dX4_takeTape_89 (tg := 94) rfl (n := 92) rfl (fun h9 => ?_) (fun h9 => ?_)
  · have hw := hw.1 h9
    obtain ⟨v14, ev14⟩ : ∃ z, z = x1 + (1 : Int32) := ⟨_, rfl⟩
    have hw := hw v14 ev14
    refine hg_iinc hC (v := v14) (L1 := [(1, .int v14), (3, .int t0), (0, .ref (hg_ad X 3))]) dX4_takeTape_94 2 rfl (by rw [hl_i1, ev14]) (by decide) rfl (n := 97) rfl ?_
    refine hg_goto hC dX4_takeTape_97 (tg := 30) rfl ?_
    exact hg_sub [2, 0] rfl (hJ30 v14 σ hw)
  · have hw := hw.2 h9
    refine hg_iconst hC dX4_takeTape_92 hl_i0 (n := 93) rfl ?_
    exact hg_retz hC hR dX4_takeTape_93 hw
set_option maxRecDepth 4000 in
theorem tbC_X4_takeTape_68 {d : Nat} {E : hg_Et} {X : hg_X} {P : Int32 → hg_M → Prop}  (hC : hg_C hg_FC 4 (d + 8) E cX4_takeTape RX4 X) (hR : hg_Rni hg_FC (some .boolean) hg_rC P X)  (t0 : Int32) (σ : hg_M) (hw : bC_X4_takeTape_68 P t0 σ) : hg_G hg_FC 4 X 68 [] [.int t0] σ hg_rC := by
  unfold bC_X4_takeTape_68 at hw
  exact hg_retz hC hR dX4_takeTape_68 hw
set_option maxRecDepth 4000 in
theorem tbC_X4_takeTape_63 {d : Nat} {E : hg_Et} {X : hg_X} {P : Int32 → hg_M → Prop}  (hC : hg_C hg_FC 4 (d + 8) E cX4_takeTape RX4 X) (hR : hg_Rni hg_FC (some .boolean) hg_rC P X)   (σ : hg_M) (hw : bC_X4_takeTape_63 P  σ) : hg_G hg_FC 4 X 63 [] [] σ hg_rC := by
  unfold bC_X4_takeTape_63 at hw
  refine hg_iconst hC dX4_takeTape_63 hl_i1 (n := 64) rfl ?_
  refine hg_goto hC dX4_takeTape_64 (tg := 68) rfl ?_
  exact tbC_X4_takeTape_68 hC hR  (1 : Int32) σ hw
set_option maxRecDepth 4000 in
theorem tlC_X4_takeTape_30 {d : Nat} {E : hg_Et} {X : hg_X} {P : Int32 → hg_M → Prop}  (hC : hg_C hg_FC 4 (d + 8) E cX4_takeTape RX4 X) (hR : hg_Rni hg_FC (some .boolean) hg_rC P X)  (n : Nat) : ∀ (x1 : Int32) (σ : hg_M), lC_X4_takeTape_30 P n x1 σ → hg_G hg_FC 4 X 30 [(0, .ref (hg_ad X 3)), (1, .int x1)] [] σ hg_rC := by
  induction n with
  | zero =>
    intro x1 σ hw
    rw [lC_X4_takeTape_30] at hw
    exact hw.elim
  | succ n ih =>
    intro x1 σ hw
    rw [lC_X4_takeTape_30] at hw
    refine hg_iload_n hC dX4_takeTape_30 rfl 1 rfl (n := 31) rfl ?_
    refine hg_aload_n hC dX4_takeTape_31 rfl 0 rfl (n := 32) rfl ?_
    refine hg_geti hC fl_RX4_15 dX4_takeTape_32 qC_3 kC_3 fC_4_1 (n := 35) rfl ?_
    refine hg_icmp_gt hC dX4_takeTape_35 (tg := 100) rfl (n := 38) rfl (fun h9 => ?_) (fun h9 => ?_)
    · have hw := hw.1 h9
      refine hg_iconst hC dX4_takeTape_100 hl_i0 (n := 101) rfl ?_
      exact hg_retz hC hR dX4_takeTape_101 hw
    · have hw := hw.2 h9
      refine hg_aload_n hC dX4_takeTape_38 rfl 0 rfl (n := 39) rfl ?_
      refine hg_cVi hC (tC_X4_nextByte (hg_Eof hC) X.2.1 (d + 6) _ _ hw) sv_RX4_48 dX4_takeTape_39 qC_3 kC_3 c_4 rfl (rest := []) rfl (Nat.le_of_ble_eq_true rfl) (n := 42) rfl (fun r7 σ6 hw => ?_)
      refine hg_istore_n hC (L1 := [(2, .int r7), (0, .ref (hg_ad X 3)), (1, .int x1)]) dX4_takeTape_42 rfl (by decide) rfl (n := 43) rfl ?_
      refine hg_iload_n hC dX4_takeTape_43 rfl 0 rfl (n := 44) rfl ?_
      refine hg_iconst hC dX4_takeTape_44 hl_im1 (n := 45) rfl ?_
      refine hg_icmp_ne hC dX4_takeTape_45 (tg := 69) rfl (n := 48) rfl (fun h9 => ?_) (fun h9 => ?_)
      · have hw := hw.1 h9
        refine hg_iload_n hC dX4_takeTape_69 rfl 0 rfl (n := 70) rfl ?_
        refine hg_bipush hC dX4_takeTape_70 hl_b125 (n := 72) rfl ?_
        refine hg_icmp_ne hC dX4_takeTape_72 (tg := 82) rfl (n := 75) rfl (fun h9 => ?_) (fun h9 => ?_)
        · have hw := hw.1 h9
          refine hg_aload_n hC dX4_takeTape_82 rfl 1 rfl (n := 83) rfl ?_
          refine hg_iload_n hC dX4_takeTape_83 rfl 0 rfl (n := 84) rfl ?_
          refine hg_cVi hC (tC_X4_takeStatement (hg_Eof hC) X.2.1 (d + 0) _ _ _ hw) sv_RX4_60 dX4_takeTape_84 qC_3 kC_3 c_4 rfl (rest := []) rfl (Nat.le_of_ble_eq_true rfl) (n := 87) rfl (fun r9 σ8 hw => ?_)
          exact hg_sub [1, 2] rfl (tbC_X4_takeTape_87 hC hR ih x1 r9 σ8 hw)
        · have hw := hw.2 h9
          refine hg_aload_n hC dX4_takeTape_75 rfl 1 rfl (n := 76) rfl ?_
          refine hg_cVi hC (tC_X4_closeSide (hg_Eof hC) X.2.1 (d + 5) _ _ hw) sv_RX4_56 dX4_takeTape_76 qC_3 kC_3 c_4 rfl (rest := []) rfl (Nat.le_of_ble_eq_true rfl) (n := 79) rfl (fun r11 σ10 hw => ?_)
          refine hg_goto hC dX4_takeTape_79 (tg := 87) rfl ?_
          exact hg_sub [1, 2] rfl (tbC_X4_takeTape_87 hC hR ih x1 r11 σ10 hw)
      · have hw := hw.2 h9
        refine hg_aload_n hC dX4_takeTape_48 rfl 1 rfl (n := 49) rfl ?_
        refine hg_geti hC fl_RX4_33 dX4_takeTape_49 qC_3 kC_3 fC_4_5 (n := 52) rfl ?_
        refine hg_if_eq hC dX4_takeTape_52 (tg := 63) rfl (n := 55) rfl (fun h9 => ?_) (fun h9 => ?_)
        · have hw := hw.1 h9
          exact hg_sub [] rfl (tbC_X4_takeTape_63 hC hR  σ6 hw)
        · have hw := hw.2 h9
          refine hg_aload_n hC dX4_takeTape_55 rfl 1 rfl (n := 56) rfl ?_
          refine hg_iconst hC dX4_takeTape_56 hl_i1 (n := 57) rfl ?_
          refine hg_cVi hC (tC_X4_refuse (hg_Eof hC) X.2.1 (d + 6) _ _ _ hw) sv_RX4_52 dX4_takeTape_57 qC_3 kC_3 c_4 rfl (rest := []) rfl (Nat.le_of_ble_eq_true rfl) (n := 60) rfl (fun r13 σ12 hw => ?_)
          refine hg_if_eq hC dX4_takeTape_60 (tg := 67) rfl (n := 63) rfl (fun h9 => ?_) (fun h9 => ?_)
          · have hw := hw.1 h9
            refine hg_iconst hC dX4_takeTape_67 hl_i0 (n := 68) rfl ?_
            exact hg_sub [] rfl (tbC_X4_takeTape_68 hC hR  (0 : Int32) σ12 hw)
          · have hw := hw.2 h9
            exact hg_sub [] rfl (tbC_X4_takeTape_63 hC hR  σ12 hw)
set_option maxRecDepth 4000 in
theorem tC_X4_takeTape {E : hg_Et} (hE : hg_Eok E) (l : Launch) (d : Nat)  (σ : hg_M) (P : Int32 → hg_M → Prop) (hw : wC_X4_takeTape  σ P) : hg_Ni hg_FC E l yX4_takeTape cX4_takeTape 4 (some .boolean) (d + 8) (fun ad => [.ref (ad 3)]) hg_rC σ P := by
  refine hg_ni hE (by decide) (fun _ => Nat.le_of_ble_eq_true rfl) (fun X hC hR hl => ?_)
  subst hl
  have hC : hg_C hg_FC 4 (d + 8) E cX4_takeTape RX4 X := hC
  show hg_G hg_FC 4 X 0 [(0, .ref (hg_ad X 3))] [] σ hg_rC
  unfold wC_X4_takeTape at hw
  refine hg_aload_n hC dX4_takeTape_0 rfl 0 rfl (n := 1) rfl ?_
  refine hg_getr hC fl_RX4_22 dX4_takeTape_1 qC_3 kC_3 fC_4_2 rC_3_2 (n := 4) rfl ?_
  refine hg_iconst hC dX4_takeTape_4 hl_i0 (n := 5) rfl ?_
  refine hg_puti hC fp_RX4_45 dX4_takeTape_5 qC_7 kC_7 fC_3_8 rfl rfl (n := 8) rfl (fun σ1 eσ1 => ?_)
  have hw := hw σ1 eσ1
  refine hg_aload_n hC dX4_takeTape_8 rfl 0 rfl (n := 9) rfl ?_
  refine hg_iconst hC dX4_takeTape_9 hl_i0 (n := 10) rfl ?_
  refine hg_puti hC fp_RX4_33 dX4_takeTape_10 qC_3 kC_3 fC_4_5 rfl rfl (n := 13) rfl (fun σ2 eσ2 => ?_)
  have hw := hw σ2 eσ2
  refine hg_aload_n hC dX4_takeTape_13 rfl 0 rfl (n := 14) rfl ?_
  refine hg_iconst hC dX4_takeTape_14 hl_i0 (n := 15) rfl ?_
  refine hg_puti hC fp_RX4_36 dX4_takeTape_15 qC_3 kC_3 fC_4_6 rfl rfl (n := 18) rfl (fun σ3 eσ3 => ?_)
  have hw := hw σ3 eσ3
  refine hg_aload_n hC dX4_takeTape_18 rfl 0 rfl (n := 19) rfl ?_
  refine hg_iconst hC dX4_takeTape_19 hl_i0 (n := 20) rfl ?_
  refine hg_puti hC fp_RX4_39 dX4_takeTape_20 qC_3 kC_3 fC_4_7 rfl rfl (n := 23) rfl (fun σ4 eσ4 => ?_)
  have hw := hw σ4 eσ4
  refine hg_aload_n hC dX4_takeTape_23 rfl 0 rfl (n := 24) rfl ?_
  refine hg_iconst hC dX4_takeTape_24 hl_i0 (n := 25) rfl ?_
  refine hg_puti hC fp_RX4_42 dX4_takeTape_25 qC_3 kC_3 fC_4_8 rfl rfl (n := 28) rfl (fun σ5 eσ5 => ?_)
  have hw := hw σ5 eσ5
  refine hg_iconst hC dX4_takeTape_28 hl_i0 (n := 29) rfl ?_
  refine hg_istore_n hC (L1 := [(1, .int (0 : Int32)), (0, .ref (hg_ad X 3))]) dX4_takeTape_29 rfl (by decide) rfl (n := 30) rfl ?_
  obtain ⟨n9, hw⟩ := hw
  exact hg_sub [1, 0] rfl (tlC_X4_takeTape_30 hC hR  n9 (0 : Int32) σ5 hw)
def wC_X1_doText  (σ : hg_M) (P : hg_M → Prop) : Prop := vC_X1_doRange (0 : Int32) (σ 16 8) (0 : Int32) σ (fun σ1 => P σ1)
set_option maxRecDepth 4000 in
theorem tC_X1_doText {E : hg_Et} (hE : hg_Eok E) (l : Launch) (d : Nat)  (σ : hg_M) (P : hg_M → Prop) (hw : wC_X1_doText  σ P) : hg_Nv hg_FC E l yX1_doText cX1_doText 2 (d + 21) (fun ad => [.ref (ad 53), .ref (ad 16)]) hg_rC σ P := by
  refine hg_nv hE (by decide) (fun _ => Nat.le_of_ble_eq_true rfl) (fun X hC hR hl => ?_)
  subst hl
  have hC : hg_C hg_FC 2 (d + 21) E cX1_doText RX1 X := hC
  show hg_G hg_FC 2 X 0 [(0, .ref (hg_ad X 53)), (1, .ref (hg_ad X 16))] [] σ hg_rC
  unfold wC_X1_doText at hw
  refine hg_aload_n hC dX1_doText_0 rfl 0 rfl (n := 1) rfl ?_
  refine hg_aload_n hC dX1_doText_1 rfl 1 rfl (n := 2) rfl ?_
  refine hg_iconst hC dX1_doText_2 hl_i0 (n := 3) rfl ?_
  refine hg_aload_n hC dX1_doText_3 rfl 1 rfl (n := 4) rfl ?_
  refine hg_geti hC fl_RX1_46 dX1_doText_4 qC_16 kC_16 fC_3_8 (n := 7) rfl ?_
  refine hg_iconst hC dX1_doText_7 hl_i0 (n := 8) rfl ?_
  refine hg_cVv hC (tvC_X1_doRange (hg_Eof hC) X.2.1 (d + 0) _ _ _ _ _ hw) sv_RX1_51 dX1_doText_8 qC_53 kC_53 c_1 rfl (rest := []) rfl (Nat.le_of_ble_eq_true rfl) (n := 11) rfl (fun σ1 hw => ?_)
  exact hg_retv hC hR dX1_doText_11 hw
def bC_X1_doCode_53 (P : hg_M → Prop)   (σ : hg_M) : Prop := P σ
def lC_X1_doCode_4 (P : hg_M → Prop)  : Nat → Int32 → hg_M → Prop
  | 0, _, _ => False
  | n + 1, x3, σ => (((σ 42 1) ≤ x3 → bC_X1_doCode_53 P σ) ∧ (¬ ((σ 42 1) ≤ x3) → (((σ 53 4) ≠ 0 → bC_X1_doCode_53 P σ) ∧ ((σ 53 4) = 0 → ∀ σ1 : hg_M, σ1 = hg_set σ 53 6 ((σ 53 6) + (1 : Int32)) → wC_X1_nextBehind x3 σ1 (fun r3 σ2 => wC_X1_doStep x3 σ2 (fun σ4 => ∀ v5 : Int32, v5 = (hg_max (x3 + (1 : Int32)) r3) → lC_X1_doCode_4 P n v5 σ4))))))
def wC_X1_doCode  (σ : hg_M) (P : hg_M → Prop) : Prop := (∃ f9, lC_X1_doCode_4 P f9 (0 : Int32) σ)
set_option maxRecDepth 4000 in
theorem tbC_X1_doCode_53 {d : Nat} {E : hg_Et} {X : hg_X} {P : hg_M → Prop}  (hC : hg_C hg_FC 4 (d + 4) E cX1_doCode RX1 X) (hR : hg_Rnv hg_FC hg_rC P X)   (σ : hg_M) (hw : bC_X1_doCode_53 P  σ) : hg_G hg_FC 4 X 53 [] [] σ hg_rC := by
  unfold bC_X1_doCode_53 at hw
  exact hg_retv hC hR dX1_doCode_53 hw
set_option maxRecDepth 4000 in
theorem tlC_X1_doCode_4 {d : Nat} {E : hg_Et} {X : hg_X} {P : hg_M → Prop}  (hC : hg_C hg_FC 4 (d + 4) E cX1_doCode RX1 X) (hR : hg_Rnv hg_FC hg_rC P X)  (n : Nat) : ∀ (x3 : Int32) (σ : hg_M), lC_X1_doCode_4 P n x3 σ → hg_G hg_FC 4 X 4 [(0, .ref (hg_ad X 53)), (1, .ref (hg_ad X 42)), (3, .int x3)] [] σ hg_rC := by
  induction n with
  | zero =>
    intro x3 σ hw
    rw [lC_X1_doCode_4] at hw
    exact hw.elim
  | succ n ih =>
    intro x3 σ hw
    rw [lC_X1_doCode_4] at hw
    refine hg_iload_n hC dX1_doCode_4 rfl 2 rfl (n := 5) rfl ?_
    refine hg_aload_n hC dX1_doCode_5 rfl 1 rfl (n := 6) rfl ?_
    refine hg_geti hC fl_RX1_114 dX1_doCode_6 qC_42 kC_42 fC_0_1 (n := 9) rfl ?_
    refine hg_icmp_ge hC dX1_doCode_9 (tg := 53) rfl (n := 12) rfl (fun h9 => ?_) (fun h9 => ?_)
    · have hw := hw.1 h9
      exact hg_sub [] rfl (tbC_X1_doCode_53 hC hR  σ hw)
    · have hw := hw.2 h9
      refine hg_aload_n hC dX1_doCode_12 rfl 0 rfl (n := 13) rfl ?_
      refine hg_geti hC fl_RX1_25 dX1_doCode_13 qC_53 kC_53 fC_1_4 (n := 16) rfl ?_
      refine hg_if_ne hC dX1_doCode_16 (tg := 53) rfl (n := 19) rfl (fun h9 => ?_) (fun h9 => ?_)
      · have hw := hw.1 h9
        exact hg_sub [] rfl (tbC_X1_doCode_53 hC hR  σ hw)
      · have hw := hw.2 h9
        refine hg_aload_n hC dX1_doCode_19 rfl 0 rfl (n := 20) rfl ?_
        refine hg_dup hC dX1_doCode_20 rfl (n := 21) rfl ?_
        refine hg_geti hC fl_RX1_31 dX1_doCode_21 qC_53 kC_53 fC_1_6 (n := 24) rfl ?_
        refine hg_iconst hC dX1_doCode_24 hl_i1 (n := 25) rfl ?_
        refine hg_iadd hC dX1_doCode_25 (n := 26) rfl ?_
        refine hg_puti hC fp_RX1_31 dX1_doCode_26 qC_53 kC_53 fC_1_6 rfl rfl (n := 29) rfl (fun σ1 eσ1 => ?_)
        have hw := hw σ1 eσ1
        refine hg_aload_n hC dX1_doCode_29 rfl 0 rfl (n := 30) rfl ?_
        refine hg_aload_n hC dX1_doCode_30 rfl 1 rfl (n := 31) rfl ?_
        refine hg_iload_n hC dX1_doCode_31 rfl 2 rfl (n := 32) rfl ?_
        refine hg_cVi hC (tC_X1_nextBehind (hg_Eof hC) X.2.1 (d + 2) _ _ _ hw) sv_RX1_119 dX1_doCode_32 qC_53 kC_53 c_1 rfl (rest := []) rfl (Nat.le_of_ble_eq_true rfl) (n := 35) rfl (fun r3 σ2 hw => ?_)
        refine hg_istore_n hC (L1 := [(2, .int r3), (0, .ref (hg_ad X 53)), (1, .ref (hg_ad X 42)), (3, .int x3)]) dX1_doCode_35 rfl (by decide) rfl (n := 36) rfl ?_
        refine hg_aload_n hC dX1_doCode_36 rfl 1 rfl (n := 37) rfl ?_
        refine hg_aload_n hC dX1_doCode_37 rfl 2 rfl (n := 38) rfl ?_
        refine hg_iload_n hC dX1_doCode_38 rfl 3 rfl (n := 39) rfl ?_
        refine hg_cVv hC (tC_X1_doStep (hg_Eof hC) X.2.1 (d + 0) _ _ _ hw) sv_RX1_123 dX1_doCode_39 qC_53 kC_53 c_1 rfl (rest := []) rfl (Nat.le_of_ble_eq_true rfl) (n := 42) rfl (fun σ4 hw => ?_)
        refine hg_iload_n hC dX1_doCode_42 rfl 3 rfl (n := 43) rfl ?_
        refine hg_iconst hC dX1_doCode_43 hl_i1 (n := 44) rfl ?_
        refine hg_iadd hC dX1_doCode_44 (n := 45) rfl ?_
        refine hg_iload_n hC dX1_doCode_45 rfl 0 rfl (n := 46) rfl ?_
        refine hg_mmax hC mx_RX1_69 mx_1 mx_2 mx_3 (Nat.le_of_ble_eq_true rfl) dX1_doCode_46 (n := 49) rfl ?_
        refine hg_topi (fun v5 ev5 => ?_)
        have hw := hw v5 ev5
        refine hg_istore_n hC (L1 := [(3, .int v5), (2, .int r3), (0, .ref (hg_ad X 53)), (1, .ref (hg_ad X 42))]) dX1_doCode_49 rfl (by decide) rfl (n := 50) rfl ?_
        refine hg_goto hC dX1_doCode_50 (tg := 4) rfl ?_
        exact hg_sub [2, 3, 0] rfl (ih v5 σ4 hw)
set_option maxRecDepth 4000 in
theorem tC_X1_doCode {E : hg_Et} (hE : hg_Eok E) (l : Launch) (d : Nat)  (σ : hg_M) (P : hg_M → Prop) (hw : wC_X1_doCode  σ P) : hg_Nv hg_FC E l yX1_doCode cX1_doCode 4 (d + 4) (fun ad => [.ref (ad 53), .ref (ad 42)]) hg_rC σ P := by
  refine hg_nv hE (by decide) (fun _ => Nat.le_of_ble_eq_true rfl) (fun X hC hR hl => ?_)
  subst hl
  have hC : hg_C hg_FC 4 (d + 4) E cX1_doCode RX1 X := hC
  show hg_G hg_FC 4 X 0 [(0, .ref (hg_ad X 53)), (1, .ref (hg_ad X 42))] [] σ hg_rC
  unfold wC_X1_doCode at hw
  refine hg_iconst hC dX1_doCode_0 hl_i0 (n := 1) rfl ?_
  refine hg_istore_n hC (L1 := [(2, .int (0 : Int32)), (0, .ref (hg_ad X 53)), (1, .ref (hg_ad X 42))]) dX1_doCode_1 rfl (by decide) rfl (n := 2) rfl ?_
  refine hg_iconst hC dX1_doCode_2 hl_i0 (n := 3) rfl ?_
  refine hg_istore_n hC (L1 := [(3, .int (0 : Int32)), (2, .int (0 : Int32)), (0, .ref (hg_ad X 53)), (1, .ref (hg_ad X 42))]) dX1_doCode_3 rfl (by decide) rfl (n := 4) rfl ?_
  obtain ⟨n9, hw⟩ := hw
  exact hg_sub [2, 3, 0] rfl (tlC_X1_doCode_4 hC hR  n9 (0 : Int32) σ hw)
def wC_X5_tell  (σ : hg_M) (P : Int32 → hg_M → Prop) : Prop := wC_X1_begin σ (fun σ1 => wC_X1_doText σ1 (fun σ2 => P (σ2 53 4) σ2))
set_option maxRecDepth 4000 in
theorem tC_X5_tell {E : hg_Et} (hE : hg_Eok E) (l : Launch) (d : Nat)  (σ : hg_M) (P : Int32 → hg_M → Prop) (hw : wC_X5_tell  σ P) : hg_Ni hg_FC E l yX5_tell cX5_tell 1 (some .int) (d + 22) (fun ad => [.ref (ad 0)]) hg_rC σ P := by
  refine hg_ni hE (by decide) (fun _ => Nat.le_of_ble_eq_true rfl) (fun X hC hR hl => ?_)
  subst hl
  have hC : hg_C hg_FC 1 (d + 22) E cX5_tell RX5 X := hC
  show hg_G hg_FC 1 X 0 [(0, .ref (hg_ad X 0))] [] σ hg_rC
  unfold wC_X5_tell at hw
  refine hg_aload_n hC dX5_tell_0 rfl 0 rfl (n := 1) rfl ?_
  refine hg_getr hC fl_RX5_49 dX5_tell_1 qC_0 kC_0 fC_5_7 rC_0_7 (n := 4) rfl ?_
  refine hg_aload_n hC dX5_tell_4 rfl 0 rfl (n := 5) rfl ?_
  refine hg_getr hC fl_RX5_9 dX5_tell_5 qC_0 kC_0 fC_5_0 rC_0_0 (n := 8) rfl ?_
  refine hg_aload_n hC dX5_tell_8 rfl 0 rfl (n := 9) rfl ?_
  refine hg_getr hC fl_RX5_13 dX5_tell_9 qC_0 kC_0 fC_5_1 rC_0_1 (n := 12) rfl ?_
  refine hg_cVv hC (tC_X1_begin (hg_Eof hC) X.2.1 (d + 19) _ _ hw) sv_RX5_138 dX5_tell_12 qC_53 kC_53 c_1 rfl (rest := []) rfl (Nat.le_of_ble_eq_true rfl) (n := 15) rfl (fun σ1 hw => ?_)
  refine hg_aload_n hC dX5_tell_15 rfl 0 rfl (n := 16) rfl ?_
  refine hg_getr hC fl_RX5_49 dX5_tell_16 qC_0 kC_0 fC_5_7 rC_0_7 (n := 19) rfl ?_
  refine hg_aload_n hC dX5_tell_19 rfl 0 rfl (n := 20) rfl ?_
  refine hg_getr hC fl_RX5_26 dX5_tell_20 qC_0 kC_0 fC_5_3 rC_0_3 (n := 23) rfl ?_
  refine hg_cVv hC (tC_X1_doText (hg_Eof hC) X.2.1 (d + 0) _ _ hw) sv_RX5_142 dX5_tell_23 qC_53 kC_53 c_1 rfl (rest := []) rfl (Nat.le_of_ble_eq_true rfl) (n := 26) rfl (fun σ2 hw => ?_)
  refine hg_aload_n hC dX5_tell_26 rfl 0 rfl (n := 27) rfl ?_
  refine hg_getr hC fl_RX5_49 dX5_tell_27 qC_0 kC_0 fC_5_7 rC_0_7 (n := 30) rfl ?_
  refine hg_geti hC fl_RX5_146 dX5_tell_30 qC_53 kC_53 fC_1_4 (n := 33) rfl ?_
  exact hg_reti hC hR dX5_tell_33 hw
