/-! String.length, charAt and what they call, over any family (written by mkS.py) -/
theorem sf_9 : Cond.fieldLink RJ0 9 "java/lang/String" "value" "[B" ∈ hg_tbl := (hg_m5 233 (by decide +kernel) rfl)
theorem sf_15 : Cond.fieldLink RJ0 15 "java/lang/String" "coder" "B" ∈ hg_tbl := (hg_m5 234 (by decide +kernel) rfl)
theorem sf_34 : Cond.fieldLink RJ0 38 "java/lang/String" "COMPACT_STRINGS" "Z" ∈ hg_tbl := (hg_m2 93 (by decide +kernel) rfl)
theorem sf_fm : Cond.fieldLink RJ0 1053 "jdk/internal/util/Preconditions" "SIOOBE_FORMATTER" "Ljava/util/function/BiFunction;" ∈ hg_tbl := (hg_m2 109 (by decide +kernel) rfl)
theorem ss_cod : hg_Sv RJ0 335 RJ0 yJ0_coder_7d493 cJ0_coder_7d493 1 (some .byte) 0 := ⟨(hg_m2 92 (by decide +kernel) rfl), (hg_m2 89 (by decide +kernel) rfl), (hg_m2 90 (by decide +kernel) rfl), (hg_m2 91 (by decide +kernel) rfl), (hg_m1 15 (by decide +kernel) rfl), by decide +kernel, by decide⟩
theorem ss_lat : hg_Sv RJ0 492 RJ0 yJ0_isLatin1_aae02 cJ0_isLatin1_aae02 1 (some .boolean) 0 := ⟨(hg_m2 102 (by decide +kernel) rfl), (hg_m2 99 (by decide +kernel) rfl), (hg_m2 100 (by decide +kernel) rfl), (hg_m2 101 (by decide +kernel) rfl), (hg_m1 15 (by decide +kernel) rfl), by decide +kernel, by decide⟩
theorem ss_lch : hg_Ss RJ0 495 yJ1_charAt_3b067 cJ1_charAt_3b067 2 (some .char) 2 := ⟨(hg_m2 105 (by decide +kernel) rfl), (hg_m2 103 (by decide +kernel) rfl), (hg_m2 104 (by decide +kernel) rfl), (hg_m1 16 (by decide +kernel) rfl), by decide +kernel, by decide⟩
theorem ss_ci : hg_Ss RJ1 9 yJ0_checkIndex_df160 cJ0_checkIndex_df160 2 none 2 := ⟨(hg_m2 108 (by decide +kernel) rfl), (hg_m2 106 (by decide +kernel) rfl), (hg_m2 107 (by decide +kernel) rfl), (hg_m1 15 (by decide +kernel) rfl), by decide +kernel, by decide⟩
theorem ss_pre : hg_Ss RJ0 1059 yJ3_checkIndex_8e157 cJ3_checkIndex_8e157 3 (some .int) 3 := ⟨(hg_m2 113 (by decide +kernel) rfl), (hg_m2 111 (by decide +kernel) rfl), (hg_m2 112 (by decide +kernel) rfl), (hg_m1 17 (by decide +kernel) rfl), by decide +kernel, by decide⟩
def hg_Es (E : hg_Et) (i a v : Nat) : Prop := ∀ A U H, E A U H → hg_str i a v A U H
section HGS
variable {F : hg_F} {E : hg_Et} {ρ : hg_R} {i a v : Nat}
theorem ts_coder (hE : hg_Eok E) (l : Launch) (d : Nat) (hs : hg_Es E i a v) (σ : hg_M) (P : Int32 → hg_M → Prop) (hw : P 0 σ) : hg_Ni F E l yJ0_coder_7d493 cJ0_coder_7d493 1 (some .byte) (d + 1) (fun _ => [.ref a]) ρ σ P := by
  refine hg_ni hE (by decide) (fun _ => Nat.le_of_ble_eq_true rfl) (fun X hC hR hl => ?_)
  subst hl
  have hC : hg_C F 1 (d + 1) E cJ0_coder_7d493 RJ0 X := hC
  show hg_G F 1 X 0 [(0, .ref a)] [] σ ρ
  refine hg_gs hC (fun A U H h => (hs A U H h).2.2.2.2.1) sf_34 dJ0_coder_7d493_0 (n := 3) rfl ?_
  refine hg_if_eq hC dJ0_coder_7d493_3 (tg := 13) rfl (n := 6) rfl (fun h9 => absurd h9 (by decide)) (fun h9 => ?_)
  refine hg_aload_n hC dJ0_coder_7d493_6 rfl 0 rfl (n := 7) rfl ?_
  refine hg_of hC (fun A U H h => (hs A U H h).2.1) sf_15 dJ0_coder_7d493_7 (n := 10) rfl ?_
  refine hg_goto hC dJ0_coder_7d493_10 (tg := 14) rfl ?_
  exact hg_rett hC hR rfl dJ0_coder_7d493_14 hw
theorem ts_lat (hE : hg_Eok E) (l : Launch) (d : Nat) (hs : hg_Es E i a v) (σ : hg_M) (P : Int32 → hg_M → Prop) (hw : P 1 σ) : hg_Ni F E l yJ0_isLatin1_aae02 cJ0_isLatin1_aae02 1 (some .boolean) (d + 1) (fun _ => [.ref a]) ρ σ P := by
  refine hg_ni hE (by decide) (fun _ => Nat.le_of_ble_eq_true rfl) (fun X hC hR hl => ?_)
  subst hl
  have hC : hg_C F 1 (d + 1) E cJ0_isLatin1_aae02 RJ0 X := hC
  show hg_G F 1 X 0 [(0, .ref a)] [] σ ρ
  refine hg_gs hC (fun A U H h => (hs A U H h).2.2.2.2.1) sf_34 dJ0_isLatin1_aae02_0 (n := 3) rfl ?_
  refine hg_if_eq hC dJ0_isLatin1_aae02_3 (tg := 17) rfl (n := 6) rfl (fun h9 => absurd h9 (by decide)) (fun h9 => ?_)
  refine hg_aload_n hC dJ0_isLatin1_aae02_6 rfl 0 rfl (n := 7) rfl ?_
  refine hg_of hC (fun A U H h => (hs A U H h).2.1) sf_15 dJ0_isLatin1_aae02_7 (n := 10) rfl ?_
  refine hg_if_ne hC dJ0_isLatin1_aae02_10 (tg := 17) rfl (n := 13) rfl (fun h9 => absurd rfl h9) (fun h9 => ?_)
  refine hg_iconst hC dJ0_isLatin1_aae02_13 (show Int32.ofInt 1 = (1 : Int32) by decide) (n := 14) rfl ?_
  refine hg_goto hC dJ0_isLatin1_aae02_14 (tg := 18) rfl ?_
  exact hg_rett hC hR rfl dJ0_isLatin1_aae02_18 hw
theorem hs_shr (n : Nat) : Int32.ofNat n >>> ((0 : Int32) &&& 31) = Int32.ofNat n := by
  have e : ((0 : Int32) &&& 31) = 0 := by decide
  rw [e]
  exact Int32.shiftRight_zero
theorem ts_length (hE : hg_Eok E) (l : Launch) (d : Nat) (hs : hg_Es E i a v) (σ : hg_M) (P : Int32 → hg_M → Prop) (hw : P (Int32.ofNat (hg_len i)) σ) : hg_Ni F E l yJ0_length_8abf5 cJ0_length_8abf5 1 (some .int) (d + 2) (fun _ => [.ref a]) ρ σ P := by
  refine hg_ni hE (by decide) (fun _ => Nat.le_of_ble_eq_true rfl) (fun X hC hR hl => ?_)
  subst hl
  have hC : hg_C F 1 (d + 2) E cJ0_length_8abf5 RJ0 X := hC
  show hg_G F 1 X 0 [(0, .ref a)] [] σ ρ
  refine hg_aload_n hC dJ0_length_8abf5_0 rfl 0 rfl (n := 1) rfl ?_
  refine hg_of hC (fun A U H h => (hs A U H h).2.2.1) sf_9 dJ0_length_8abf5_1 (n := 4) rfl ?_
  refine hg_tl hC (fun A U H h => (hs A U H h).2.2.2.1) rfl dJ0_length_8abf5_4 (n := 5) rfl ?_
  refine hg_aload_n hC dJ0_length_8abf5_5 rfl 0 rfl (n := 6) rfl ?_
  refine hg_cTi hC (fun A U H h => (hs A U H h).1) (ts_coder (hg_Eof hC) X.2.1 (d + 0) hs σ (fun r σ1 => r = 0 ∧ σ1 = σ) ⟨rfl, rfl⟩) ss_cod dJ0_length_8abf5_6 rfl (rest := [.int (Int32.ofNat (hg_len i))]) rfl (Nat.le_of_ble_eq_true rfl) (n := 9) rfl (fun r σ1 h => ?_)
  obtain ⟨rfl, rfl⟩ := h
  refine hg_ishr hC dJ0_length_8abf5_9 (n := 10) rfl ?_
  refine hg_reti hC hR dJ0_length_8abf5_10 ?_
  rw [hs_shr]; exact hw
/-- the character at a place -/
def hg_ch (i j : Nat) : Int32 := (((hg_chr i j) &&& (255 : Int32)).toUInt32 % 65536).toInt32
theorem ts_pren (hE : hg_Eok E) (l : Launch) (d : Nat) (x z : Int32) (σ : hg_M) (P : Int32 → hg_M → Prop) (h0 : ¬ x < 0) (h1 : x < z) (hw : P x σ) : hg_Ni F E l yJ3_checkIndex_8e157 cJ3_checkIndex_8e157 3 (some .int) (d + 1) (fun _ => [.int x, .int z, .null]) ρ σ P := by
  refine hg_ni hE (by decide) (fun _ => Nat.le_of_ble_eq_true rfl) (fun X hC hR hl => ?_)
  subst hl
  have hC : hg_C F 3 (d + 1) E cJ3_checkIndex_8e157 RJ3 X := hC
  show hg_G F 3 X 0 [(0, .int x), (1, .int z), (2, .null)] [] σ ρ
  refine hg_iload_n hC dJ3_checkIndex_8e157_0 rfl 0 rfl (n := 1) rfl ?_
  refine hg_if_lt hC dJ3_checkIndex_8e157_1 (tg := 9) rfl (n := 4) rfl (fun h9 => absurd h9 h0) (fun h9 => ?_)
  refine hg_iload_n hC dJ3_checkIndex_8e157_4 rfl 0 rfl (n := 5) rfl ?_
  refine hg_iload_n hC dJ3_checkIndex_8e157_5 rfl 1 rfl (n := 6) rfl ?_
  refine hg_icmp_lt hC dJ3_checkIndex_8e157_6 (tg := 16) rfl (n := 9) rfl (fun h9 => ?_) (fun h9 => absurd h1 h9)
  refine hg_iload_n hC dJ3_checkIndex_8e157_16 rfl 0 rfl (n := 17) rfl ?_
  exact hg_reti hC hR dJ3_checkIndex_8e157_17 hw
theorem ts_prer (hE : hg_Eok E) (l : Launch) (d : Nat) (t9 : Nat) (x z : Int32) (σ : hg_M) (P : Int32 → hg_M → Prop) (h0 : ¬ x < 0) (h1 : x < z) (hw : P x σ) : hg_Ni F E l yJ3_checkIndex_8e157 cJ3_checkIndex_8e157 3 (some .int) (d + 1) (fun _ => [.int x, .int z, .ref t9]) ρ σ P := by
  refine hg_ni hE (by decide) (fun _ => Nat.le_of_ble_eq_true rfl) (fun X hC hR hl => ?_)
  subst hl
  have hC : hg_C F 3 (d + 1) E cJ3_checkIndex_8e157 RJ3 X := hC
  show hg_G F 3 X 0 [(0, .int x), (1, .int z), (2, .ref t9)] [] σ ρ
  refine hg_iload_n hC dJ3_checkIndex_8e157_0 rfl 0 rfl (n := 1) rfl ?_
  refine hg_if_lt hC dJ3_checkIndex_8e157_1 (tg := 9) rfl (n := 4) rfl (fun h9 => absurd h9 h0) (fun h9 => ?_)
  refine hg_iload_n hC dJ3_checkIndex_8e157_4 rfl 0 rfl (n := 5) rfl ?_
  refine hg_iload_n hC dJ3_checkIndex_8e157_5 rfl 1 rfl (n := 6) rfl ?_
  refine hg_icmp_lt hC dJ3_checkIndex_8e157_6 (tg := 16) rfl (n := 9) rfl (fun h9 => ?_) (fun h9 => absurd h1 h9)
  refine hg_iload_n hC dJ3_checkIndex_8e157_16 rfl 0 rfl (n := 17) rfl ?_
  exact hg_reti hC hR dJ3_checkIndex_8e157_17 hw
theorem ts_ci (hE : hg_Eok E) (l : Launch) (d : Nat) (hs : hg_Es E i a v) (x z : Int32) (σ : hg_M) (P : hg_M → Prop) (h0 : ¬ x < 0) (h1 : x < z) (hw : P σ) : hg_Nv F E l yJ0_checkIndex_df160 cJ0_checkIndex_df160 2 (d + 2) (fun _ => [.int x, .int z]) ρ σ P := by
  refine hg_nv hE (by decide) (fun _ => Nat.le_of_ble_eq_true rfl) (fun X hC hR hl => ?_)
  subst hl
  have hC : hg_C F 2 (d + 2) E cJ0_checkIndex_df160 RJ0 X := hC
  show hg_G F 2 X 0 [(0, .int x), (1, .int z)] [] σ ρ
  refine hg_iload_n hC dJ0_checkIndex_df160_0 rfl 0 rfl (n := 1) rfl ?_
  refine hg_iload_n hC dJ0_checkIndex_df160_1 rfl 1 rfl (n := 2) rfl ?_
  refine hg_gsq hC (fun A U H h => (hs A U H h).2.2.2.2.2) sf_fm dJ0_checkIndex_df160_2 (n := 5) rfl ?_ (fun t9 => ?_)
  · refine hg_cSi hC (ts_pren (hg_Eof hC) X.2.1 (d + 0) x z σ (fun r σ1 => σ1 = σ) h0 h1 rfl) ss_pre dJ0_checkIndex_df160_5 rfl (rest := []) rfl (Nat.le_of_ble_eq_true rfl) (n := 8) rfl (fun r σ1 h => ?_)
    subst h
    refine hg_pop hC dJ0_checkIndex_df160_8 rfl (n := 9) rfl ?_
    exact hg_retv hC hR dJ0_checkIndex_df160_9 hw
  · refine hg_cSi hC (ts_prer (hg_Eof hC) X.2.1 (d + 0) t9 x z σ (fun r σ1 => σ1 = σ) h0 h1 rfl) ss_pre dJ0_checkIndex_df160_5 rfl (rest := []) rfl (Nat.le_of_ble_eq_true rfl) (n := 8) rfl (fun r σ1 h => ?_)
    subst h
    refine hg_pop hC dJ0_checkIndex_df160_8 rfl (n := 9) rfl ?_
    exact hg_retv hC hR dJ0_checkIndex_df160_9 hw
theorem ts_lch (hE : hg_Eok E) (l : Launch) (d : Nat) (hs : hg_Es E i a v) (x : Int32) (σ : hg_M) (P : Int32 → hg_M → Prop) (hx : vp_in x (hg_len i)) (hn : narrow .char (.int (hg_ch i x.toNatClampNeg)) = .int (hg_ch i x.toNatClampNeg)) (h0 : ¬ x < 0) (h1 : x < Int32.ofNat (hg_len i)) (hw : P (hg_ch i x.toNatClampNeg) σ) : hg_Ni F E l yJ1_charAt_3b067 cJ1_charAt_3b067 2 (some .char) (d + 3) (fun _ => [.ref v, .int x]) ρ σ P := by
  refine hg_ni hE (by decide) (fun _ => Nat.le_of_ble_eq_true rfl) (fun X hC hR hl => ?_)
  subst hl
  have hC : hg_C F 2 (d + 3) E cJ1_charAt_3b067 RJ1 X := hC
  show hg_G F 2 X 0 [(0, .ref v), (1, .int x)] [] σ ρ
  refine hg_iload_n hC dJ1_charAt_3b067_0 rfl 1 rfl (n := 1) rfl ?_
  refine hg_aload_n hC dJ1_charAt_3b067_1 rfl 0 rfl (n := 2) rfl ?_
  refine hg_tl hC (fun A U H h => (hs A U H h).2.2.2.1) rfl dJ1_charAt_3b067_2 (n := 3) rfl ?_
  refine hg_cSv hC (ts_ci (hg_Eof hC) X.2.1 (d + 0) hs x _ σ (fun σ1 => σ1 = σ) h0 h1 rfl) ss_ci dJ1_charAt_3b067_3 rfl (rest := []) rfl (Nat.le_of_ble_eq_true rfl) (n := 6) rfl (fun σ1 h => ?_)
  subst h
  refine hg_aload_n hC dJ1_charAt_3b067_6 rfl 0 rfl (n := 7) rfl ?_
  refine hg_iload_n hC dJ1_charAt_3b067_7 rfl 1 rfl (n := 8) rfl ?_
  refine hg_tb hC (fun A U H h => (hs A U H h).2.2.2.1) dJ1_charAt_3b067_8 hx (n := 9) rfl ?_
  refine hg_sipush hC dJ1_charAt_3b067_9 (show (Int16.ofInt 255).toInt32 = (255 : Int32) by decide) (n := 12) rfl ?_
  refine hg_iand hC dJ1_charAt_3b067_12 (n := 13) rfl ?_
  refine hg_i2c hC dJ1_charAt_3b067_13 rfl (n := 14) rfl ?_
  exact hg_rett hC hR hn dJ1_charAt_3b067_14 hw
theorem ts_charAt (hE : hg_Eok E) (l : Launch) (d : Nat) (hs : hg_Es E i a v) (x : Int32) (σ : hg_M) (P : Int32 → hg_M → Prop) (hx : vp_in x (hg_len i)) (hn : narrow .char (.int (hg_ch i x.toNatClampNeg)) = .int (hg_ch i x.toNatClampNeg)) (h0 : ¬ x < 0) (h1 : x < Int32.ofNat (hg_len i)) (hw : P (hg_ch i x.toNatClampNeg) σ) : hg_Ni F E l yJ0_charAt_5068e cJ0_charAt_5068e 2 (some .char) (d + 4) (fun _ => [.ref a, .int x]) ρ σ P := by
  refine hg_ni hE (by decide) (fun _ => Nat.le_of_ble_eq_true rfl) (fun X hC hR hl => ?_)
  subst hl
  have hC : hg_C F 2 (d + 4) E cJ0_charAt_5068e RJ0 X := hC
  show hg_G F 2 X 0 [(0, .ref a), (1, .int x)] [] σ ρ
  refine hg_aload_n hC dJ0_charAt_5068e_0 rfl 0 rfl (n := 1) rfl ?_
  refine hg_cTi hC (fun A U H h => (hs A U H h).1) (ts_lat (hg_Eof hC) X.2.1 (d + 2) hs σ (fun r σ1 => r = 1 ∧ σ1 = σ) ⟨rfl, rfl⟩) ss_lat dJ0_charAt_5068e_1 rfl (rest := []) rfl (Nat.le_of_ble_eq_true rfl) (n := 4) rfl (fun r σ1 h => ?_)
  obtain ⟨rfl, rfl⟩ := h
  refine hg_if_eq hC dJ0_charAt_5068e_4 (tg := 16) rfl (n := 7) rfl (fun h9 => absurd h9 (by decide)) (fun h9 => ?_)
  refine hg_aload_n hC dJ0_charAt_5068e_7 rfl 0 rfl (n := 8) rfl ?_
  refine hg_of hC (fun A U H h => (hs A U H h).2.2.1) sf_9 dJ0_charAt_5068e_8 (n := 11) rfl ?_
  refine hg_iload_n hC dJ0_charAt_5068e_11 rfl 1 rfl (n := 12) rfl ?_
  refine hg_cSi hC (ts_lch (hg_Eof hC) X.2.1 (d + 0) hs x σ1 (fun r σ2 => r = hg_ch i x.toNatClampNeg ∧ σ2 = σ1) hx hn h0 h1 ⟨rfl, rfl⟩) ss_lch dJ0_charAt_5068e_12 rfl (rest := []) rfl (Nat.le_of_ble_eq_true rfl) (n := 15) rfl (fun r σ2 h => ?_)
  obtain ⟨rfl, rfl⟩ := h
  exact hg_rett hC hR hn dJ0_charAt_5068e_15 hw
theorem hg_chn (i j : Nat) : narrow .char (.int (hg_ch i j)) = .int (hg_ch i j) := by
  unfold hg_ch
  rw [sc_c2]
  exact sc_nar _
end HGS
