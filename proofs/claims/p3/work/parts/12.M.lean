/-! the methods of the family M (written by mkC.py) -/
def wM_X6_thrown  (σ : hg_M) (P : Int32 → hg_M → Prop) : Prop := P (σ 0 0) σ
set_option maxRecDepth 4000 in
theorem tM_X6_thrown {E : hg_Et} (hE : hg_Eok E) (l : Launch) (d : Nat)  (σ : hg_M) (P : Int32 → hg_M → Prop) (hw : wM_X6_thrown  σ P) : hg_Ni hg_FM E l yX6_thrown cX6_thrown 1 (some .int) (d + 1) (fun ad => [.ref (ad 0)]) hg_rM σ P := by
  refine hg_ni hE (by decide) (fun _ => Nat.le_of_ble_eq_true rfl) (fun X hC hR hl => ?_)
  subst hl
  have hC : hg_C hg_FM 1 (d + 1) E cX6_thrown RX6 X := hC
  show hg_G hg_FM 1 X 0 [(0, .ref (hg_ad X 0))] [] σ hg_rM
  unfold wM_X6_thrown at hw
  refine hg_aload_n hC dX6_thrown_0 rfl 0 rfl (n := 1) rfl ?_
  refine hg_geti hC fl_RX6_102 dX6_thrown_1 qM_0 kM_0 fM_6_0 (n := 4) rfl ?_
  exact hg_reti hC hR dX6_thrown_4 hw
def bM_X6_isIn_18 (P : Int32 → hg_M → Prop)  (t0 : Int32) (σ : hg_M) : Prop := ((t0 = 0 ∨ t0 = 1) ∧ P t0 σ)
def bM_X6_isIn_17 (P : Int32 → hg_M → Prop)   (σ : hg_M) : Prop := bM_X6_isIn_18 P (0 : Int32) σ
def wM_X6_isIn (x0 : Int64) (x2 : Int64) (x4 : Int64) (σ : hg_M) (P : Int32 → hg_M → Prop) : Prop := (((lg_cmp x0 x2) < 0 → bM_X6_isIn_17 P σ) ∧ (¬ (lg_cmp x0 x2) < 0 → ((0 < (lg_cmp x0 x4) → bM_X6_isIn_17 P σ) ∧ (¬ 0 < (lg_cmp x0 x4) → bM_X6_isIn_18 P (1 : Int32) σ))))
set_option maxRecDepth 4000 in
theorem tbM_X6_isIn_18 {d : Nat} {E : hg_Et} {X : hg_X} {P : Int32 → hg_M → Prop}  (hC : hg_C hg_FM 6 (d + 1) E cX6_isIn RX6 X) (hR : hg_Rni hg_FM (some .boolean) hg_rM P X)  (t0 : Int32) (σ : hg_M) (hw : bM_X6_isIn_18 P t0 σ) : hg_G hg_FM 6 X 18 [] [.int t0] σ hg_rM := by
  unfold bM_X6_isIn_18 at hw
  exact hg_retz hC hR dX6_isIn_18 hw
set_option maxRecDepth 4000 in
theorem tbM_X6_isIn_17 {d : Nat} {E : hg_Et} {X : hg_X} {P : Int32 → hg_M → Prop}  (hC : hg_C hg_FM 6 (d + 1) E cX6_isIn RX6 X) (hR : hg_Rni hg_FM (some .boolean) hg_rM P X)   (σ : hg_M) (hw : bM_X6_isIn_17 P  σ) : hg_G hg_FM 6 X 17 [] [] σ hg_rM := by
  unfold bM_X6_isIn_17 at hw
  refine hg_iconst hC dX6_isIn_17 hl_i0 (n := 18) rfl ?_
  exact tbM_X6_isIn_18 hC hR  (0 : Int32) σ hw
set_option maxRecDepth 4000 in
theorem tM_X6_isIn {E : hg_Et} (hE : hg_Eok E) (l : Launch) (d : Nat) (x0 : Int64) (x2 : Int64) (x4 : Int64) (σ : hg_M) (P : Int32 → hg_M → Prop) (hw : wM_X6_isIn x0 x2 x4 σ P) : hg_Ni hg_FM E l yX6_isIn cX6_isIn 6 (some .boolean) (d + 1) (fun ad => [.long x0, .long x2, .long x4]) hg_rM σ P := by
  refine hg_ni hE (by decide) (fun _ => Nat.le_of_ble_eq_true rfl) (fun X hC hR hl => ?_)
  subst hl
  have hC : hg_C hg_FM 6 (d + 1) E cX6_isIn RX6 X := hC
  show hg_G hg_FM 6 X 0 [(0, .long x0), (2, .long x2), (4, .long x4)] [] σ hg_rM
  unfold wM_X6_isIn at hw
  refine hg_lload_n hC dX6_isIn_0 rfl 0 rfl (n := 1) rfl ?_
  refine hg_lload_n hC dX6_isIn_1 rfl 1 rfl (n := 2) rfl ?_
  refine hg_lcmp hC dX6_isIn_2 (n := 3) rfl ?_
  refine hg_if_lt hC dX6_isIn_3 (tg := 17) rfl (n := 6) rfl (fun h9 => ?_) (fun h9 => ?_)
  · have hw := hw.1 h9
    exact hg_sub [] rfl (tbM_X6_isIn_17 hC hR  σ hw)
  · have hw := hw.2 h9
    refine hg_lload_n hC dX6_isIn_6 rfl 0 rfl (n := 7) rfl ?_
    refine hg_lload hC dX6_isIn_7 2 rfl (n := 9) rfl ?_
    refine hg_lcmp hC dX6_isIn_9 (n := 10) rfl ?_
    refine hg_if_gt hC dX6_isIn_10 (tg := 17) rfl (n := 13) rfl (fun h9 => ?_) (fun h9 => ?_)
    · have hw := hw.1 h9
      exact hg_sub [] rfl (tbM_X6_isIn_17 hC hR  σ hw)
    · have hw := hw.2 h9
      refine hg_iconst hC dX6_isIn_13 hl_i1 (n := 14) rfl ?_
      refine hg_goto hC dX6_isIn_14 (tg := 18) rfl ?_
      exact hg_sub [] rfl (tbM_X6_isIn_18 hC hR  (1 : Int32) σ hw)
def bM_X6_may_33 (P : Int32 → hg_M → Prop)  (t0 : Int32) (σ : hg_M) : Prop := ((t0 = 0 ∨ t0 = 1) ∧ P t0 σ)
def bM_X6_may_18 (P : Int32 → hg_M → Prop)  (t1 : Int32) (σ : hg_M) : Prop := ∀ σ1 : hg_M, σ1 = hg_set σ 0 0 t1 → (((σ1 0 0) ≠ 0 → bM_X6_may_33 P (0 : Int32) σ1) ∧ ((σ1 0 0) = 0 → bM_X6_may_33 P (1 : Int32) σ1))
def wM_X6_may (x1 : Int32) (x2 : Int32) (σ : hg_M) (P : Int32 → hg_M → Prop) : Prop := ((x1 ≠ 0 → ((x2 ≠ 0 → bM_X6_may_18 P (0 : Int32) σ) ∧ (x2 = 0 → bM_X6_may_18 P (2 : Int32) σ))) ∧ (x1 = 0 → bM_X6_may_18 P (1 : Int32) σ))
set_option maxRecDepth 4000 in
theorem tbM_X6_may_33 {d : Nat} {E : hg_Et} {X : hg_X} {P : Int32 → hg_M → Prop}  (hC : hg_C hg_FM 3 (d + 1) E cX6_may RX6 X) (hR : hg_Rni hg_FM (some .boolean) hg_rM P X)  (t0 : Int32) (σ : hg_M) (hw : bM_X6_may_33 P t0 σ) : hg_G hg_FM 3 X 33 [] [.int t0] σ hg_rM := by
  unfold bM_X6_may_33 at hw
  exact hg_retz hC hR dX6_may_33 hw
set_option maxRecDepth 4000 in
theorem tbM_X6_may_18 {d : Nat} {E : hg_Et} {X : hg_X} {P : Int32 → hg_M → Prop}  (hC : hg_C hg_FM 3 (d + 1) E cX6_may RX6 X) (hR : hg_Rni hg_FM (some .boolean) hg_rM P X)  (t1 : Int32) (σ : hg_M) (hw : bM_X6_may_18 P t1 σ) : hg_G hg_FM 3 X 18 [(0, .ref (hg_ad X 0))] [.int t1, .ref (hg_ad X 0)] σ hg_rM := by
  unfold bM_X6_may_18 at hw
  refine hg_puti hC fp_RX6_102 dX6_may_18 qM_0 kM_0 fM_6_0 rfl rfl (n := 21) rfl (fun σ1 eσ1 => ?_)
  have hw := hw σ1 eσ1
  refine hg_aload_n hC dX6_may_21 rfl 0 rfl (n := 22) rfl ?_
  refine hg_geti hC fl_RX6_102 dX6_may_22 qM_0 kM_0 fM_6_0 (n := 25) rfl ?_
  refine hg_if_ne hC dX6_may_25 (tg := 32) rfl (n := 28) rfl (fun h9 => ?_) (fun h9 => ?_)
  · have hw := hw.1 h9
    refine hg_iconst hC dX6_may_32 hl_i0 (n := 33) rfl ?_
    exact hg_sub [] rfl (tbM_X6_may_33 hC hR  (0 : Int32) σ1 hw)
  · have hw := hw.2 h9
    refine hg_iconst hC dX6_may_28 hl_i1 (n := 29) rfl ?_
    refine hg_goto hC dX6_may_29 (tg := 33) rfl ?_
    exact hg_sub [] rfl (tbM_X6_may_33 hC hR  (1 : Int32) σ1 hw)
set_option maxRecDepth 4000 in
theorem tM_X6_may {E : hg_Et} (hE : hg_Eok E) (l : Launch) (d : Nat) (x1 : Int32) (x2 : Int32) (σ : hg_M) (P : Int32 → hg_M → Prop) (hw : wM_X6_may x1 x2 σ P) : hg_Ni hg_FM E l yX6_may cX6_may 3 (some .boolean) (d + 1) (fun ad => [.ref (ad 0), .int x1, .int x2]) hg_rM σ P := by
  refine hg_ni hE (by decide) (fun _ => Nat.le_of_ble_eq_true rfl) (fun X hC hR hl => ?_)
  subst hl
  have hC : hg_C hg_FM 3 (d + 1) E cX6_may RX6 X := hC
  show hg_G hg_FM 3 X 0 [(0, .ref (hg_ad X 0)), (1, .int x1), (2, .int x2)] [] σ hg_rM
  unfold wM_X6_may at hw
  refine hg_aload_n hC dX6_may_0 rfl 0 rfl (n := 1) rfl ?_
  refine hg_iload_n hC dX6_may_1 rfl 1 rfl (n := 2) rfl ?_
  refine hg_if_ne hC dX6_may_2 (tg := 9) rfl (n := 5) rfl (fun h9 => ?_) (fun h9 => ?_)
  · have hw := hw.1 h9
    refine hg_iload_n hC dX6_may_9 rfl 2 rfl (n := 10) rfl ?_
    refine hg_if_ne hC dX6_may_10 (tg := 17) rfl (n := 13) rfl (fun h9 => ?_) (fun h9 => ?_)
    · have hw := hw.1 h9
      refine hg_iconst hC dX6_may_17 hl_i0 (n := 18) rfl ?_
      exact hg_sub [0] rfl (tbM_X6_may_18 hC hR  (0 : Int32) σ hw)
    · have hw := hw.2 h9
      refine hg_iconst hC dX6_may_13 hl_i2 (n := 14) rfl ?_
      refine hg_goto hC dX6_may_14 (tg := 18) rfl ?_
      exact hg_sub [0] rfl (tbM_X6_may_18 hC hR  (2 : Int32) σ hw)
  · have hw := hw.2 h9
    refine hg_iconst hC dX6_may_5 hl_i1 (n := 6) rfl ?_
    refine hg_goto hC dX6_may_6 (tg := 18) rfl ?_
    exact hg_sub [0] rfl (tbM_X6_may_18 hC hR  (1 : Int32) σ hw)
def bM_X6_variable_24 (P : hg_M → Prop)   (σ : hg_M) : Prop := P σ
def wM_X6_variable (x1 : Int32) (x2 : Int32) (σ : hg_M) (P : hg_M → Prop) : Prop := wM_X6_isIn (x1).toInt64 (0 : Int64) (15 : Int64) σ (fun r2 σ1 => wM_X6_may r2 (1 : Int32) σ1 (fun r4 σ3 => ((r4 = 0 → bM_X6_variable_24 P σ3) ∧ (¬ r4 = 0 → vp_in x1 16 ∧ (∀ σ5 : hg_M, σ5 = hg_set σ3 1 (x1).toNatClampNeg x2 → bM_X6_variable_24 P σ5)))))
set_option maxRecDepth 4000 in
theorem tbM_X6_variable_24 {d : Nat} {E : hg_Et} {X : hg_X} {P : hg_M → Prop}  (hC : hg_C hg_FM 3 (d + 2) E cX6_variable RX6 X) (hR : hg_Rnv hg_FM hg_rM P X)   (σ : hg_M) (hw : bM_X6_variable_24 P  σ) : hg_G hg_FM 3 X 24 [] [] σ hg_rM := by
  unfold bM_X6_variable_24 at hw
  exact hg_retv hC hR dX6_variable_24 hw
set_option maxRecDepth 4000 in
theorem tM_X6_variable {E : hg_Et} (hE : hg_Eok E) (l : Launch) (d : Nat) (x1 : Int32) (x2 : Int32) (σ : hg_M) (P : hg_M → Prop) (hw : wM_X6_variable x1 x2 σ P) : hg_Nv hg_FM E l yX6_variable cX6_variable 3 (d + 2) (fun ad => [.ref (ad 0), .int x1, .int x2]) hg_rM σ P := by
  refine hg_nv hE (by decide) (fun _ => Nat.le_of_ble_eq_true rfl) (fun X hC hR hl => ?_)
  subst hl
  have hC : hg_C hg_FM 3 (d + 2) E cX6_variable RX6 X := hC
  show hg_G hg_FM 3 X 0 [(0, .ref (hg_ad X 0)), (1, .int x1), (2, .int x2)] [] σ hg_rM
  unfold wM_X6_variable at hw
  refine hg_aload_n hC dX6_variable_0 rfl 0 rfl (n := 1) rfl ?_
  refine hg_iload_n hC dX6_variable_1 rfl 1 rfl (n := 2) rfl ?_
  refine hg_i2l hC dX6_variable_2 rfl (n := 3) rfl ?_
  refine hg_lconst hC dX6_variable_3 hl_l0 (n := 4) rfl ?_
  refine hg_ldc2 hC dX6_variable_4 kl_RX6_105 (n := 7) rfl ?_
  refine hg_cSi hC (tM_X6_isIn (hg_Eof hC) X.2.1 (d + 0) _ _ _ _ _ hw) ss_RX6_107 dX6_variable_7 rfl (rest := [.ref (hg_ad X 0)]) rfl (Nat.le_of_ble_eq_true rfl) (n := 10) rfl (fun r2 σ1 hw => ?_)
  refine hg_iconst hC dX6_variable_10 hl_i1 (n := 11) rfl ?_
  refine hg_cVi hC (tM_X6_may (hg_Eof hC) X.2.1 (d + 0) _ _ _ _ hw) sv_RX6_111 dX6_variable_11 qM_0 kM_0 c_6 rfl (rest := []) rfl (Nat.le_of_ble_eq_true rfl) (n := 14) rfl (fun r4 σ3 hw => ?_)
  refine hg_if_eq hC dX6_variable_14 (tg := 24) rfl (n := 17) rfl (fun h9 => ?_) (fun h9 => ?_)
  · have hw := hw.1 h9
    exact hg_sub [] rfl (tbM_X6_variable_24 hC hR  σ3 hw)
  · have hw := hw.2 h9
    refine hg_aload_n hC dX6_variable_17 rfl 0 rfl (n := 18) rfl ?_
    refine hg_getr hC fl_RX6_7 dX6_variable_18 qM_0 kM_0 fM_6_1 rM_0_1 (n := 21) rfl ?_
    refine hg_iload_n hC dX6_variable_21 rfl 1 rfl (n := 22) rfl ?_
    refine hg_iload_n hC dX6_variable_22 rfl 2 rfl (n := 23) rfl ?_
    obtain ⟨h9, hw⟩ := hw
    refine hg_iast hC dX6_variable_23 qM_1 kM_1 h9 (n := 24) rfl (fun σ5 eσ5 => ?_)
    have hw := hw σ5 eσ5
    exact hg_sub [] rfl (tbM_X6_variable_24 hC hR  σ5 hw)
def bM_X6_word_24 (P : hg_M → Prop)   (σ : hg_M) : Prop := P σ
def wM_X6_word (x1 : Int32) (x2 : Int32) (σ : hg_M) (P : hg_M → Prop) : Prop := wM_X6_isIn (x1).toInt64 (0 : Int64) (31 : Int64) σ (fun r2 σ1 => wM_X6_may r2 (1 : Int32) σ1 (fun r4 σ3 => ((r4 = 0 → bM_X6_word_24 P σ3) ∧ (¬ r4 = 0 → vp_in x1 32 ∧ (∀ σ5 : hg_M, σ5 = hg_set σ3 2 (x1).toNatClampNeg x2 → bM_X6_word_24 P σ5)))))
set_option maxRecDepth 4000 in
theorem tbM_X6_word_24 {d : Nat} {E : hg_Et} {X : hg_X} {P : hg_M → Prop}  (hC : hg_C hg_FM 3 (d + 2) E cX6_word RX6 X) (hR : hg_Rnv hg_FM hg_rM P X)   (σ : hg_M) (hw : bM_X6_word_24 P  σ) : hg_G hg_FM 3 X 24 [] [] σ hg_rM := by
  unfold bM_X6_word_24 at hw
  exact hg_retv hC hR dX6_word_24 hw
set_option maxRecDepth 4000 in
theorem tM_X6_word {E : hg_Et} (hE : hg_Eok E) (l : Launch) (d : Nat) (x1 : Int32) (x2 : Int32) (σ : hg_M) (P : hg_M → Prop) (hw : wM_X6_word x1 x2 σ P) : hg_Nv hg_FM E l yX6_word cX6_word 3 (d + 2) (fun ad => [.ref (ad 0), .int x1, .int x2]) hg_rM σ P := by
  refine hg_nv hE (by decide) (fun _ => Nat.le_of_ble_eq_true rfl) (fun X hC hR hl => ?_)
  subst hl
  have hC : hg_C hg_FM 3 (d + 2) E cX6_word RX6 X := hC
  show hg_G hg_FM 3 X 0 [(0, .ref (hg_ad X 0)), (1, .int x1), (2, .int x2)] [] σ hg_rM
  unfold wM_X6_word at hw
  refine hg_aload_n hC dX6_word_0 rfl 0 rfl (n := 1) rfl ?_
  refine hg_iload_n hC dX6_word_1 rfl 1 rfl (n := 2) rfl ?_
  refine hg_i2l hC dX6_word_2 rfl (n := 3) rfl ?_
  refine hg_lconst hC dX6_word_3 hl_l0 (n := 4) rfl ?_
  refine hg_ldc2 hC dX6_word_4 kl_RX6_115 (n := 7) rfl ?_
  refine hg_cSi hC (tM_X6_isIn (hg_Eof hC) X.2.1 (d + 0) _ _ _ _ _ hw) ss_RX6_107 dX6_word_7 rfl (rest := [.ref (hg_ad X 0)]) rfl (Nat.le_of_ble_eq_true rfl) (n := 10) rfl (fun r2 σ1 hw => ?_)
  refine hg_iconst hC dX6_word_10 hl_i1 (n := 11) rfl ?_
  refine hg_cVi hC (tM_X6_may (hg_Eof hC) X.2.1 (d + 0) _ _ _ _ hw) sv_RX6_111 dX6_word_11 qM_0 kM_0 c_6 rfl (rest := []) rfl (Nat.le_of_ble_eq_true rfl) (n := 14) rfl (fun r4 σ3 hw => ?_)
  refine hg_if_eq hC dX6_word_14 (tg := 24) rfl (n := 17) rfl (fun h9 => ?_) (fun h9 => ?_)
  · have hw := hw.1 h9
    exact hg_sub [] rfl (tbM_X6_word_24 hC hR  σ3 hw)
  · have hw := hw.2 h9
    refine hg_aload_n hC dX6_word_17 rfl 0 rfl (n := 18) rfl ?_
    refine hg_getr hC fl_RX6_13 dX6_word_18 qM_0 kM_0 fM_6_2 rM_0_2 (n := 21) rfl ?_
    refine hg_iload_n hC dX6_word_21 rfl 1 rfl (n := 22) rfl ?_
    refine hg_iload_n hC dX6_word_22 rfl 2 rfl (n := 23) rfl ?_
    obtain ⟨h9, hw⟩ := hw
    refine hg_iast hC dX6_word_23 qM_2 kM_2 h9 (n := 24) rfl (fun σ5 eσ5 => ?_)
    have hw := hw σ5 eσ5
    exact hg_sub [] rfl (tbM_X6_word_24 hC hR  σ5 hw)
def lM_X6_feed_40 (P : Int32 → hg_M → Prop)  : Nat → Int64 → Int32 → hg_M → Prop
  | 0, _, _, _ => False
  | n + 1, x1, x4, σ => ((x4 < 0 → P (σ 0 4) σ) ∧ (¬ x4 < 0 → vp_in (σ 0 4) 600 ∧ (∀ σ6 : hg_M, σ6 = hg_set σ 3 ((σ 0 4)).toNatClampNeg (((x1 >>> ((((8 : Int32) * x4)).toInt64 &&& 63)) &&& (255 : Int64))).toInt32 → ∀ σ7 : hg_M, σ7 = hg_set σ6 0 4 ((σ6 0 4) + (1 : Int32)) → ∀ v8 : Int32, v8 = x4 + (-1 : Int32) → lM_X6_feed_40 P n x1 v8 σ7)))
def bM_X6_feed_27 (P : Int32 → hg_M → Prop)  (x1 : Int64) (x3 : Int32) (t1 : Int32) (t2 : Int32) (σ : hg_M) : Prop := wM_X6_may t1 t2 σ (fun r4 σ3 => ((r4 ≠ 0 → ∀ v5 : Int32, v5 = (x3 - (1 : Int32)) → (∃ f9, lM_X6_feed_40 P f9 x1 v5 σ3)) ∧ (r4 = 0 → P (0 : Int32) σ3)))
def wM_X6_feed (x1 : Int64) (x3 : Int32) (σ : hg_M) (P : Int32 → hg_M → Prop) : Prop := wM_X6_isIn (x3).toInt64 (1 : Int64) (8 : Int64) σ (fun r2 σ1 => (((600 : Int32) < ((σ1 0 4) + x3) → bM_X6_feed_27 P x1 x3 r2 (0 : Int32) σ1) ∧ (¬ ((600 : Int32) < ((σ1 0 4) + x3)) → bM_X6_feed_27 P x1 x3 r2 (1 : Int32) σ1)))
set_option maxRecDepth 4000 in
theorem tlM_X6_feed_40 {d : Nat} {E : hg_Et} {X : hg_X} {P : Int32 → hg_M → Prop}  (hC : hg_C hg_FM 5 (d + 2) E cX6_feed RX6 X) (hR : hg_Rni hg_FM (some .int) hg_rM P X)  (n : Nat) : ∀ (x1 : Int64) (x4 : Int32) (σ : hg_M), lM_X6_feed_40 P n x1 x4 σ → hg_G hg_FM 5 X 40 [(0, .ref (hg_ad X 0)), (1, .long x1), (4, .int x4)] [] σ hg_rM := by
  induction n with
  | zero =>
    intro x1 x4 σ hw
    rw [lM_X6_feed_40] at hw
    exact hw.elim
  | succ n ih =>
    intro x1 x4 σ hw
    rw [lM_X6_feed_40] at hw
    refine hg_iload hC dX6_feed_40 2 rfl (n := 42) rfl ?_
    refine hg_if_lt hC dX6_feed_42 (tg := 82) rfl (n := 45) rfl (fun h9 => ?_) (fun h9 => ?_)
    · have hw := hw.1 h9
      refine hg_aload_n hC dX6_feed_82 rfl 0 rfl (n := 83) rfl ?_
      refine hg_geti hC fl_RX6_119 dX6_feed_83 qM_0 kM_0 fM_6_4 (n := 86) rfl ?_
      exact hg_reti hC hR dX6_feed_86 hw
    · have hw := hw.2 h9
      refine hg_aload_n hC dX6_feed_45 rfl 0 rfl (n := 46) rfl ?_
      refine hg_getr hC fl_RX6_16 dX6_feed_46 qM_0 kM_0 fM_6_3 rM_0_3 (n := 49) rfl ?_
      refine hg_aload_n hC dX6_feed_49 rfl 0 rfl (n := 50) rfl ?_
      refine hg_geti hC fl_RX6_119 dX6_feed_50 qM_0 kM_0 fM_6_4 (n := 53) rfl ?_
      refine hg_lload_n hC dX6_feed_53 rfl 1 rfl (n := 54) rfl ?_
      refine hg_bipush hC dX6_feed_54 hl_b8 (n := 56) rfl ?_
      refine hg_iload hC dX6_feed_56 2 rfl (n := 58) rfl ?_
      refine hg_imul hC dX6_feed_58 (n := 59) rfl ?_
      refine hg_lshr hC dX6_feed_59 rfl (n := 60) rfl ?_
      refine hg_ldc2 hC dX6_feed_60 kl_RX6_122 (n := 63) rfl ?_
      refine hg_land hC dX6_feed_63 (n := 64) rfl ?_
      refine hg_l2i hC dX6_feed_64 rfl (n := 65) rfl ?_
      obtain ⟨h9, hw⟩ := hw
      refine hg_iast hC dX6_feed_65 qM_3 kM_3 h9 (n := 66) rfl (fun σ6 eσ6 => ?_)
      have hw := hw σ6 eσ6
      refine hg_aload_n hC dX6_feed_66 rfl 0 rfl (n := 67) rfl ?_
      refine hg_dup hC dX6_feed_67 rfl (n := 68) rfl ?_
      refine hg_geti hC fl_RX6_119 dX6_feed_68 qM_0 kM_0 fM_6_4 (n := 71) rfl ?_
      refine hg_iconst hC dX6_feed_71 hl_i1 (n := 72) rfl ?_
      refine hg_iadd hC dX6_feed_72 (n := 73) rfl ?_
      refine hg_puti hC fp_RX6_119 dX6_feed_73 qM_0 kM_0 fM_6_4 rfl rfl (n := 76) rfl (fun σ7 eσ7 => ?_)
      have hw := hw σ7 eσ7
      obtain ⟨v8, ev8⟩ : ∃ z, z = x4 + (-1 : Int32) := ⟨_, rfl⟩
      have hw := hw v8 ev8
      refine hg_iinc hC (v := v8) (L1 := [(4, .int v8), (0, .ref (hg_ad X 0)), (1, .long x1)]) dX6_feed_76 2 rfl (by rw [hl_im1, ev8]) (by decide) rfl (n := 79) rfl ?_
      refine hg_goto hC dX6_feed_79 (tg := 40) rfl ?_
      exact hg_sub [1, 2, 0] rfl (ih x1 v8 σ7 hw)
set_option maxRecDepth 4000 in
theorem tbM_X6_feed_27 {d : Nat} {E : hg_Et} {X : hg_X} {P : Int32 → hg_M → Prop}  (hC : hg_C hg_FM 5 (d + 2) E cX6_feed RX6 X) (hR : hg_Rni hg_FM (some .int) hg_rM P X)  (x1 : Int64) (x3 : Int32) (t1 : Int32) (t2 : Int32) (σ : hg_M) (hw : bM_X6_feed_27 P x1 x3 t1 t2 σ) : hg_G hg_FM 5 X 27 [(0, .ref (hg_ad X 0)), (1, .long x1), (3, .int x3)] [.int t2, .int t1, .ref (hg_ad X 0)] σ hg_rM := by
  unfold bM_X6_feed_27 at hw
  refine hg_cVi hC (tM_X6_may (hg_Eof hC) X.2.1 (d + 0) _ _ _ _ hw) sv_RX6_111 dX6_feed_27 qM_0 kM_0 c_6 rfl (rest := []) rfl (Nat.le_of_ble_eq_true rfl) (n := 30) rfl (fun r4 σ3 hw => ?_)
  refine hg_if_ne hC dX6_feed_30 (tg := 35) rfl (n := 33) rfl (fun h9 => ?_) (fun h9 => ?_)
  · have hw := hw.1 h9
    refine hg_iload_n hC dX6_feed_35 rfl 2 rfl (n := 36) rfl ?_
    refine hg_iconst hC dX6_feed_36 hl_i1 (n := 37) rfl ?_
    refine hg_isub hC dX6_feed_37 (n := 38) rfl ?_
    refine hg_topi (fun v5 ev5 => ?_)
    have hw := hw v5 ev5
    refine hg_istore hC (L1 := [(4, .int v5), (0, .ref (hg_ad X 0)), (1, .long x1), (3, .int x3)]) dX6_feed_38 (by decide) rfl (n := 40) rfl ?_
    obtain ⟨n9, hw⟩ := hw
    exact hg_sub [1, 2, 0] rfl (tlM_X6_feed_40 hC hR  n9 x1 v5 σ3 hw)
  · have hw := hw.2 h9
    refine hg_iconst hC dX6_feed_33 hl_i0 (n := 34) rfl ?_
    exact hg_reti hC hR dX6_feed_34 hw
set_option maxRecDepth 4000 in
theorem tM_X6_feed {E : hg_Et} (hE : hg_Eok E) (l : Launch) (d : Nat) (x1 : Int64) (x3 : Int32) (σ : hg_M) (P : Int32 → hg_M → Prop) (hw : wM_X6_feed x1 x3 σ P) : hg_Ni hg_FM E l yX6_feed cX6_feed 5 (some .int) (d + 2) (fun ad => [.ref (ad 0), .long x1, .int x3]) hg_rM σ P := by
  refine hg_ni hE (by decide) (fun _ => Nat.le_of_ble_eq_true rfl) (fun X hC hR hl => ?_)
  subst hl
  have hC : hg_C hg_FM 5 (d + 2) E cX6_feed RX6 X := hC
  show hg_G hg_FM 5 X 0 [(0, .ref (hg_ad X 0)), (1, .long x1), (3, .int x3)] [] σ hg_rM
  unfold wM_X6_feed at hw
  refine hg_aload_n hC dX6_feed_0 rfl 0 rfl (n := 1) rfl ?_
  refine hg_iload_n hC dX6_feed_1 rfl 2 rfl (n := 2) rfl ?_
  refine hg_i2l hC dX6_feed_2 rfl (n := 3) rfl ?_
  refine hg_lconst hC dX6_feed_3 hl_l1 (n := 4) rfl ?_
  refine hg_ldc2 hC dX6_feed_4 kl_RX6_117 (n := 7) rfl ?_
  refine hg_cSi hC (tM_X6_isIn (hg_Eof hC) X.2.1 (d + 0) _ _ _ _ _ hw) ss_RX6_107 dX6_feed_7 rfl (rest := [.ref (hg_ad X 0)]) rfl (Nat.le_of_ble_eq_true rfl) (n := 10) rfl (fun r2 σ1 hw => ?_)
  refine hg_aload_n hC dX6_feed_10 rfl 0 rfl (n := 11) rfl ?_
  refine hg_geti hC fl_RX6_119 dX6_feed_11 qM_0 kM_0 fM_6_4 (n := 14) rfl ?_
  refine hg_iload_n hC dX6_feed_14 rfl 2 rfl (n := 15) rfl ?_
  refine hg_iadd hC dX6_feed_15 (n := 16) rfl ?_
  refine hg_sipush hC dX6_feed_16 hl_s600 (n := 19) rfl ?_
  refine hg_icmp_gt hC dX6_feed_19 (tg := 26) rfl (n := 22) rfl (fun h9 => ?_) (fun h9 => ?_)
  · have hw := hw.1 h9
    refine hg_iconst hC dX6_feed_26 hl_i0 (n := 27) rfl ?_
    exact tbM_X6_feed_27 hC hR  x1 x3 r2 (0 : Int32) σ1 hw
  · have hw := hw.2 h9
    refine hg_iconst hC dX6_feed_22 hl_i1 (n := 23) rfl ?_
    refine hg_goto hC dX6_feed_23 (tg := 27) rfl ?_
    exact tbM_X6_feed_27 hC hR  x1 x3 r2 (1 : Int32) σ1 hw
def bM_X6_fail_17 (P : hg_M → Prop)   (σ : hg_M) : Prop := P σ
def wM_X6_fail (x1 : Int32) (x2 : Int32) (σ : hg_M) (P : hg_M → Prop) : Prop := (((σ 0 6) ≠ 0 → bM_X6_fail_17 P σ) ∧ ((σ 0 6) = 0 → ∀ σ1 : hg_M, σ1 = hg_set σ 0 6 x1 → ∀ σ2 : hg_M, σ2 = hg_set σ1 0 7 x2 → bM_X6_fail_17 P σ2))
set_option maxRecDepth 4000 in
theorem tbM_X6_fail_17 {d : Nat} {E : hg_Et} {X : hg_X} {P : hg_M → Prop}  (hC : hg_C hg_FM 3 (d + 1) E cX6_fail RX6 X) (hR : hg_Rnv hg_FM hg_rM P X)   (σ : hg_M) (hw : bM_X6_fail_17 P  σ) : hg_G hg_FM 3 X 17 [] [] σ hg_rM := by
  unfold bM_X6_fail_17 at hw
  exact hg_retv hC hR dX6_fail_17 hw
set_option maxRecDepth 4000 in
theorem tM_X6_fail {E : hg_Et} (hE : hg_Eok E) (l : Launch) (d : Nat) (x1 : Int32) (x2 : Int32) (σ : hg_M) (P : hg_M → Prop) (hw : wM_X6_fail x1 x2 σ P) : hg_Nv hg_FM E l yX6_fail cX6_fail 3 (d + 1) (fun ad => [.ref (ad 0), .int x1, .int x2]) hg_rM σ P := by
  refine hg_nv hE (by decide) (fun _ => Nat.le_of_ble_eq_true rfl) (fun X hC hR hl => ?_)
  subst hl
  have hC : hg_C hg_FM 3 (d + 1) E cX6_fail RX6 X := hC
  show hg_G hg_FM 3 X 0 [(0, .ref (hg_ad X 0)), (1, .int x1), (2, .int x2)] [] σ hg_rM
  unfold wM_X6_fail at hw
  refine hg_aload_n hC dX6_fail_0 rfl 0 rfl (n := 1) rfl ?_
  refine hg_geti hC fl_RX6_124 dX6_fail_1 qM_0 kM_0 fM_6_6 (n := 4) rfl ?_
  refine hg_if_ne hC dX6_fail_4 (tg := 17) rfl (n := 7) rfl (fun h9 => ?_) (fun h9 => ?_)
  · have hw := hw.1 h9
    exact hg_sub [] rfl (tbM_X6_fail_17 hC hR  σ hw)
  · have hw := hw.2 h9
    refine hg_aload_n hC dX6_fail_7 rfl 0 rfl (n := 8) rfl ?_
    refine hg_iload_n hC dX6_fail_8 rfl 1 rfl (n := 9) rfl ?_
    refine hg_puti hC fp_RX6_124 dX6_fail_9 qM_0 kM_0 fM_6_6 rfl rfl (n := 12) rfl (fun σ1 eσ1 => ?_)
    have hw := hw σ1 eσ1
    refine hg_aload_n hC dX6_fail_12 rfl 0 rfl (n := 13) rfl ?_
    refine hg_iload_n hC dX6_fail_13 rfl 2 rfl (n := 14) rfl ?_
    refine hg_puti hC fp_RX6_127 dX6_fail_14 qM_0 kM_0 fM_6_7 rfl rfl (n := 17) rfl (fun σ2 eσ2 => ?_)
    have hw := hw σ2 eσ2
    exact hg_sub [] rfl (tbM_X6_fail_17 hC hR  σ2 hw)
def bM_X6_next_76 (P : Int32 → hg_M → Prop)  (t0 : Int32) (σ : hg_M) : Prop := P t0 σ
def bM_X6_next_52 (P : Int32 → hg_M → Prop)   (σ : hg_M) : Prop := (((σ 0 4) ≤ (σ 0 5) → bM_X6_next_76 P (-1 : Int32) σ) ∧ (¬ ((σ 0 4) ≤ (σ 0 5)) → vp_in (σ 0 5) 600 ∧ (bM_X6_next_76 P (σ 3 ((σ 0 5)).toNatClampNeg) σ)))
def bM_X6_next_39 (P : Int32 → hg_M → Prop) (J0 : hg_M → Prop)  (σ : hg_M) : Prop := ∀ σ1 : hg_M, σ1 = hg_set σ 0 5 ((σ 0 5) + (1 : Int32)) → J0 σ1
def lM_X6_next_0 (P : Int32 → hg_M → Prop)  : Nat → hg_M → Prop
  | 0, _ => False
  | n + 1, σ => (((σ 0 4) ≤ (σ 0 5) → bM_X6_next_52 P σ) ∧ (¬ ((σ 0 4) ≤ (σ 0 5)) → vp_in (σ 0 5) 600 ∧ ((((σ 3 ((σ 0 5)).toNatClampNeg) = (32 : Int32) → bM_X6_next_39 P (fun k0 => lM_X6_next_0 P n k0) σ) ∧ (¬ ((σ 3 ((σ 0 5)).toNatClampNeg) = (32 : Int32)) → vp_in (σ 0 5) 600 ∧ ((((σ 3 ((σ 0 5)).toNatClampNeg) ≠ (10 : Int32) → bM_X6_next_52 P σ) ∧ ((σ 3 ((σ 0 5)).toNatClampNeg) = (10 : Int32) → bM_X6_next_39 P (fun k0 => lM_X6_next_0 P n k0) σ))))))))
def wM_X6_next  (σ : hg_M) (P : Int32 → hg_M → Prop) : Prop := (∃ f9, lM_X6_next_0 P f9 σ)
set_option maxRecDepth 4000 in
theorem tbM_X6_next_76 {d : Nat} {E : hg_Et} {X : hg_X} {P : Int32 → hg_M → Prop}  (hC : hg_C hg_FM 1 (d + 1) E cX6_next RX6 X) (hR : hg_Rni hg_FM (some .int) hg_rM P X)  (t0 : Int32) (σ : hg_M) (hw : bM_X6_next_76 P t0 σ) : hg_G hg_FM 1 X 76 [] [.int t0] σ hg_rM := by
  unfold bM_X6_next_76 at hw
  exact hg_reti hC hR dX6_next_76 hw
set_option maxRecDepth 4000 in
theorem tbM_X6_next_52 {d : Nat} {E : hg_Et} {X : hg_X} {P : Int32 → hg_M → Prop}  (hC : hg_C hg_FM 1 (d + 1) E cX6_next RX6 X) (hR : hg_Rni hg_FM (some .int) hg_rM P X)   (σ : hg_M) (hw : bM_X6_next_52 P  σ) : hg_G hg_FM 1 X 52 [(0, .ref (hg_ad X 0))] [] σ hg_rM := by
  unfold bM_X6_next_52 at hw
  refine hg_aload_n hC dX6_next_52 rfl 0 rfl (n := 53) rfl ?_
  refine hg_geti hC fl_RX6_130 dX6_next_53 qM_0 kM_0 fM_6_5 (n := 56) rfl ?_
  refine hg_aload_n hC dX6_next_56 rfl 0 rfl (n := 57) rfl ?_
  refine hg_geti hC fl_RX6_119 dX6_next_57 qM_0 kM_0 fM_6_4 (n := 60) rfl ?_
  refine hg_icmp_ge hC dX6_next_60 (tg := 75) rfl (n := 63) rfl (fun h9 => ?_) (fun h9 => ?_)
  · have hw := hw.1 h9
    refine hg_iconst hC dX6_next_75 hl_im1 (n := 76) rfl ?_
    exact hg_sub [] rfl (tbM_X6_next_76 hC hR  (-1 : Int32) σ hw)
  · have hw := hw.2 h9
    refine hg_aload_n hC dX6_next_63 rfl 0 rfl (n := 64) rfl ?_
    refine hg_getr hC fl_RX6_16 dX6_next_64 qM_0 kM_0 fM_6_3 rM_0_3 (n := 67) rfl ?_
    refine hg_aload_n hC dX6_next_67 rfl 0 rfl (n := 68) rfl ?_
    refine hg_geti hC fl_RX6_130 dX6_next_68 qM_0 kM_0 fM_6_5 (n := 71) rfl ?_
    obtain ⟨h9, hw⟩ := hw
    refine hg_iald hC dX6_next_71 qM_3 kM_3 h9 (n := 72) rfl ?_
    refine hg_goto hC dX6_next_72 (tg := 76) rfl ?_
    exact hg_sub [] rfl (tbM_X6_next_76 hC hR  (σ 3 ((σ 0 5)).toNatClampNeg) σ hw)
set_option maxRecDepth 4000 in
theorem tbM_X6_next_39 {d : Nat} {E : hg_Et} {X : hg_X} {P : Int32 → hg_M → Prop} {J0 : hg_M → Prop} (hC : hg_C hg_FM 1 (d + 1) E cX6_next RX6 X) (hR : hg_Rni hg_FM (some .int) hg_rM P X) (hJ0 : ∀  (σ : hg_M), J0  σ → hg_G hg_FM 1 X 0 [(0, .ref (hg_ad X 0))] [] σ hg_rM)  (σ : hg_M) (hw : bM_X6_next_39 P J0  σ) : hg_G hg_FM 1 X 39 [(0, .ref (hg_ad X 0))] [] σ hg_rM := by
  unfold bM_X6_next_39 at hw
  refine hg_aload_n hC dX6_next_39 rfl 0 rfl (n := 40) rfl ?_
  refine hg_dup hC dX6_next_40 rfl (n := 41) rfl ?_
  refine hg_geti hC fl_RX6_130 dX6_next_41 qM_0 kM_0 fM_6_5 (n := 44) rfl ?_
  refine hg_iconst hC dX6_next_44 hl_i1 (n := 45) rfl ?_
  refine hg_iadd hC dX6_next_45 (n := 46) rfl ?_
  refine hg_puti hC fp_RX6_130 dX6_next_46 qM_0 kM_0 fM_6_5 rfl rfl (n := 49) rfl (fun σ1 eσ1 => ?_)
  have hw := hw σ1 eσ1
  refine hg_goto hC dX6_next_49 (tg := 0) rfl ?_
  exact hJ0 σ1 hw
set_option maxRecDepth 4000 in
theorem tlM_X6_next_0 {d : Nat} {E : hg_Et} {X : hg_X} {P : Int32 → hg_M → Prop}  (hC : hg_C hg_FM 1 (d + 1) E cX6_next RX6 X) (hR : hg_Rni hg_FM (some .int) hg_rM P X)  (n : Nat) : ∀  (σ : hg_M), lM_X6_next_0 P n  σ → hg_G hg_FM 1 X 0 [(0, .ref (hg_ad X 0))] [] σ hg_rM := by
  induction n with
  | zero =>
    intro  σ hw
    rw [lM_X6_next_0] at hw
    exact hw.elim
  | succ n ih =>
    intro  σ hw
    rw [lM_X6_next_0] at hw
    refine hg_aload_n hC dX6_next_0 rfl 0 rfl (n := 1) rfl ?_
    refine hg_geti hC fl_RX6_130 dX6_next_1 qM_0 kM_0 fM_6_5 (n := 4) rfl ?_
    refine hg_aload_n hC dX6_next_4 rfl 0 rfl (n := 5) rfl ?_
    refine hg_geti hC fl_RX6_119 dX6_next_5 qM_0 kM_0 fM_6_4 (n := 8) rfl ?_
    refine hg_icmp_ge hC dX6_next_8 (tg := 52) rfl (n := 11) rfl (fun h9 => ?_) (fun h9 => ?_)
    · have hw := hw.1 h9
      exact tbM_X6_next_52 hC hR  σ hw
    · have hw := hw.2 h9
      refine hg_aload_n hC dX6_next_11 rfl 0 rfl (n := 12) rfl ?_
      refine hg_getr hC fl_RX6_16 dX6_next_12 qM_0 kM_0 fM_6_3 rM_0_3 (n := 15) rfl ?_
      refine hg_aload_n hC dX6_next_15 rfl 0 rfl (n := 16) rfl ?_
      refine hg_geti hC fl_RX6_130 dX6_next_16 qM_0 kM_0 fM_6_5 (n := 19) rfl ?_
      obtain ⟨h9, hw⟩ := hw
      refine hg_iald hC dX6_next_19 qM_3 kM_3 h9 (n := 20) rfl ?_
      refine hg_bipush hC dX6_next_20 hl_b32 (n := 22) rfl ?_
      refine hg_icmp_eq hC dX6_next_22 (tg := 39) rfl (n := 25) rfl (fun h9 => ?_) (fun h9 => ?_)
      · have hw := hw.1 h9
        exact tbM_X6_next_39 hC hR ih σ hw
      · have hw := hw.2 h9
        refine hg_aload_n hC dX6_next_25 rfl 0 rfl (n := 26) rfl ?_
        refine hg_getr hC fl_RX6_16 dX6_next_26 qM_0 kM_0 fM_6_3 rM_0_3 (n := 29) rfl ?_
        refine hg_aload_n hC dX6_next_29 rfl 0 rfl (n := 30) rfl ?_
        refine hg_geti hC fl_RX6_130 dX6_next_30 qM_0 kM_0 fM_6_5 (n := 33) rfl ?_
        obtain ⟨h9, hw⟩ := hw
        refine hg_iald hC dX6_next_33 qM_3 kM_3 h9 (n := 34) rfl ?_
        refine hg_bipush hC dX6_next_34 hl_b10 (n := 36) rfl ?_
        refine hg_icmp_ne hC dX6_next_36 (tg := 52) rfl (n := 39) rfl (fun h9 => ?_) (fun h9 => ?_)
        · have hw := hw.1 h9
          exact tbM_X6_next_52 hC hR  σ hw
        · have hw := hw.2 h9
          exact tbM_X6_next_39 hC hR ih σ hw
set_option maxRecDepth 4000 in
theorem tM_X6_next {E : hg_Et} (hE : hg_Eok E) (l : Launch) (d : Nat)  (σ : hg_M) (P : Int32 → hg_M → Prop) (hw : wM_X6_next  σ P) : hg_Ni hg_FM E l yX6_next cX6_next 1 (some .int) (d + 1) (fun ad => [.ref (ad 0)]) hg_rM σ P := by
  refine hg_ni hE (by decide) (fun _ => Nat.le_of_ble_eq_true rfl) (fun X hC hR hl => ?_)
  subst hl
  have hC : hg_C hg_FM 1 (d + 1) E cX6_next RX6 X := hC
  show hg_G hg_FM 1 X 0 [(0, .ref (hg_ad X 0))] [] σ hg_rM
  unfold wM_X6_next at hw
  obtain ⟨n9, hw⟩ := hw
  exact tlM_X6_next_0 hC hR  n9 σ hw
def wM_X6_take (x1 : Int32) (σ : hg_M) (P : hg_M → Prop) : Prop := (((σ 0 6) ≤ 0 → wM_X6_next σ (fun r2 σ1 => ((r2 = x1 → ∀ σ3 : hg_M, σ3 = hg_set σ1 0 5 ((σ1 0 5) + (1 : Int32)) → P σ3) ∧ (¬ (r2 = x1) → wM_X6_fail (1 : Int32) (σ1 0 5) σ1 (fun σ4 => P σ4))))) ∧ (¬ (σ 0 6) ≤ 0 → P σ))
set_option maxRecDepth 4000 in
theorem tM_X6_take {E : hg_Et} (hE : hg_Eok E) (l : Launch) (d : Nat) (x1 : Int32) (σ : hg_M) (P : hg_M → Prop) (hw : wM_X6_take x1 σ P) : hg_Nv hg_FM E l yX6_take cX6_take 2 (d + 2) (fun ad => [.ref (ad 0), .int x1]) hg_rM σ P := by
  refine hg_nv hE (by decide) (fun _ => Nat.le_of_ble_eq_true rfl) (fun X hC hR hl => ?_)
  subst hl
  have hC : hg_C hg_FM 2 (d + 2) E cX6_take RX6 X := hC
  show hg_G hg_FM 2 X 0 [(0, .ref (hg_ad X 0)), (1, .int x1)] [] σ hg_rM
  unfold wM_X6_take at hw
  refine hg_aload_n hC dX6_take_0 rfl 0 rfl (n := 1) rfl ?_
  refine hg_geti hC fl_RX6_124 dX6_take_1 qM_0 kM_0 fM_6_6 (n := 4) rfl ?_
  refine hg_if_le hC dX6_take_4 (tg := 8) rfl (n := 7) rfl (fun h9 => ?_) (fun h9 => ?_)
  · have hw := hw.1 h9
    refine hg_aload_n hC dX6_take_8 rfl 0 rfl (n := 9) rfl ?_
    refine hg_cVi hC (tM_X6_next (hg_Eof hC) X.2.1 (d + 0) _ _ hw) sv_RX6_133 dX6_take_9 qM_0 kM_0 c_6 rfl (rest := []) rfl (Nat.le_of_ble_eq_true rfl) (n := 12) rfl (fun r2 σ1 hw => ?_)
    refine hg_iload_n hC dX6_take_12 rfl 1 rfl (n := 13) rfl ?_
    refine hg_icmp_eq hC dX6_take_13 (tg := 26) rfl (n := 16) rfl (fun h9 => ?_) (fun h9 => ?_)
    · have hw := hw.1 h9
      refine hg_aload_n hC dX6_take_26 rfl 0 rfl (n := 27) rfl ?_
      refine hg_dup hC dX6_take_27 rfl (n := 28) rfl ?_
      refine hg_geti hC fl_RX6_130 dX6_take_28 qM_0 kM_0 fM_6_5 (n := 31) rfl ?_
      refine hg_iconst hC dX6_take_31 hl_i1 (n := 32) rfl ?_
      refine hg_iadd hC dX6_take_32 (n := 33) rfl ?_
      refine hg_puti hC fp_RX6_130 dX6_take_33 qM_0 kM_0 fM_6_5 rfl rfl (n := 36) rfl (fun σ3 eσ3 => ?_)
      have hw := hw σ3 eσ3
      exact hg_retv hC hR dX6_take_36 hw
    · have hw := hw.2 h9
      refine hg_aload_n hC dX6_take_16 rfl 0 rfl (n := 17) rfl ?_
      refine hg_iconst hC dX6_take_17 hl_i1 (n := 18) rfl ?_
      refine hg_aload_n hC dX6_take_18 rfl 0 rfl (n := 19) rfl ?_
      refine hg_geti hC fl_RX6_130 dX6_take_19 qM_0 kM_0 fM_6_5 (n := 22) rfl ?_
      refine hg_cVv hC (tM_X6_fail (hg_Eof hC) X.2.1 (d + 0) _ _ _ _ hw) sv_RX6_137 dX6_take_22 qM_0 kM_0 c_6 rfl (rest := []) rfl (Nat.le_of_ble_eq_true rfl) (n := 25) rfl (fun σ4 hw => ?_)
      exact hg_retv hC hR dX6_take_25 hw
  · have hw := hw.2 h9
    exact hg_retv hC hR dX6_take_7 hw
def bM_X6_isVariable_17 (P : Int32 → hg_M → Prop)  (t0 : Int32) (σ : hg_M) : Prop := ((t0 = 0 ∨ t0 = 1) ∧ P t0 σ)
def bM_X6_isVariable_16 (P : Int32 → hg_M → Prop)   (σ : hg_M) : Prop := bM_X6_isVariable_17 P (0 : Int32) σ
def wM_X6_isVariable (x0 : Int32) (σ : hg_M) (P : Int32 → hg_M → Prop) : Prop := ((x0 < (97 : Int32) → bM_X6_isVariable_16 P σ) ∧ (¬ (x0 < (97 : Int32)) → (((112 : Int32) < x0 → bM_X6_isVariable_16 P σ) ∧ (¬ ((112 : Int32) < x0) → bM_X6_isVariable_17 P (1 : Int32) σ))))
set_option maxRecDepth 4000 in
theorem tbM_X6_isVariable_17 {d : Nat} {E : hg_Et} {X : hg_X} {P : Int32 → hg_M → Prop}  (hC : hg_C hg_FM 1 (d + 1) E cX6_isVariable RX6 X) (hR : hg_Rni hg_FM (some .boolean) hg_rM P X)  (t0 : Int32) (σ : hg_M) (hw : bM_X6_isVariable_17 P t0 σ) : hg_G hg_FM 1 X 17 [] [.int t0] σ hg_rM := by
  unfold bM_X6_isVariable_17 at hw
  exact hg_retz hC hR dX6_isVariable_17 hw
set_option maxRecDepth 4000 in
theorem tbM_X6_isVariable_16 {d : Nat} {E : hg_Et} {X : hg_X} {P : Int32 → hg_M → Prop}  (hC : hg_C hg_FM 1 (d + 1) E cX6_isVariable RX6 X) (hR : hg_Rni hg_FM (some .boolean) hg_rM P X)   (σ : hg_M) (hw : bM_X6_isVariable_16 P  σ) : hg_G hg_FM 1 X 16 [] [] σ hg_rM := by
  unfold bM_X6_isVariable_16 at hw
  refine hg_iconst hC dX6_isVariable_16 hl_i0 (n := 17) rfl ?_
  exact tbM_X6_isVariable_17 hC hR  (0 : Int32) σ hw
set_option maxRecDepth 4000 in
theorem tM_X6_isVariable {E : hg_Et} (hE : hg_Eok E) (l : Launch) (d : Nat) (x0 : Int32) (σ : hg_M) (P : Int32 → hg_M → Prop) (hw : wM_X6_isVariable x0 σ P) : hg_Ni hg_FM E l yX6_isVariable cX6_isVariable 1 (some .boolean) (d + 1) (fun ad => [.int x0]) hg_rM σ P := by
  refine hg_ni hE (by decide) (fun _ => Nat.le_of_ble_eq_true rfl) (fun X hC hR hl => ?_)
  subst hl
  have hC : hg_C hg_FM 1 (d + 1) E cX6_isVariable RX6 X := hC
  show hg_G hg_FM 1 X 0 [(0, .int x0)] [] σ hg_rM
  unfold wM_X6_isVariable at hw
  refine hg_iload_n hC dX6_isVariable_0 rfl 0 rfl (n := 1) rfl ?_
  refine hg_bipush hC dX6_isVariable_1 hl_b97 (n := 3) rfl ?_
  refine hg_icmp_lt hC dX6_isVariable_3 (tg := 16) rfl (n := 6) rfl (fun h9 => ?_) (fun h9 => ?_)
  · have hw := hw.1 h9
    exact hg_sub [] rfl (tbM_X6_isVariable_16 hC hR  σ hw)
  · have hw := hw.2 h9
    refine hg_iload_n hC dX6_isVariable_6 rfl 0 rfl (n := 7) rfl ?_
    refine hg_bipush hC dX6_isVariable_7 hl_b112 (n := 9) rfl ?_
    refine hg_icmp_gt hC dX6_isVariable_9 (tg := 16) rfl (n := 12) rfl (fun h9 => ?_) (fun h9 => ?_)
    · have hw := hw.1 h9
      exact hg_sub [] rfl (tbM_X6_isVariable_16 hC hR  σ hw)
    · have hw := hw.2 h9
      refine hg_iconst hC dX6_isVariable_12 hl_i1 (n := 13) rfl ?_
      refine hg_goto hC dX6_isVariable_13 (tg := 17) rfl ?_
      exact hg_sub [] rfl (tbM_X6_isVariable_17 hC hR  (1 : Int32) σ hw)
def bM_X6_isFigure_17 (P : Int32 → hg_M → Prop)  (t0 : Int32) (σ : hg_M) : Prop := ((t0 = 0 ∨ t0 = 1) ∧ P t0 σ)
def bM_X6_isFigure_16 (P : Int32 → hg_M → Prop)   (σ : hg_M) : Prop := bM_X6_isFigure_17 P (0 : Int32) σ
def wM_X6_isFigure (x0 : Int32) (σ : hg_M) (P : Int32 → hg_M → Prop) : Prop := ((x0 < (48 : Int32) → bM_X6_isFigure_16 P σ) ∧ (¬ (x0 < (48 : Int32)) → (((57 : Int32) < x0 → bM_X6_isFigure_16 P σ) ∧ (¬ ((57 : Int32) < x0) → bM_X6_isFigure_17 P (1 : Int32) σ))))
set_option maxRecDepth 4000 in
theorem tbM_X6_isFigure_17 {d : Nat} {E : hg_Et} {X : hg_X} {P : Int32 → hg_M → Prop}  (hC : hg_C hg_FM 1 (d + 1) E cX6_isFigure RX6 X) (hR : hg_Rni hg_FM (some .boolean) hg_rM P X)  (t0 : Int32) (σ : hg_M) (hw : bM_X6_isFigure_17 P t0 σ) : hg_G hg_FM 1 X 17 [] [.int t0] σ hg_rM := by
  unfold bM_X6_isFigure_17 at hw
  exact hg_retz hC hR dX6_isFigure_17 hw
set_option maxRecDepth 4000 in
theorem tbM_X6_isFigure_16 {d : Nat} {E : hg_Et} {X : hg_X} {P : Int32 → hg_M → Prop}  (hC : hg_C hg_FM 1 (d + 1) E cX6_isFigure RX6 X) (hR : hg_Rni hg_FM (some .boolean) hg_rM P X)   (σ : hg_M) (hw : bM_X6_isFigure_16 P  σ) : hg_G hg_FM 1 X 16 [] [] σ hg_rM := by
  unfold bM_X6_isFigure_16 at hw
  refine hg_iconst hC dX6_isFigure_16 hl_i0 (n := 17) rfl ?_
  exact tbM_X6_isFigure_17 hC hR  (0 : Int32) σ hw
set_option maxRecDepth 4000 in
theorem tM_X6_isFigure {E : hg_Et} (hE : hg_Eok E) (l : Launch) (d : Nat) (x0 : Int32) (σ : hg_M) (P : Int32 → hg_M → Prop) (hw : wM_X6_isFigure x0 σ P) : hg_Ni hg_FM E l yX6_isFigure cX6_isFigure 1 (some .boolean) (d + 1) (fun ad => [.int x0]) hg_rM σ P := by
  refine hg_ni hE (by decide) (fun _ => Nat.le_of_ble_eq_true rfl) (fun X hC hR hl => ?_)
  subst hl
  have hC : hg_C hg_FM 1 (d + 1) E cX6_isFigure RX6 X := hC
  show hg_G hg_FM 1 X 0 [(0, .int x0)] [] σ hg_rM
  unfold wM_X6_isFigure at hw
  refine hg_iload_n hC dX6_isFigure_0 rfl 0 rfl (n := 1) rfl ?_
  refine hg_bipush hC dX6_isFigure_1 hl_b48 (n := 3) rfl ?_
  refine hg_icmp_lt hC dX6_isFigure_3 (tg := 16) rfl (n := 6) rfl (fun h9 => ?_) (fun h9 => ?_)
  · have hw := hw.1 h9
    exact hg_sub [] rfl (tbM_X6_isFigure_16 hC hR  σ hw)
  · have hw := hw.2 h9
    refine hg_iload_n hC dX6_isFigure_6 rfl 0 rfl (n := 7) rfl ?_
    refine hg_bipush hC dX6_isFigure_7 hl_b57 (n := 9) rfl ?_
    refine hg_icmp_gt hC dX6_isFigure_9 (tg := 16) rfl (n := 12) rfl (fun h9 => ?_) (fun h9 => ?_)
    · have hw := hw.1 h9
      exact hg_sub [] rfl (tbM_X6_isFigure_16 hC hR  σ hw)
    · have hw := hw.2 h9
      refine hg_iconst hC dX6_isFigure_12 hl_i1 (n := 13) rfl ?_
      refine hg_goto hC dX6_isFigure_13 (tg := 17) rfl ?_
      exact hg_sub [] rfl (tbM_X6_isFigure_17 hC hR  (1 : Int32) σ hw)
def bM_X6_readNumber_158 (P : hg_M → Prop)  (t1 : Int32) (t2 : Int64) (σ : hg_M) : Prop := vp_in t1 540 ∧ (∀ σ8 : hg_M, σ8 = hg_set σ 4 (t1).toNatClampNeg (t2).toInt32 → P σ8)
def bM_X6_readNumber_122 (P : hg_M → Prop)  (x1 : Int32) (x2 : Int32) (x3 : Int32) (x5 : Int64) (σ : hg_M) : Prop := vp_in (((9 : Int32) * x1) + x2) 540 ∧ (∀ σ7 : hg_M, σ7 = hg_set σ 4 ((((9 : Int32) * x1) + x2)).toNatClampNeg (0 : Int32) → ((x3 = 0 → bM_X6_readNumber_158 P ((((9 : Int32) * x1) + x2) + (1 : Int32)) x5 σ7) ∧ (¬ x3 = 0 → bM_X6_readNumber_158 P ((((9 : Int32) * x1) + x2) + (1 : Int32)) (-x5) σ7)))
def bM_X6_readNumber_85 (P : hg_M → Prop)  (x1 : Int32) (x2 : Int32) (x3 : Int32) (x4 : Int32) (x5 : Int64) (σ : hg_M) : Prop := (((σ 0 5) ≠ x4 → (((lg_cmp x5 (2147483647 : Int64)) ≤ 0 → bM_X6_readNumber_122 P x1 x2 x3 x5 σ) ∧ (¬ (lg_cmp x5 (2147483647 : Int64)) ≤ 0 → wM_X6_fail (2 : Int32) x4 σ (fun σ5 => bM_X6_readNumber_122 P x1 x2 x3 x5 σ5)))) ∧ ((σ 0 5) = x4 → wM_X6_fail (1 : Int32) (σ 0 5) σ (fun σ6 => bM_X6_readNumber_122 P x1 x2 x3 x5 σ6)))
def bM_X6_readNumber_70 (P : hg_M → Prop) (J9 : Int32 → Int32 → Int32 → Int32 → Int64 → hg_M → Prop) (x1 : Int32) (x2 : Int32) (x3 : Int32) (x4 : Int32) (t0 : Int64) (σ : hg_M) : Prop := ∀ σ4 : hg_M, σ4 = hg_set σ 0 5 ((σ 0 5) + (1 : Int32)) → J9 x1 x2 x3 x4 t0 σ4
def lM_X6_readNumber_9 (P : hg_M → Prop)  : Nat → Int32 → Int32 → Int32 → Int32 → Int64 → hg_M → Prop
  | 0, _, _, _, _, _, _ => False
  | n + 1, x1, x2, x3, x4, x5, σ => (((σ 0 4) ≤ (σ 0 5) → bM_X6_readNumber_85 P x1 x2 x3 x4 x5 σ) ∧ (¬ ((σ 0 4) ≤ (σ 0 5)) → vp_in (σ 0 5) 600 ∧ (wM_X6_isFigure (σ 3 ((σ 0 5)).toNatClampNeg) σ (fun r3 σ2 => ((r3 = 0 → bM_X6_readNumber_85 P x1 x2 x3 x4 x5 σ2) ∧ (¬ r3 = 0 → (((lg_cmp x5 (4000000000 : Int64)) ≤ 0 → vp_in (σ2 0 5) 600 ∧ (bM_X6_readNumber_70 P (fun k0 k1 k2 k3 k4 k5 => lM_X6_readNumber_9 P n k0 k1 k2 k3 k4 k5) x1 x2 x3 x4 ((((10 : Int64) * x5) + ((σ2 3 ((σ2 0 5)).toNatClampNeg)).toInt64) - (48 : Int64)) σ2)) ∧ (¬ (lg_cmp x5 (4000000000 : Int64)) ≤ 0 → bM_X6_readNumber_70 P (fun k0 k1 k2 k3 k4 k5 => lM_X6_readNumber_9 P n k0 k1 k2 k3 k4 k5) x1 x2 x3 x4 x5 σ2))))))))
def wM_X6_readNumber (x1 : Int32) (x2 : Int32) (x3 : Int32) (σ : hg_M) (P : hg_M → Prop) : Prop := ∀ v1 : Int32, v1 = (σ 0 5) → (∃ f9, lM_X6_readNumber_9 P f9 x1 x2 x3 v1 (0 : Int64) σ)
set_option maxRecDepth 4000 in
theorem tbM_X6_readNumber_158 {d : Nat} {E : hg_Et} {X : hg_X} {P : hg_M → Prop}  (hC : hg_C hg_FM 7 (d + 2) E cX6_readNumber RX6 X) (hR : hg_Rnv hg_FM hg_rM P X)  (t1 : Int32) (t2 : Int64) (σ : hg_M) (hw : bM_X6_readNumber_158 P t1 t2 σ) : hg_G hg_FM 7 X 158 [] [.long t2, .int t1, .ref (hg_ad X 4)] σ hg_rM := by
  unfold bM_X6_readNumber_158 at hw
  refine hg_l2i hC dX6_readNumber_158 rfl (n := 159) rfl ?_
  obtain ⟨h9, hw⟩ := hw
  refine hg_iast hC dX6_readNumber_159 qM_4 kM_4 h9 (n := 160) rfl (fun σ8 eσ8 => ?_)
  have hw := hw σ8 eσ8
  exact hg_retv hC hR dX6_readNumber_160 hw
set_option maxRecDepth 4000 in
theorem tbM_X6_readNumber_122 {d : Nat} {E : hg_Et} {X : hg_X} {P : hg_M → Prop}  (hC : hg_C hg_FM 7 (d + 2) E cX6_readNumber RX6 X) (hR : hg_Rnv hg_FM hg_rM P X)  (x1 : Int32) (x2 : Int32) (x3 : Int32) (x5 : Int64) (σ : hg_M) (hw : bM_X6_readNumber_122 P x1 x2 x3 x5 σ) : hg_G hg_FM 7 X 122 [(0, .ref (hg_ad X 0)), (1, .int x1), (2, .int x2), (3, .int x3), (5, .long x5)] [] σ hg_rM := by
  unfold bM_X6_readNumber_122 at hw
  refine hg_aload_n hC dX6_readNumber_122 rfl 0 rfl (n := 123) rfl ?_
  refine hg_getr hC fl_RX6_19 dX6_readNumber_123 qM_0 kM_0 fM_6_10 rM_0_10 (n := 126) rfl ?_
  refine hg_bipush hC dX6_readNumber_126 hl_b9 (n := 128) rfl ?_
  refine hg_iload_n hC dX6_readNumber_128 rfl 1 rfl (n := 129) rfl ?_
  refine hg_imul hC dX6_readNumber_129 (n := 130) rfl ?_
  refine hg_iload_n hC dX6_readNumber_130 rfl 2 rfl (n := 131) rfl ?_
  refine hg_iadd hC dX6_readNumber_131 (n := 132) rfl ?_
  refine hg_iconst hC dX6_readNumber_132 hl_i0 (n := 133) rfl ?_
  obtain ⟨h9, hw⟩ := hw
  refine hg_iast hC dX6_readNumber_133 qM_4 kM_4 h9 (n := 134) rfl (fun σ7 eσ7 => ?_)
  have hw := hw σ7 eσ7
  refine hg_aload_n hC dX6_readNumber_134 rfl 0 rfl (n := 135) rfl ?_
  refine hg_getr hC fl_RX6_19 dX6_readNumber_135 qM_0 kM_0 fM_6_10 rM_0_10 (n := 138) rfl ?_
  refine hg_bipush hC dX6_readNumber_138 hl_b9 (n := 140) rfl ?_
  refine hg_iload_n hC dX6_readNumber_140 rfl 1 rfl (n := 141) rfl ?_
  refine hg_imul hC dX6_readNumber_141 (n := 142) rfl ?_
  refine hg_iload_n hC dX6_readNumber_142 rfl 2 rfl (n := 143) rfl ?_
  refine hg_iadd hC dX6_readNumber_143 (n := 144) rfl ?_
  refine hg_iconst hC dX6_readNumber_144 hl_i1 (n := 145) rfl ?_
  refine hg_iadd hC dX6_readNumber_145 (n := 146) rfl ?_
  refine hg_iload_n hC dX6_readNumber_146 rfl 3 rfl (n := 147) rfl ?_
  refine hg_if_eq hC dX6_readNumber_147 (tg := 156) rfl (n := 150) rfl (fun h9 => ?_) (fun h9 => ?_)
  · have hw := hw.1 h9
    refine hg_lload hC dX6_readNumber_156 4 rfl (n := 158) rfl ?_
    exact hg_sub [] rfl (tbM_X6_readNumber_158 hC hR  ((((9 : Int32) * x1) + x2) + (1 : Int32)) x5 σ7 hw)
  · have hw := hw.2 h9
    refine hg_lload hC dX6_readNumber_150 4 rfl (n := 152) rfl ?_
    refine hg_lneg hC dX6_readNumber_152 (n := 153) rfl ?_
    refine hg_goto hC dX6_readNumber_153 (tg := 158) rfl ?_
    exact hg_sub [] rfl (tbM_X6_readNumber_158 hC hR  ((((9 : Int32) * x1) + x2) + (1 : Int32)) (-x5) σ7 hw)
set_option maxRecDepth 4000 in
theorem tbM_X6_readNumber_85 {d : Nat} {E : hg_Et} {X : hg_X} {P : hg_M → Prop}  (hC : hg_C hg_FM 7 (d + 2) E cX6_readNumber RX6 X) (hR : hg_Rnv hg_FM hg_rM P X)  (x1 : Int32) (x2 : Int32) (x3 : Int32) (x4 : Int32) (x5 : Int64) (σ : hg_M) (hw : bM_X6_readNumber_85 P x1 x2 x3 x4 x5 σ) : hg_G hg_FM 7 X 85 [(0, .ref (hg_ad X 0)), (1, .int x1), (2, .int x2), (3, .int x3), (4, .int x4), (5, .long x5)] [] σ hg_rM := by
  unfold bM_X6_readNumber_85 at hw
  refine hg_aload_n hC dX6_readNumber_85 rfl 0 rfl (n := 86) rfl ?_
  refine hg_geti hC fl_RX6_130 dX6_readNumber_86 qM_0 kM_0 fM_6_5 (n := 89) rfl ?_
  refine hg_iload hC dX6_readNumber_89 4 rfl (n := 91) rfl ?_
  refine hg_icmp_ne hC dX6_readNumber_91 (tg := 106) rfl (n := 94) rfl (fun h9 => ?_) (fun h9 => ?_)
  · have hw := hw.1 h9
    refine hg_lload hC dX6_readNumber_106 5 rfl (n := 108) rfl ?_
    refine hg_ldc2 hC dX6_readNumber_108 kl_RX6_151 (n := 111) rfl ?_
    refine hg_lcmp hC dX6_readNumber_111 (n := 112) rfl ?_
    refine hg_if_le hC dX6_readNumber_112 (tg := 122) rfl (n := 115) rfl (fun h9 => ?_) (fun h9 => ?_)
    · have hw := hw.1 h9
      exact hg_sub [0, 1, 2, 3, 5] rfl (tbM_X6_readNumber_122 hC hR  x1 x2 x3 x5 σ hw)
    · have hw := hw.2 h9
      refine hg_aload_n hC dX6_readNumber_115 rfl 0 rfl (n := 116) rfl ?_
      refine hg_iconst hC dX6_readNumber_116 hl_i2 (n := 117) rfl ?_
      refine hg_iload hC dX6_readNumber_117 4 rfl (n := 119) rfl ?_
      refine hg_cVv hC (tM_X6_fail (hg_Eof hC) X.2.1 (d + 0) _ _ _ _ hw) sv_RX6_137 dX6_readNumber_119 qM_0 kM_0 c_6 rfl (rest := []) rfl (Nat.le_of_ble_eq_true rfl) (n := 122) rfl (fun σ5 hw => ?_)
      exact hg_sub [0, 1, 2, 3, 5] rfl (tbM_X6_readNumber_122 hC hR  x1 x2 x3 x5 σ5 hw)
  · have hw := hw.2 h9
    refine hg_aload_n hC dX6_readNumber_94 rfl 0 rfl (n := 95) rfl ?_
    refine hg_iconst hC dX6_readNumber_95 hl_i1 (n := 96) rfl ?_
    refine hg_aload_n hC dX6_readNumber_96 rfl 0 rfl (n := 97) rfl ?_
    refine hg_geti hC fl_RX6_130 dX6_readNumber_97 qM_0 kM_0 fM_6_5 (n := 100) rfl ?_
    refine hg_cVv hC (tM_X6_fail (hg_Eof hC) X.2.1 (d + 0) _ _ _ _ hw) sv_RX6_137 dX6_readNumber_100 qM_0 kM_0 c_6 rfl (rest := []) rfl (Nat.le_of_ble_eq_true rfl) (n := 103) rfl (fun σ6 hw => ?_)
    refine hg_goto hC dX6_readNumber_103 (tg := 122) rfl ?_
    exact hg_sub [0, 1, 2, 3, 5] rfl (tbM_X6_readNumber_122 hC hR  x1 x2 x3 x5 σ6 hw)
set_option maxRecDepth 4000 in
theorem tbM_X6_readNumber_70 {d : Nat} {E : hg_Et} {X : hg_X} {P : hg_M → Prop} {J9 : Int32 → Int32 → Int32 → Int32 → Int64 → hg_M → Prop} (hC : hg_C hg_FM 7 (d + 2) E cX6_readNumber RX6 X) (hR : hg_Rnv hg_FM hg_rM P X) (hJ9 : ∀ (x1 : Int32) (x2 : Int32) (x3 : Int32) (x4 : Int32) (x5 : Int64) (σ : hg_M), J9 x1 x2 x3 x4 x5 σ → hg_G hg_FM 7 X 9 [(0, .ref (hg_ad X 0)), (1, .int x1), (2, .int x2), (3, .int x3), (4, .int x4), (5, .long x5)] [] σ hg_rM) (x1 : Int32) (x2 : Int32) (x3 : Int32) (x4 : Int32) (t0 : Int64) (σ : hg_M) (hw : bM_X6_readNumber_70 P J9 x1 x2 x3 x4 t0 σ) : hg_G hg_FM 7 X 70 [(0, .ref (hg_ad X 0)), (1, .int x1), (2, .int x2), (3, .int x3), (4, .int x4)] [.long t0] σ hg_rM := by
  unfold bM_X6_readNumber_70 at hw
  refine hg_lstore hC (L1 := [(5, .long t0), (0, .ref (hg_ad X 0)), (1, .int x1), (2, .int x2), (3, .int x3), (4, .int x4)]) dX6_readNumber_70 (by decide) rfl (n := 72) rfl ?_
  refine hg_aload_n hC dX6_readNumber_72 rfl 1 rfl (n := 73) rfl ?_
  refine hg_dup hC dX6_readNumber_73 rfl (n := 74) rfl ?_
  refine hg_geti hC fl_RX6_130 dX6_readNumber_74 qM_0 kM_0 fM_6_5 (n := 77) rfl ?_
  refine hg_iconst hC dX6_readNumber_77 hl_i1 (n := 78) rfl ?_
  refine hg_iadd hC dX6_readNumber_78 (n := 79) rfl ?_
  refine hg_puti hC fp_RX6_130 dX6_readNumber_79 qM_0 kM_0 fM_6_5 rfl rfl (n := 82) rfl (fun σ4 eσ4 => ?_)
  have hw := hw σ4 eσ4
  refine hg_goto hC dX6_readNumber_82 (tg := 9) rfl ?_
  exact hg_sub [1, 2, 3, 4, 5, 0] rfl (hJ9 x1 x2 x3 x4 t0 σ4 hw)
set_option maxRecDepth 4000 in
theorem tlM_X6_readNumber_9 {d : Nat} {E : hg_Et} {X : hg_X} {P : hg_M → Prop}  (hC : hg_C hg_FM 7 (d + 2) E cX6_readNumber RX6 X) (hR : hg_Rnv hg_FM hg_rM P X)  (n : Nat) : ∀ (x1 : Int32) (x2 : Int32) (x3 : Int32) (x4 : Int32) (x5 : Int64) (σ : hg_M), lM_X6_readNumber_9 P n x1 x2 x3 x4 x5 σ → hg_G hg_FM 7 X 9 [(0, .ref (hg_ad X 0)), (1, .int x1), (2, .int x2), (3, .int x3), (4, .int x4), (5, .long x5)] [] σ hg_rM := by
  induction n with
  | zero =>
    intro x1 x2 x3 x4 x5 σ hw
    rw [lM_X6_readNumber_9] at hw
    exact hw.elim
  | succ n ih =>
    intro x1 x2 x3 x4 x5 σ hw
    rw [lM_X6_readNumber_9] at hw
    refine hg_aload_n hC dX6_readNumber_9 rfl 0 rfl (n := 10) rfl ?_
    refine hg_geti hC fl_RX6_130 dX6_readNumber_10 qM_0 kM_0 fM_6_5 (n := 13) rfl ?_
    refine hg_aload_n hC dX6_readNumber_13 rfl 0 rfl (n := 14) rfl ?_
    refine hg_geti hC fl_RX6_119 dX6_readNumber_14 qM_0 kM_0 fM_6_4 (n := 17) rfl ?_
    refine hg_icmp_ge hC dX6_readNumber_17 (tg := 85) rfl (n := 20) rfl (fun h9 => ?_) (fun h9 => ?_)
    · have hw := hw.1 h9
      exact tbM_X6_readNumber_85 hC hR  x1 x2 x3 x4 x5 σ hw
    · have hw := hw.2 h9
      refine hg_aload_n hC dX6_readNumber_20 rfl 0 rfl (n := 21) rfl ?_
      refine hg_getr hC fl_RX6_16 dX6_readNumber_21 qM_0 kM_0 fM_6_3 rM_0_3 (n := 24) rfl ?_
      refine hg_aload_n hC dX6_readNumber_24 rfl 0 rfl (n := 25) rfl ?_
      refine hg_geti hC fl_RX6_130 dX6_readNumber_25 qM_0 kM_0 fM_6_5 (n := 28) rfl ?_
      obtain ⟨h9, hw⟩ := hw
      refine hg_iald hC dX6_readNumber_28 qM_3 kM_3 h9 (n := 29) rfl ?_
      refine hg_cSi hC (tM_X6_isFigure (hg_Eof hC) X.2.1 (d + 0) _ _ _ hw) ss_RX6_141 dX6_readNumber_29 rfl (rest := []) rfl (Nat.le_of_ble_eq_true rfl) (n := 32) rfl (fun r3 σ2 hw => ?_)
      refine hg_if_eq hC dX6_readNumber_32 (tg := 85) rfl (n := 35) rfl (fun h9 => ?_) (fun h9 => ?_)
      · have hw := hw.1 h9
        exact tbM_X6_readNumber_85 hC hR  x1 x2 x3 x4 x5 σ2 hw
      · have hw := hw.2 h9
        refine hg_lload hC dX6_readNumber_35 5 rfl (n := 37) rfl ?_
        refine hg_ldc2 hC dX6_readNumber_37 kl_RX6_145 (n := 40) rfl ?_
        refine hg_lcmp hC dX6_readNumber_40 (n := 41) rfl ?_
        refine hg_if_le hC dX6_readNumber_41 (tg := 49) rfl (n := 44) rfl (fun h9 => ?_) (fun h9 => ?_)
        · have hw := hw.1 h9
          refine hg_ldc2 hC dX6_readNumber_49 kl_RX6_147 (n := 52) rfl ?_
          refine hg_lload hC dX6_readNumber_52 5 rfl (n := 54) rfl ?_
          refine hg_lmul hC dX6_readNumber_54 (n := 55) rfl ?_
          refine hg_aload_n hC dX6_readNumber_55 rfl 0 rfl (n := 56) rfl ?_
          refine hg_getr hC fl_RX6_16 dX6_readNumber_56 qM_0 kM_0 fM_6_3 rM_0_3 (n := 59) rfl ?_
          refine hg_aload_n hC dX6_readNumber_59 rfl 0 rfl (n := 60) rfl ?_
          refine hg_geti hC fl_RX6_130 dX6_readNumber_60 qM_0 kM_0 fM_6_5 (n := 63) rfl ?_
          obtain ⟨h9, hw⟩ := hw
          refine hg_iald hC dX6_readNumber_63 qM_3 kM_3 h9 (n := 64) rfl ?_
          refine hg_i2l hC dX6_readNumber_64 rfl (n := 65) rfl ?_
          refine hg_ladd hC dX6_readNumber_65 (n := 66) rfl ?_
          refine hg_ldc2 hC dX6_readNumber_66 kl_RX6_149 (n := 69) rfl ?_
          refine hg_lsub hC dX6_readNumber_69 (n := 70) rfl ?_
          exact hg_sub [0, 1, 2, 3, 4] rfl (tbM_X6_readNumber_70 hC hR ih x1 x2 x3 x4 ((((10 : Int64) * x5) + ((σ2 3 ((σ2 0 5)).toNatClampNeg)).toInt64) - (48 : Int64)) σ2 hw)
        · have hw := hw.2 h9
          refine hg_lload hC dX6_readNumber_44 5 rfl (n := 46) rfl ?_
          refine hg_goto hC dX6_readNumber_46 (tg := 70) rfl ?_
          exact hg_sub [0, 1, 2, 3, 4] rfl (tbM_X6_readNumber_70 hC hR ih x1 x2 x3 x4 x5 σ2 hw)
set_option maxRecDepth 4000 in
theorem tM_X6_readNumber {E : hg_Et} (hE : hg_Eok E) (l : Launch) (d : Nat) (x1 : Int32) (x2 : Int32) (x3 : Int32) (σ : hg_M) (P : hg_M → Prop) (hw : wM_X6_readNumber x1 x2 x3 σ P) : hg_Nv hg_FM E l yX6_readNumber cX6_readNumber 7 (d + 2) (fun ad => [.ref (ad 0), .int x1, .int x2, .int x3]) hg_rM σ P := by
  refine hg_nv hE (by decide) (fun _ => Nat.le_of_ble_eq_true rfl) (fun X hC hR hl => ?_)
  subst hl
  have hC : hg_C hg_FM 7 (d + 2) E cX6_readNumber RX6 X := hC
  show hg_G hg_FM 7 X 0 [(0, .ref (hg_ad X 0)), (1, .int x1), (2, .int x2), (3, .int x3)] [] σ hg_rM
  unfold wM_X6_readNumber at hw
  refine hg_aload_n hC dX6_readNumber_0 rfl 0 rfl (n := 1) rfl ?_
  refine hg_geti hC fl_RX6_130 dX6_readNumber_1 qM_0 kM_0 fM_6_5 (n := 4) rfl ?_
  refine hg_topi (fun v1 ev1 => ?_)
  have hw := hw v1 ev1
  refine hg_istore hC (L1 := [(4, .int v1), (0, .ref (hg_ad X 0)), (1, .int x1), (2, .int x2), (3, .int x3)]) dX6_readNumber_4 (by decide) rfl (n := 6) rfl ?_
  refine hg_lconst hC dX6_readNumber_6 hl_l0 (n := 7) rfl ?_
  refine hg_lstore hC (L1 := [(5, .long (0 : Int64)), (4, .int v1), (0, .ref (hg_ad X 0)), (1, .int x1), (2, .int x2), (3, .int x3)]) dX6_readNumber_7 (by decide) rfl (n := 9) rfl ?_
  obtain ⟨n9, hw⟩ := hw
  exact hg_sub [2, 3, 4, 5, 1, 0] rfl (tlM_X6_readNumber_9 hC hR  n9 x1 x2 x3 v1 (0 : Int64) σ hw)
def bM_X6_readValue_93 (P : hg_M → Prop)  (x1 : Int32) (x2 : Int32) (x4 : Int32) (σ : hg_M) : Prop := wM_X6_readNumber x1 x2 x4 σ (fun σ11 => P σ11)
def bM_X6_readValue_71 (P : hg_M → Prop)  (x1 : Int32) (x2 : Int32) (t0 : Int32) (σ : hg_M) : Prop := ((t0 = 0 → bM_X6_readValue_93 P x1 x2 t0 σ) ∧ (¬ t0 = 0 → ∀ σ8 : hg_M, σ8 = hg_set σ 0 5 ((σ 0 5) + (1 : Int32)) → wM_X6_next σ8 (fun r10 σ9 => bM_X6_readValue_93 P x1 x2 t0 σ9)))
def wM_X6_readValue (x1 : Int32) (x2 : Int32) (σ : hg_M) (P : hg_M → Prop) : Prop := (((σ 0 6) ≤ 0 → wM_X6_next σ (fun r2 σ1 => wM_X6_isVariable r2 σ1 (fun r4 σ3 => ((r4 = 0 → ((r2 ≠ (45 : Int32) → bM_X6_readValue_71 P x1 x2 (0 : Int32) σ3) ∧ (r2 = (45 : Int32) → bM_X6_readValue_71 P x1 x2 (1 : Int32) σ3))) ∧ (¬ r4 = 0 → vp_in (((9 : Int32) * x1) + x2) 540 ∧ (∀ σ5 : hg_M, σ5 = hg_set σ3 4 ((((9 : Int32) * x1) + x2)).toNatClampNeg (1 : Int32) → vp_in ((((9 : Int32) * x1) + x2) + (1 : Int32)) 540 ∧ (∀ σ6 : hg_M, σ6 = hg_set σ5 4 (((((9 : Int32) * x1) + x2) + (1 : Int32))).toNatClampNeg (r2 - (97 : Int32)) → ∀ σ7 : hg_M, σ7 = hg_set σ6 0 5 ((σ6 0 5) + (1 : Int32)) → P σ7))))))) ∧ (¬ (σ 0 6) ≤ 0 → P σ))
set_option maxRecDepth 4000 in
theorem tbM_X6_readValue_93 {d : Nat} {E : hg_Et} {X : hg_X} {P : hg_M → Prop}  (hC : hg_C hg_FM 5 (d + 3) E cX6_readValue RX6 X) (hR : hg_Rnv hg_FM hg_rM P X)  (x1 : Int32) (x2 : Int32) (x4 : Int32) (σ : hg_M) (hw : bM_X6_readValue_93 P x1 x2 x4 σ) : hg_G hg_FM 5 X 93 [(0, .ref (hg_ad X 0)), (1, .int x1), (2, .int x2), (4, .int x4)] [] σ hg_rM := by
  unfold bM_X6_readValue_93 at hw
  refine hg_aload_n hC dX6_readValue_93 rfl 0 rfl (n := 94) rfl ?_
  refine hg_iload_n hC dX6_readValue_94 rfl 1 rfl (n := 95) rfl ?_
  refine hg_iload_n hC dX6_readValue_95 rfl 2 rfl (n := 96) rfl ?_
  refine hg_iload hC dX6_readValue_96 3 rfl (n := 98) rfl ?_
  refine hg_cVv hC (tM_X6_readNumber (hg_Eof hC) X.2.1 (d + 0) _ _ _ _ _ hw) sv_RX6_156 dX6_readValue_98 qM_0 kM_0 c_6 rfl (rest := []) rfl (Nat.le_of_ble_eq_true rfl) (n := 101) rfl (fun σ11 hw => ?_)
  exact hg_retv hC hR dX6_readValue_101 hw
set_option maxRecDepth 4000 in
theorem tbM_X6_readValue_71 {d : Nat} {E : hg_Et} {X : hg_X} {P : hg_M → Prop}  (hC : hg_C hg_FM 5 (d + 3) E cX6_readValue RX6 X) (hR : hg_Rnv hg_FM hg_rM P X)  (x1 : Int32) (x2 : Int32) (t0 : Int32) (σ : hg_M) (hw : bM_X6_readValue_71 P x1 x2 t0 σ) : hg_G hg_FM 5 X 71 [(0, .ref (hg_ad X 0)), (1, .int x1), (2, .int x2)] [.int t0] σ hg_rM := by
  unfold bM_X6_readValue_71 at hw
  refine hg_istore hC (L1 := [(4, .int t0), (0, .ref (hg_ad X 0)), (1, .int x1), (2, .int x2)]) dX6_readValue_71 (by decide) rfl (n := 73) rfl ?_
  refine hg_iload hC dX6_readValue_73 0 rfl (n := 75) rfl ?_
  refine hg_if_eq hC dX6_readValue_75 (tg := 93) rfl (n := 78) rfl (fun h9 => ?_) (fun h9 => ?_)
  · have hw := hw.1 h9
    exact hg_sub [1, 2, 3, 0] rfl (tbM_X6_readValue_93 hC hR  x1 x2 t0 σ hw)
  · have hw := hw.2 h9
    refine hg_aload_n hC dX6_readValue_78 rfl 1 rfl (n := 79) rfl ?_
    refine hg_dup hC dX6_readValue_79 rfl (n := 80) rfl ?_
    refine hg_geti hC fl_RX6_130 dX6_readValue_80 qM_0 kM_0 fM_6_5 (n := 83) rfl ?_
    refine hg_iconst hC dX6_readValue_83 hl_i1 (n := 84) rfl ?_
    refine hg_iadd hC dX6_readValue_84 (n := 85) rfl ?_
    refine hg_puti hC fp_RX6_130 dX6_readValue_85 qM_0 kM_0 fM_6_5 rfl rfl (n := 88) rfl (fun σ8 eσ8 => ?_)
    have hw := hw σ8 eσ8
    refine hg_aload_n hC dX6_readValue_88 rfl 1 rfl (n := 89) rfl ?_
    refine hg_cVi hC (tM_X6_next (hg_Eof hC) X.2.1 (d + 1) _ _ hw) sv_RX6_133 dX6_readValue_89 qM_0 kM_0 c_6 rfl (rest := []) rfl (Nat.le_of_ble_eq_true rfl) (n := 92) rfl (fun r10 σ9 hw => ?_)
    refine hg_pop hC dX6_readValue_92 rfl (n := 93) rfl ?_
    exact hg_sub [1, 2, 3, 0] rfl (tbM_X6_readValue_93 hC hR  x1 x2 t0 σ9 hw)
set_option maxRecDepth 4000 in
theorem tM_X6_readValue {E : hg_Et} (hE : hg_Eok E) (l : Launch) (d : Nat) (x1 : Int32) (x2 : Int32) (σ : hg_M) (P : hg_M → Prop) (hw : wM_X6_readValue x1 x2 σ P) : hg_Nv hg_FM E l yX6_readValue cX6_readValue 5 (d + 3) (fun ad => [.ref (ad 0), .int x1, .int x2]) hg_rM σ P := by
  refine hg_nv hE (by decide) (fun _ => Nat.le_of_ble_eq_true rfl) (fun X hC hR hl => ?_)
  subst hl
  have hC : hg_C hg_FM 5 (d + 3) E cX6_readValue RX6 X := hC
  show hg_G hg_FM 5 X 0 [(0, .ref (hg_ad X 0)), (1, .int x1), (2, .int x2)] [] σ hg_rM
  unfold wM_X6_readValue at hw
  refine hg_aload_n hC dX6_readValue_0 rfl 0 rfl (n := 1) rfl ?_
  refine hg_geti hC fl_RX6_124 dX6_readValue_1 qM_0 kM_0 fM_6_6 (n := 4) rfl ?_
  refine hg_if_le hC dX6_readValue_4 (tg := 8) rfl (n := 7) rfl (fun h9 => ?_) (fun h9 => ?_)
  · have hw := hw.1 h9
    refine hg_aload_n hC dX6_readValue_8 rfl 0 rfl (n := 9) rfl ?_
    refine hg_cVi hC (tM_X6_next (hg_Eof hC) X.2.1 (d + 1) _ _ hw) sv_RX6_133 dX6_readValue_9 qM_0 kM_0 c_6 rfl (rest := []) rfl (Nat.le_of_ble_eq_true rfl) (n := 12) rfl (fun r2 σ1 hw => ?_)
    refine hg_istore_n hC (L1 := [(3, .int r2), (0, .ref (hg_ad X 0)), (1, .int x1), (2, .int x2)]) dX6_readValue_12 rfl (by decide) rfl (n := 13) rfl ?_
    refine hg_iload_n hC dX6_readValue_13 rfl 0 rfl (n := 14) rfl ?_
    refine hg_cSi hC (tM_X6_isVariable (hg_Eof hC) X.2.1 (d + 1) _ _ _ hw) ss_RX6_153 dX6_readValue_14 rfl (rest := []) rfl (Nat.le_of_ble_eq_true rfl) (n := 17) rfl (fun r4 σ3 hw => ?_)
    refine hg_if_eq hC dX6_readValue_17 (tg := 60) rfl (n := 20) rfl (fun h9 => ?_) (fun h9 => ?_)
    · have hw := hw.1 h9
      refine hg_iload_n hC dX6_readValue_60 rfl 0 rfl (n := 61) rfl ?_
      refine hg_bipush hC dX6_readValue_61 hl_b45 (n := 63) rfl ?_
      refine hg_icmp_ne hC dX6_readValue_63 (tg := 70) rfl (n := 66) rfl (fun h9 => ?_) (fun h9 => ?_)
      · have hw := hw.1 h9
        refine hg_iconst hC dX6_readValue_70 hl_i0 (n := 71) rfl ?_
        exact hg_sub [1, 2, 3] rfl (tbM_X6_readValue_71 hC hR  x1 x2 (0 : Int32) σ3 hw)
      · have hw := hw.2 h9
        refine hg_iconst hC dX6_readValue_66 hl_i1 (n := 67) rfl ?_
        refine hg_goto hC dX6_readValue_67 (tg := 71) rfl ?_
        exact hg_sub [1, 2, 3] rfl (tbM_X6_readValue_71 hC hR  x1 x2 (1 : Int32) σ3 hw)
    · have hw := hw.2 h9
      refine hg_aload_n hC dX6_readValue_20 rfl 1 rfl (n := 21) rfl ?_
      refine hg_getr hC fl_RX6_19 dX6_readValue_21 qM_0 kM_0 fM_6_10 rM_0_10 (n := 24) rfl ?_
      refine hg_bipush hC dX6_readValue_24 hl_b9 (n := 26) rfl ?_
      refine hg_iload_n hC dX6_readValue_26 rfl 2 rfl (n := 27) rfl ?_
      refine hg_imul hC dX6_readValue_27 (n := 28) rfl ?_
      refine hg_iload_n hC dX6_readValue_28 rfl 3 rfl (n := 29) rfl ?_
      refine hg_iadd hC dX6_readValue_29 (n := 30) rfl ?_
      refine hg_iconst hC dX6_readValue_30 hl_i1 (n := 31) rfl ?_
      obtain ⟨h9, hw⟩ := hw
      refine hg_iast hC dX6_readValue_31 qM_4 kM_4 h9 (n := 32) rfl (fun σ5 eσ5 => ?_)
      have hw := hw σ5 eσ5
      refine hg_aload_n hC dX6_readValue_32 rfl 1 rfl (n := 33) rfl ?_
      refine hg_getr hC fl_RX6_19 dX6_readValue_33 qM_0 kM_0 fM_6_10 rM_0_10 (n := 36) rfl ?_
      refine hg_bipush hC dX6_readValue_36 hl_b9 (n := 38) rfl ?_
      refine hg_iload_n hC dX6_readValue_38 rfl 2 rfl (n := 39) rfl ?_
      refine hg_imul hC dX6_readValue_39 (n := 40) rfl ?_
      refine hg_iload_n hC dX6_readValue_40 rfl 3 rfl (n := 41) rfl ?_
      refine hg_iadd hC dX6_readValue_41 (n := 42) rfl ?_
      refine hg_iconst hC dX6_readValue_42 hl_i1 (n := 43) rfl ?_
      refine hg_iadd hC dX6_readValue_43 (n := 44) rfl ?_
      refine hg_iload_n hC dX6_readValue_44 rfl 0 rfl (n := 45) rfl ?_
      refine hg_bipush hC dX6_readValue_45 hl_b97 (n := 47) rfl ?_
      refine hg_isub hC dX6_readValue_47 (n := 48) rfl ?_
      obtain ⟨h9, hw⟩ := hw
      refine hg_iast hC dX6_readValue_48 qM_4 kM_4 h9 (n := 49) rfl (fun σ6 eσ6 => ?_)
      have hw := hw σ6 eσ6
      refine hg_aload_n hC dX6_readValue_49 rfl 1 rfl (n := 50) rfl ?_
      refine hg_dup hC dX6_readValue_50 rfl (n := 51) rfl ?_
      refine hg_geti hC fl_RX6_130 dX6_readValue_51 qM_0 kM_0 fM_6_5 (n := 54) rfl ?_
      refine hg_iconst hC dX6_readValue_54 hl_i1 (n := 55) rfl ?_
      refine hg_iadd hC dX6_readValue_55 (n := 56) rfl ?_
      refine hg_puti hC fp_RX6_130 dX6_readValue_56 qM_0 kM_0 fM_6_5 rfl rfl (n := 59) rfl (fun σ7 eσ7 => ?_)
      have hw := hw σ7 eσ7
      exact hg_retv hC hR dX6_readValue_59 hw
  · have hw := hw.2 h9
    exact hg_retv hC hR dX6_readValue_7 hw
def bM_X6_opOf_85 (P : Int32 → hg_M → Prop)  (t0 : Int32) (σ : hg_M) : Prop := P t0 σ
def wM_X6_opOf (x0 : Int32) (σ : hg_M) (P : Int32 → hg_M → Prop) : Prop := ((x0 ≠ (43 : Int32) → ((x0 ≠ (45 : Int32) → ((x0 ≠ (42 : Int32) → ((x0 ≠ (47 : Int32) → ((x0 ≠ (37 : Int32) → ((x0 ≠ (38 : Int32) → ((x0 ≠ (124 : Int32) → ((x0 ≠ (94 : Int32) → bM_X6_opOf_85 P (-1 : Int32) σ) ∧ (x0 = (94 : Int32) → bM_X6_opOf_85 P (9 : Int32) σ))) ∧ (x0 = (124 : Int32) → bM_X6_opOf_85 P (8 : Int32) σ))) ∧ (x0 = (38 : Int32) → bM_X6_opOf_85 P (7 : Int32) σ))) ∧ (x0 = (37 : Int32) → bM_X6_opOf_85 P (6 : Int32) σ))) ∧ (x0 = (47 : Int32) → bM_X6_opOf_85 P (5 : Int32) σ))) ∧ (x0 = (42 : Int32) → bM_X6_opOf_85 P (4 : Int32) σ))) ∧ (x0 = (45 : Int32) → bM_X6_opOf_85 P (3 : Int32) σ))) ∧ (x0 = (43 : Int32) → bM_X6_opOf_85 P (2 : Int32) σ))
set_option maxRecDepth 4000 in
theorem tbM_X6_opOf_85 {d : Nat} {E : hg_Et} {X : hg_X} {P : Int32 → hg_M → Prop}  (hC : hg_C hg_FM 1 (d + 1) E cX6_opOf RX6 X) (hR : hg_Rni hg_FM (some .int) hg_rM P X)  (t0 : Int32) (σ : hg_M) (hw : bM_X6_opOf_85 P t0 σ) : hg_G hg_FM 1 X 85 [] [.int t0] σ hg_rM := by
  unfold bM_X6_opOf_85 at hw
  exact hg_reti hC hR dX6_opOf_85 hw
set_option maxRecDepth 4000 in
theorem tM_X6_opOf {E : hg_Et} (hE : hg_Eok E) (l : Launch) (d : Nat) (x0 : Int32) (σ : hg_M) (P : Int32 → hg_M → Prop) (hw : wM_X6_opOf x0 σ P) : hg_Ni hg_FM E l yX6_opOf cX6_opOf 1 (some .int) (d + 1) (fun ad => [.int x0]) hg_rM σ P := by
  refine hg_ni hE (by decide) (fun _ => Nat.le_of_ble_eq_true rfl) (fun X hC hR hl => ?_)
  subst hl
  have hC : hg_C hg_FM 1 (d + 1) E cX6_opOf RX6 X := hC
  show hg_G hg_FM 1 X 0 [(0, .int x0)] [] σ hg_rM
  unfold wM_X6_opOf at hw
  refine hg_iload_n hC dX6_opOf_0 rfl 0 rfl (n := 1) rfl ?_
  refine hg_bipush hC dX6_opOf_1 hl_b43 (n := 3) rfl ?_
  refine hg_icmp_ne hC dX6_opOf_3 (tg := 10) rfl (n := 6) rfl (fun h9 => ?_) (fun h9 => ?_)
  · have hw := hw.1 h9
    refine hg_iload_n hC dX6_opOf_10 rfl 0 rfl (n := 11) rfl ?_
    refine hg_bipush hC dX6_opOf_11 hl_b45 (n := 13) rfl ?_
    refine hg_icmp_ne hC dX6_opOf_13 (tg := 20) rfl (n := 16) rfl (fun h9 => ?_) (fun h9 => ?_)
    · have hw := hw.1 h9
      refine hg_iload_n hC dX6_opOf_20 rfl 0 rfl (n := 21) rfl ?_
      refine hg_bipush hC dX6_opOf_21 hl_b42 (n := 23) rfl ?_
      refine hg_icmp_ne hC dX6_opOf_23 (tg := 30) rfl (n := 26) rfl (fun h9 => ?_) (fun h9 => ?_)
      · have hw := hw.1 h9
        refine hg_iload_n hC dX6_opOf_30 rfl 0 rfl (n := 31) rfl ?_
        refine hg_bipush hC dX6_opOf_31 hl_b47 (n := 33) rfl ?_
        refine hg_icmp_ne hC dX6_opOf_33 (tg := 40) rfl (n := 36) rfl (fun h9 => ?_) (fun h9 => ?_)
        · have hw := hw.1 h9
          refine hg_iload_n hC dX6_opOf_40 rfl 0 rfl (n := 41) rfl ?_
          refine hg_bipush hC dX6_opOf_41 hl_b37 (n := 43) rfl ?_
          refine hg_icmp_ne hC dX6_opOf_43 (tg := 51) rfl (n := 46) rfl (fun h9 => ?_) (fun h9 => ?_)
          · have hw := hw.1 h9
            refine hg_iload_n hC dX6_opOf_51 rfl 0 rfl (n := 52) rfl ?_
            refine hg_bipush hC dX6_opOf_52 hl_b38 (n := 54) rfl ?_
            refine hg_icmp_ne hC dX6_opOf_54 (tg := 62) rfl (n := 57) rfl (fun h9 => ?_) (fun h9 => ?_)
            · have hw := hw.1 h9
              refine hg_iload_n hC dX6_opOf_62 rfl 0 rfl (n := 63) rfl ?_
              refine hg_bipush hC dX6_opOf_63 hl_b124 (n := 65) rfl ?_
              refine hg_icmp_ne hC dX6_opOf_65 (tg := 73) rfl (n := 68) rfl (fun h9 => ?_) (fun h9 => ?_)
              · have hw := hw.1 h9
                refine hg_iload_n hC dX6_opOf_73 rfl 0 rfl (n := 74) rfl ?_
                refine hg_bipush hC dX6_opOf_74 hl_b94 (n := 76) rfl ?_
                refine hg_icmp_ne hC dX6_opOf_76 (tg := 84) rfl (n := 79) rfl (fun h9 => ?_) (fun h9 => ?_)
                · have hw := hw.1 h9
                  refine hg_iconst hC dX6_opOf_84 hl_im1 (n := 85) rfl ?_
                  exact hg_sub [] rfl (tbM_X6_opOf_85 hC hR  (-1 : Int32) σ hw)
                · have hw := hw.2 h9
                  refine hg_bipush hC dX6_opOf_79 hl_b9 (n := 81) rfl ?_
                  refine hg_goto hC dX6_opOf_81 (tg := 85) rfl ?_
                  exact hg_sub [] rfl (tbM_X6_opOf_85 hC hR  (9 : Int32) σ hw)
              · have hw := hw.2 h9
                refine hg_bipush hC dX6_opOf_68 hl_b8 (n := 70) rfl ?_
                refine hg_goto hC dX6_opOf_70 (tg := 85) rfl ?_
                exact hg_sub [] rfl (tbM_X6_opOf_85 hC hR  (8 : Int32) σ hw)
            · have hw := hw.2 h9
              refine hg_bipush hC dX6_opOf_57 hl_b7 (n := 59) rfl ?_
              refine hg_goto hC dX6_opOf_59 (tg := 85) rfl ?_
              exact hg_sub [] rfl (tbM_X6_opOf_85 hC hR  (7 : Int32) σ hw)
          · have hw := hw.2 h9
            refine hg_bipush hC dX6_opOf_46 hl_b6 (n := 48) rfl ?_
            refine hg_goto hC dX6_opOf_48 (tg := 85) rfl ?_
            exact hg_sub [] rfl (tbM_X6_opOf_85 hC hR  (6 : Int32) σ hw)
        · have hw := hw.2 h9
          refine hg_iconst hC dX6_opOf_36 hl_i5 (n := 37) rfl ?_
          refine hg_goto hC dX6_opOf_37 (tg := 85) rfl ?_
          exact hg_sub [] rfl (tbM_X6_opOf_85 hC hR  (5 : Int32) σ hw)
      · have hw := hw.2 h9
        refine hg_iconst hC dX6_opOf_26 hl_i4 (n := 27) rfl ?_
        refine hg_goto hC dX6_opOf_27 (tg := 85) rfl ?_
        exact hg_sub [] rfl (tbM_X6_opOf_85 hC hR  (4 : Int32) σ hw)
    · have hw := hw.2 h9
      refine hg_iconst hC dX6_opOf_16 hl_i3 (n := 17) rfl ?_
      refine hg_goto hC dX6_opOf_17 (tg := 85) rfl ?_
      exact hg_sub [] rfl (tbM_X6_opOf_85 hC hR  (3 : Int32) σ hw)
  · have hw := hw.2 h9
    refine hg_iconst hC dX6_opOf_6 hl_i2 (n := 7) rfl ?_
    refine hg_goto hC dX6_opOf_7 (tg := 85) rfl ?_
    exact hg_sub [] rfl (tbM_X6_opOf_85 hC hR  (2 : Int32) σ hw)
def bM_X6_relOf_34 (P : Int32 → hg_M → Prop)  (t0 : Int32) (σ : hg_M) : Prop := P t0 σ
def wM_X6_relOf (x0 : Int32) (σ : hg_M) (P : Int32 → hg_M → Prop) : Prop := ((x0 ≠ (61 : Int32) → ((x0 ≠ (35 : Int32) → ((x0 ≠ (60 : Int32) → bM_X6_relOf_34 P (-1 : Int32) σ) ∧ (x0 = (60 : Int32) → bM_X6_relOf_34 P (12 : Int32) σ))) ∧ (x0 = (35 : Int32) → bM_X6_relOf_34 P (11 : Int32) σ))) ∧ (x0 = (61 : Int32) → bM_X6_relOf_34 P (10 : Int32) σ))
set_option maxRecDepth 4000 in
theorem tbM_X6_relOf_34 {d : Nat} {E : hg_Et} {X : hg_X} {P : Int32 → hg_M → Prop}  (hC : hg_C hg_FM 1 (d + 1) E cX6_relOf RX6 X) (hR : hg_Rni hg_FM (some .int) hg_rM P X)  (t0 : Int32) (σ : hg_M) (hw : bM_X6_relOf_34 P t0 σ) : hg_G hg_FM 1 X 34 [] [.int t0] σ hg_rM := by
  unfold bM_X6_relOf_34 at hw
  exact hg_reti hC hR dX6_relOf_34 hw
set_option maxRecDepth 4000 in
theorem tM_X6_relOf {E : hg_Et} (hE : hg_Eok E) (l : Launch) (d : Nat) (x0 : Int32) (σ : hg_M) (P : Int32 → hg_M → Prop) (hw : wM_X6_relOf x0 σ P) : hg_Ni hg_FM E l yX6_relOf cX6_relOf 1 (some .int) (d + 1) (fun ad => [.int x0]) hg_rM σ P := by
  refine hg_ni hE (by decide) (fun _ => Nat.le_of_ble_eq_true rfl) (fun X hC hR hl => ?_)
  subst hl
  have hC : hg_C hg_FM 1 (d + 1) E cX6_relOf RX6 X := hC
  show hg_G hg_FM 1 X 0 [(0, .int x0)] [] σ hg_rM
  unfold wM_X6_relOf at hw
  refine hg_iload_n hC dX6_relOf_0 rfl 0 rfl (n := 1) rfl ?_
  refine hg_bipush hC dX6_relOf_1 hl_b61 (n := 3) rfl ?_
  refine hg_icmp_ne hC dX6_relOf_3 (tg := 11) rfl (n := 6) rfl (fun h9 => ?_) (fun h9 => ?_)
  · have hw := hw.1 h9
    refine hg_iload_n hC dX6_relOf_11 rfl 0 rfl (n := 12) rfl ?_
    refine hg_bipush hC dX6_relOf_12 hl_b35 (n := 14) rfl ?_
    refine hg_icmp_ne hC dX6_relOf_14 (tg := 22) rfl (n := 17) rfl (fun h9 => ?_) (fun h9 => ?_)
    · have hw := hw.1 h9
      refine hg_iload_n hC dX6_relOf_22 rfl 0 rfl (n := 23) rfl ?_
      refine hg_bipush hC dX6_relOf_23 hl_b60 (n := 25) rfl ?_
      refine hg_icmp_ne hC dX6_relOf_25 (tg := 33) rfl (n := 28) rfl (fun h9 => ?_) (fun h9 => ?_)
      · have hw := hw.1 h9
        refine hg_iconst hC dX6_relOf_33 hl_im1 (n := 34) rfl ?_
        exact hg_sub [] rfl (tbM_X6_relOf_34 hC hR  (-1 : Int32) σ hw)
      · have hw := hw.2 h9
        refine hg_bipush hC dX6_relOf_28 hl_b12 (n := 30) rfl ?_
        refine hg_goto hC dX6_relOf_30 (tg := 34) rfl ?_
        exact hg_sub [] rfl (tbM_X6_relOf_34 hC hR  (12 : Int32) σ hw)
    · have hw := hw.2 h9
      refine hg_bipush hC dX6_relOf_17 hl_b11 (n := 19) rfl ?_
      refine hg_goto hC dX6_relOf_19 (tg := 34) rfl ?_
      exact hg_sub [] rfl (tbM_X6_relOf_34 hC hR  (11 : Int32) σ hw)
  · have hw := hw.2 h9
    refine hg_bipush hC dX6_relOf_6 hl_b10 (n := 8) rfl ?_
    refine hg_goto hC dX6_relOf_8 (tg := 34) rfl ?_
    exact hg_sub [] rfl (tbM_X6_relOf_34 hC hR  (10 : Int32) σ hw)
def bM_X6_readSet_172 (P : hg_M → Prop)   (σ : hg_M) : Prop := wM_X6_take (59 : Int32) σ (fun σ20 => P σ20)
def bM_X6_readSet_126 (P : hg_M → Prop)  (x1 : Int32) (t0 : Int32) (σ : hg_M) : Prop := ((t0 = (-1 : Int32) → bM_X6_readSet_172 P σ) ∧ (¬ (t0 = (-1 : Int32)) → ∀ σ16 : hg_M, σ16 = hg_set σ 0 5 ((σ 0 5) + (1 : Int32)) → vp_in (((9 : Int32) * x1) + (0 : Int32)) 540 ∧ (∀ σ17 : hg_M, σ17 = hg_set σ16 4 ((((9 : Int32) * x1) + (0 : Int32))).toNatClampNeg (1 : Int32) → vp_in (((9 : Int32) * x1) + (2 : Int32)) 540 ∧ (∀ σ18 : hg_M, σ18 = hg_set σ17 4 ((((9 : Int32) * x1) + (2 : Int32))).toNatClampNeg t0 → wM_X6_readValue x1 (5 : Int32) σ18 (fun σ19 => bM_X6_readSet_172 P σ19)))))
def bM_X6_readSet_90 (P : hg_M → Prop)  (x1 : Int32) (σ : hg_M) : Prop := vp_in (((9 : Int32) * x1) + (0 : Int32)) 540 ∧ (∀ σ10 : hg_M, σ10 = hg_set σ 4 ((((9 : Int32) * x1) + (0 : Int32))).toNatClampNeg (0 : Int32) → wM_X6_readValue x1 (3 : Int32) σ10 (fun σ11 => (((σ11 0 6) ≤ 0 → wM_X6_next σ11 (fun r13 σ12 => wM_X6_opOf r13 σ12 (fun r15 σ14 => bM_X6_readSet_126 P x1 r15 σ14))) ∧ (¬ (σ11 0 6) ≤ 0 → bM_X6_readSet_126 P x1 (-1 : Int32) σ11))))
def wM_X6_readSet (x1 : Int32) (σ : hg_M) (P : hg_M → Prop) : Prop := vp_in (σ 0 5) 600 ∧ (vp_in (((9 : Int32) * x1) + (1 : Int32)) 540 ∧ (∀ σ1 : hg_M, σ1 = hg_set σ 4 ((((9 : Int32) * x1) + (1 : Int32))).toNatClampNeg ((σ 3 ((σ 0 5)).toNatClampNeg) - (97 : Int32)) → ∀ σ2 : hg_M, σ2 = hg_set σ1 0 5 ((σ1 0 5) + (1 : Int32)) → wM_X6_take (61 : Int32) σ2 (fun σ3 => (((σ3 0 6) ≠ 0 → bM_X6_readSet_90 P x1 σ3) ∧ ((σ3 0 6) = 0 → wM_X6_next σ3 (fun r5 σ4 => ((r5 ≠ (64 : Int32) → bM_X6_readSet_90 P x1 σ4) ∧ (r5 = (64 : Int32) → ∀ σ6 : hg_M, σ6 = hg_set σ4 0 5 ((σ4 0 5) + (1 : Int32)) → vp_in (((9 : Int32) * x1) + (0 : Int32)) 540 ∧ (∀ σ7 : hg_M, σ7 = hg_set σ6 4 ((((9 : Int32) * x1) + (0 : Int32))).toNatClampNeg (2 : Int32) → wM_X6_readValue x1 (3 : Int32) σ7 (fun σ8 => wM_X6_take (59 : Int32) σ8 (fun σ9 => P σ9)))))))))))
set_option maxRecDepth 4000 in
theorem tbM_X6_readSet_172 {d : Nat} {E : hg_Et} {X : hg_X} {P : hg_M → Prop}  (hC : hg_C hg_FM 3 (d + 4) E cX6_readSet RX6 X) (hR : hg_Rnv hg_FM hg_rM P X)   (σ : hg_M) (hw : bM_X6_readSet_172 P  σ) : hg_G hg_FM 3 X 172 [(0, .ref (hg_ad X 0))] [] σ hg_rM := by
  unfold bM_X6_readSet_172 at hw
  refine hg_aload_n hC dX6_readSet_172 rfl 0 rfl (n := 173) rfl ?_
  refine hg_bipush hC dX6_readSet_173 hl_b59 (n := 175) rfl ?_
  refine hg_cVv hC (tM_X6_take (hg_Eof hC) X.2.1 (d + 1) _ _ _ hw) sv_RX6_160 dX6_readSet_175 qM_0 kM_0 c_6 rfl (rest := []) rfl (Nat.le_of_ble_eq_true rfl) (n := 178) rfl (fun σ20 hw => ?_)
  exact hg_retv hC hR dX6_readSet_178 hw
set_option maxRecDepth 4000 in
theorem tbM_X6_readSet_126 {d : Nat} {E : hg_Et} {X : hg_X} {P : hg_M → Prop}  (hC : hg_C hg_FM 3 (d + 4) E cX6_readSet RX6 X) (hR : hg_Rnv hg_FM hg_rM P X)  (x1 : Int32) (t0 : Int32) (σ : hg_M) (hw : bM_X6_readSet_126 P x1 t0 σ) : hg_G hg_FM 3 X 126 [(0, .ref (hg_ad X 0)), (1, .int x1)] [.int t0] σ hg_rM := by
  unfold bM_X6_readSet_126 at hw
  refine hg_istore_n hC (L1 := [(2, .int t0), (0, .ref (hg_ad X 0)), (1, .int x1)]) dX6_readSet_126 rfl (by decide) rfl (n := 127) rfl ?_
  refine hg_iload_n hC dX6_readSet_127 rfl 0 rfl (n := 128) rfl ?_
  refine hg_iconst hC dX6_readSet_128 hl_im1 (n := 129) rfl ?_
  refine hg_icmp_eq hC dX6_readSet_129 (tg := 172) rfl (n := 132) rfl (fun h9 => ?_) (fun h9 => ?_)
  · have hw := hw.1 h9
    exact hg_sub [1] rfl (tbM_X6_readSet_172 hC hR  σ hw)
  · have hw := hw.2 h9
    refine hg_aload_n hC dX6_readSet_132 rfl 1 rfl (n := 133) rfl ?_
    refine hg_dup hC dX6_readSet_133 rfl (n := 134) rfl ?_
    refine hg_geti hC fl_RX6_130 dX6_readSet_134 qM_0 kM_0 fM_6_5 (n := 137) rfl ?_
    refine hg_iconst hC dX6_readSet_137 hl_i1 (n := 138) rfl ?_
    refine hg_iadd hC dX6_readSet_138 (n := 139) rfl ?_
    refine hg_puti hC fp_RX6_130 dX6_readSet_139 qM_0 kM_0 fM_6_5 rfl rfl (n := 142) rfl (fun σ16 eσ16 => ?_)
    have hw := hw σ16 eσ16
    refine hg_aload_n hC dX6_readSet_142 rfl 1 rfl (n := 143) rfl ?_
    refine hg_getr hC fl_RX6_19 dX6_readSet_143 qM_0 kM_0 fM_6_10 rM_0_10 (n := 146) rfl ?_
    refine hg_bipush hC dX6_readSet_146 hl_b9 (n := 148) rfl ?_
    refine hg_iload_n hC dX6_readSet_148 rfl 2 rfl (n := 149) rfl ?_
    refine hg_imul hC dX6_readSet_149 (n := 150) rfl ?_
    refine hg_iconst hC dX6_readSet_150 hl_i0 (n := 151) rfl ?_
    refine hg_iadd hC dX6_readSet_151 (n := 152) rfl ?_
    refine hg_iconst hC dX6_readSet_152 hl_i1 (n := 153) rfl ?_
    obtain ⟨h9, hw⟩ := hw
    refine hg_iast hC dX6_readSet_153 qM_4 kM_4 h9 (n := 154) rfl (fun σ17 eσ17 => ?_)
    have hw := hw σ17 eσ17
    refine hg_aload_n hC dX6_readSet_154 rfl 1 rfl (n := 155) rfl ?_
    refine hg_getr hC fl_RX6_19 dX6_readSet_155 qM_0 kM_0 fM_6_10 rM_0_10 (n := 158) rfl ?_
    refine hg_bipush hC dX6_readSet_158 hl_b9 (n := 160) rfl ?_
    refine hg_iload_n hC dX6_readSet_160 rfl 2 rfl (n := 161) rfl ?_
    refine hg_imul hC dX6_readSet_161 (n := 162) rfl ?_
    refine hg_iconst hC dX6_readSet_162 hl_i2 (n := 163) rfl ?_
    refine hg_iadd hC dX6_readSet_163 (n := 164) rfl ?_
    refine hg_iload_n hC dX6_readSet_164 rfl 0 rfl (n := 165) rfl ?_
    obtain ⟨h9, hw⟩ := hw
    refine hg_iast hC dX6_readSet_165 qM_4 kM_4 h9 (n := 166) rfl (fun σ18 eσ18 => ?_)
    have hw := hw σ18 eσ18
    refine hg_aload_n hC dX6_readSet_166 rfl 1 rfl (n := 167) rfl ?_
    refine hg_iload_n hC dX6_readSet_167 rfl 2 rfl (n := 168) rfl ?_
    refine hg_iconst hC dX6_readSet_168 hl_i5 (n := 169) rfl ?_
    refine hg_cVv hC (tM_X6_readValue (hg_Eof hC) X.2.1 (d + 0) _ _ _ _ hw) sv_RX6_164 dX6_readSet_169 qM_0 kM_0 c_6 rfl (rest := []) rfl (Nat.le_of_ble_eq_true rfl) (n := 172) rfl (fun σ19 hw => ?_)
    exact hg_sub [1] rfl (tbM_X6_readSet_172 hC hR  σ19 hw)
set_option maxRecDepth 4000 in
theorem tbM_X6_readSet_90 {d : Nat} {E : hg_Et} {X : hg_X} {P : hg_M → Prop}  (hC : hg_C hg_FM 3 (d + 4) E cX6_readSet RX6 X) (hR : hg_Rnv hg_FM hg_rM P X)  (x1 : Int32) (σ : hg_M) (hw : bM_X6_readSet_90 P x1 σ) : hg_G hg_FM 3 X 90 [(0, .ref (hg_ad X 0)), (1, .int x1)] [] σ hg_rM := by
  unfold bM_X6_readSet_90 at hw
  refine hg_aload_n hC dX6_readSet_90 rfl 0 rfl (n := 91) rfl ?_
  refine hg_getr hC fl_RX6_19 dX6_readSet_91 qM_0 kM_0 fM_6_10 rM_0_10 (n := 94) rfl ?_
  refine hg_bipush hC dX6_readSet_94 hl_b9 (n := 96) rfl ?_
  refine hg_iload_n hC dX6_readSet_96 rfl 1 rfl (n := 97) rfl ?_
  refine hg_imul hC dX6_readSet_97 (n := 98) rfl ?_
  refine hg_iconst hC dX6_readSet_98 hl_i0 (n := 99) rfl ?_
  refine hg_iadd hC dX6_readSet_99 (n := 100) rfl ?_
  refine hg_iconst hC dX6_readSet_100 hl_i0 (n := 101) rfl ?_
  obtain ⟨h9, hw⟩ := hw
  refine hg_iast hC dX6_readSet_101 qM_4 kM_4 h9 (n := 102) rfl (fun σ10 eσ10 => ?_)
  have hw := hw σ10 eσ10
  refine hg_aload_n hC dX6_readSet_102 rfl 0 rfl (n := 103) rfl ?_
  refine hg_iload_n hC dX6_readSet_103 rfl 1 rfl (n := 104) rfl ?_
  refine hg_iconst hC dX6_readSet_104 hl_i3 (n := 105) rfl ?_
  refine hg_cVv hC (tM_X6_readValue (hg_Eof hC) X.2.1 (d + 0) _ _ _ _ hw) sv_RX6_164 dX6_readSet_105 qM_0 kM_0 c_6 rfl (rest := []) rfl (Nat.le_of_ble_eq_true rfl) (n := 108) rfl (fun σ11 hw => ?_)
  refine hg_aload_n hC dX6_readSet_108 rfl 0 rfl (n := 109) rfl ?_
  refine hg_geti hC fl_RX6_124 dX6_readSet_109 qM_0 kM_0 fM_6_6 (n := 112) rfl ?_
  refine hg_if_le hC dX6_readSet_112 (tg := 119) rfl (n := 115) rfl (fun h9 => ?_) (fun h9 => ?_)
  · have hw := hw.1 h9
    refine hg_aload_n hC dX6_readSet_119 rfl 0 rfl (n := 120) rfl ?_
    refine hg_cVi hC (tM_X6_next (hg_Eof hC) X.2.1 (d + 2) _ _ hw) sv_RX6_133 dX6_readSet_120 qM_0 kM_0 c_6 rfl (rest := []) rfl (Nat.le_of_ble_eq_true rfl) (n := 123) rfl (fun r13 σ12 hw => ?_)
    refine hg_cSi hC (tM_X6_opOf (hg_Eof hC) X.2.1 (d + 2) _ _ _ hw) ss_RX6_167 dX6_readSet_123 rfl (rest := []) rfl (Nat.le_of_ble_eq_true rfl) (n := 126) rfl (fun r15 σ14 hw => ?_)
    exact tbM_X6_readSet_126 hC hR  x1 r15 σ14 hw
  · have hw := hw.2 h9
    refine hg_iconst hC dX6_readSet_115 hl_im1 (n := 116) rfl ?_
    refine hg_goto hC dX6_readSet_116 (tg := 126) rfl ?_
    exact tbM_X6_readSet_126 hC hR  x1 (-1 : Int32) σ11 hw
set_option maxRecDepth 4000 in
theorem tM_X6_readSet {E : hg_Et} (hE : hg_Eok E) (l : Launch) (d : Nat) (x1 : Int32) (σ : hg_M) (P : hg_M → Prop) (hw : wM_X6_readSet x1 σ P) : hg_Nv hg_FM E l yX6_readSet cX6_readSet 3 (d + 4) (fun ad => [.ref (ad 0), .int x1]) hg_rM σ P := by
  refine hg_nv hE (by decide) (fun _ => Nat.le_of_ble_eq_true rfl) (fun X hC hR hl => ?_)
  subst hl
  have hC : hg_C hg_FM 3 (d + 4) E cX6_readSet RX6 X := hC
  show hg_G hg_FM 3 X 0 [(0, .ref (hg_ad X 0)), (1, .int x1)] [] σ hg_rM
  unfold wM_X6_readSet at hw
  refine hg_aload_n hC dX6_readSet_0 rfl 0 rfl (n := 1) rfl ?_
  refine hg_getr hC fl_RX6_19 dX6_readSet_1 qM_0 kM_0 fM_6_10 rM_0_10 (n := 4) rfl ?_
  refine hg_bipush hC dX6_readSet_4 hl_b9 (n := 6) rfl ?_
  refine hg_iload_n hC dX6_readSet_6 rfl 1 rfl (n := 7) rfl ?_
  refine hg_imul hC dX6_readSet_7 (n := 8) rfl ?_
  refine hg_iconst hC dX6_readSet_8 hl_i1 (n := 9) rfl ?_
  refine hg_iadd hC dX6_readSet_9 (n := 10) rfl ?_
  refine hg_aload_n hC dX6_readSet_10 rfl 0 rfl (n := 11) rfl ?_
  refine hg_getr hC fl_RX6_16 dX6_readSet_11 qM_0 kM_0 fM_6_3 rM_0_3 (n := 14) rfl ?_
  refine hg_aload_n hC dX6_readSet_14 rfl 0 rfl (n := 15) rfl ?_
  refine hg_geti hC fl_RX6_130 dX6_readSet_15 qM_0 kM_0 fM_6_5 (n := 18) rfl ?_
  obtain ⟨h9, hw⟩ := hw
  refine hg_iald hC dX6_readSet_18 qM_3 kM_3 h9 (n := 19) rfl ?_
  refine hg_bipush hC dX6_readSet_19 hl_b97 (n := 21) rfl ?_
  refine hg_isub hC dX6_readSet_21 (n := 22) rfl ?_
  obtain ⟨h9, hw⟩ := hw
  refine hg_iast hC dX6_readSet_22 qM_4 kM_4 h9 (n := 23) rfl (fun σ1 eσ1 => ?_)
  have hw := hw σ1 eσ1
  refine hg_aload_n hC dX6_readSet_23 rfl 0 rfl (n := 24) rfl ?_
  refine hg_dup hC dX6_readSet_24 rfl (n := 25) rfl ?_
  refine hg_geti hC fl_RX6_130 dX6_readSet_25 qM_0 kM_0 fM_6_5 (n := 28) rfl ?_
  refine hg_iconst hC dX6_readSet_28 hl_i1 (n := 29) rfl ?_
  refine hg_iadd hC dX6_readSet_29 (n := 30) rfl ?_
  refine hg_puti hC fp_RX6_130 dX6_readSet_30 qM_0 kM_0 fM_6_5 rfl rfl (n := 33) rfl (fun σ2 eσ2 => ?_)
  have hw := hw σ2 eσ2
  refine hg_aload_n hC dX6_readSet_33 rfl 0 rfl (n := 34) rfl ?_
  refine hg_bipush hC dX6_readSet_34 hl_b61 (n := 36) rfl ?_
  refine hg_cVv hC (tM_X6_take (hg_Eof hC) X.2.1 (d + 1) _ _ _ hw) sv_RX6_160 dX6_readSet_36 qM_0 kM_0 c_6 rfl (rest := []) rfl (Nat.le_of_ble_eq_true rfl) (n := 39) rfl (fun σ3 hw => ?_)
  refine hg_aload_n hC dX6_readSet_39 rfl 0 rfl (n := 40) rfl ?_
  refine hg_geti hC fl_RX6_124 dX6_readSet_40 qM_0 kM_0 fM_6_6 (n := 43) rfl ?_
  refine hg_if_ne hC dX6_readSet_43 (tg := 90) rfl (n := 46) rfl (fun h9 => ?_) (fun h9 => ?_)
  · have hw := hw.1 h9
    exact tbM_X6_readSet_90 hC hR  x1 σ3 hw
  · have hw := hw.2 h9
    refine hg_aload_n hC dX6_readSet_46 rfl 0 rfl (n := 47) rfl ?_
    refine hg_cVi hC (tM_X6_next (hg_Eof hC) X.2.1 (d + 2) _ _ hw) sv_RX6_133 dX6_readSet_47 qM_0 kM_0 c_6 rfl (rest := []) rfl (Nat.le_of_ble_eq_true rfl) (n := 50) rfl (fun r5 σ4 hw => ?_)
    refine hg_bipush hC dX6_readSet_50 hl_b64 (n := 52) rfl ?_
    refine hg_icmp_ne hC dX6_readSet_52 (tg := 90) rfl (n := 55) rfl (fun h9 => ?_) (fun h9 => ?_)
    · have hw := hw.1 h9
      exact tbM_X6_readSet_90 hC hR  x1 σ4 hw
    · have hw := hw.2 h9
      refine hg_aload_n hC dX6_readSet_55 rfl 0 rfl (n := 56) rfl ?_
      refine hg_dup hC dX6_readSet_56 rfl (n := 57) rfl ?_
      refine hg_geti hC fl_RX6_130 dX6_readSet_57 qM_0 kM_0 fM_6_5 (n := 60) rfl ?_
      refine hg_iconst hC dX6_readSet_60 hl_i1 (n := 61) rfl ?_
      refine hg_iadd hC dX6_readSet_61 (n := 62) rfl ?_
      refine hg_puti hC fp_RX6_130 dX6_readSet_62 qM_0 kM_0 fM_6_5 rfl rfl (n := 65) rfl (fun σ6 eσ6 => ?_)
      have hw := hw σ6 eσ6
      refine hg_aload_n hC dX6_readSet_65 rfl 0 rfl (n := 66) rfl ?_
      refine hg_getr hC fl_RX6_19 dX6_readSet_66 qM_0 kM_0 fM_6_10 rM_0_10 (n := 69) rfl ?_
      refine hg_bipush hC dX6_readSet_69 hl_b9 (n := 71) rfl ?_
      refine hg_iload_n hC dX6_readSet_71 rfl 1 rfl (n := 72) rfl ?_
      refine hg_imul hC dX6_readSet_72 (n := 73) rfl ?_
      refine hg_iconst hC dX6_readSet_73 hl_i0 (n := 74) rfl ?_
      refine hg_iadd hC dX6_readSet_74 (n := 75) rfl ?_
      refine hg_iconst hC dX6_readSet_75 hl_i2 (n := 76) rfl ?_
      obtain ⟨h9, hw⟩ := hw
      refine hg_iast hC dX6_readSet_76 qM_4 kM_4 h9 (n := 77) rfl (fun σ7 eσ7 => ?_)
      have hw := hw σ7 eσ7
      refine hg_aload_n hC dX6_readSet_77 rfl 0 rfl (n := 78) rfl ?_
      refine hg_iload_n hC dX6_readSet_78 rfl 1 rfl (n := 79) rfl ?_
      refine hg_iconst hC dX6_readSet_79 hl_i3 (n := 80) rfl ?_
      refine hg_cVv hC (tM_X6_readValue (hg_Eof hC) X.2.1 (d + 0) _ _ _ _ hw) sv_RX6_164 dX6_readSet_80 qM_0 kM_0 c_6 rfl (rest := []) rfl (Nat.le_of_ble_eq_true rfl) (n := 83) rfl (fun σ8 hw => ?_)
      refine hg_aload_n hC dX6_readSet_83 rfl 0 rfl (n := 84) rfl ?_
      refine hg_bipush hC dX6_readSet_84 hl_b59 (n := 86) rfl ?_
      refine hg_cVv hC (tM_X6_take (hg_Eof hC) X.2.1 (d + 1) _ _ _ hw) sv_RX6_160 dX6_readSet_86 qM_0 kM_0 c_6 rfl (rest := []) rfl (Nat.le_of_ble_eq_true rfl) (n := 89) rfl (fun σ9 hw => ?_)
      exact hg_retv hC hR dX6_readSet_89 hw
def wM_X6_readTest (x1 : Int32) (σ : hg_M) (P : hg_M → Prop) : Prop := ∀ σ1 : hg_M, σ1 = hg_set σ 0 5 ((σ 0 5) + (1 : Int32)) → vp_in (((9 : Int32) * x1) + (0 : Int32)) 540 ∧ (∀ σ2 : hg_M, σ2 = hg_set σ1 4 ((((9 : Int32) * x1) + (0 : Int32))).toNatClampNeg (5 : Int32) → wM_X6_readValue x1 (3 : Int32) σ2 (fun σ3 => (((σ3 0 6) ≤ 0 → wM_X6_next σ3 (fun r5 σ4 => wM_X6_relOf r5 σ4 (fun r7 σ6 => ((r7 ≠ (-1 : Int32) → ∀ σ8 : hg_M, σ8 = hg_set σ6 0 5 ((σ6 0 5) + (1 : Int32)) → vp_in (((9 : Int32) * x1) + (2 : Int32)) 540 ∧ (∀ σ9 : hg_M, σ9 = hg_set σ8 4 ((((9 : Int32) * x1) + (2 : Int32))).toNatClampNeg r7 → wM_X6_readValue x1 (5 : Int32) σ9 (fun σ10 => wM_X6_take (123 : Int32) σ10 (fun σ11 => P σ11)))) ∧ (r7 = (-1 : Int32) → wM_X6_fail (1 : Int32) (σ6 0 5) σ6 (fun σ12 => P σ12)))))) ∧ (¬ (σ3 0 6) ≤ 0 → P σ3))))
set_option maxRecDepth 4000 in
theorem tM_X6_readTest {E : hg_Et} (hE : hg_Eok E) (l : Launch) (d : Nat) (x1 : Int32) (σ : hg_M) (P : hg_M → Prop) (hw : wM_X6_readTest x1 σ P) : hg_Nv hg_FM E l yX6_readTest cX6_readTest 3 (d + 4) (fun ad => [.ref (ad 0), .int x1]) hg_rM σ P := by
  refine hg_nv hE (by decide) (fun _ => Nat.le_of_ble_eq_true rfl) (fun X hC hR hl => ?_)
  subst hl
  have hC : hg_C hg_FM 3 (d + 4) E cX6_readTest RX6 X := hC
  show hg_G hg_FM 3 X 0 [(0, .ref (hg_ad X 0)), (1, .int x1)] [] σ hg_rM
  unfold wM_X6_readTest at hw
  refine hg_aload_n hC dX6_readTest_0 rfl 0 rfl (n := 1) rfl ?_
  refine hg_dup hC dX6_readTest_1 rfl (n := 2) rfl ?_
  refine hg_geti hC fl_RX6_130 dX6_readTest_2 qM_0 kM_0 fM_6_5 (n := 5) rfl ?_
  refine hg_iconst hC dX6_readTest_5 hl_i1 (n := 6) rfl ?_
  refine hg_iadd hC dX6_readTest_6 (n := 7) rfl ?_
  refine hg_puti hC fp_RX6_130 dX6_readTest_7 qM_0 kM_0 fM_6_5 rfl rfl (n := 10) rfl (fun σ1 eσ1 => ?_)
  have hw := hw σ1 eσ1
  refine hg_aload_n hC dX6_readTest_10 rfl 0 rfl (n := 11) rfl ?_
  refine hg_getr hC fl_RX6_19 dX6_readTest_11 qM_0 kM_0 fM_6_10 rM_0_10 (n := 14) rfl ?_
  refine hg_bipush hC dX6_readTest_14 hl_b9 (n := 16) rfl ?_
  refine hg_iload_n hC dX6_readTest_16 rfl 1 rfl (n := 17) rfl ?_
  refine hg_imul hC dX6_readTest_17 (n := 18) rfl ?_
  refine hg_iconst hC dX6_readTest_18 hl_i0 (n := 19) rfl ?_
  refine hg_iadd hC dX6_readTest_19 (n := 20) rfl ?_
  refine hg_iconst hC dX6_readTest_20 hl_i5 (n := 21) rfl ?_
  obtain ⟨h9, hw⟩ := hw
  refine hg_iast hC dX6_readTest_21 qM_4 kM_4 h9 (n := 22) rfl (fun σ2 eσ2 => ?_)
  have hw := hw σ2 eσ2
  refine hg_aload_n hC dX6_readTest_22 rfl 0 rfl (n := 23) rfl ?_
  refine hg_iload_n hC dX6_readTest_23 rfl 1 rfl (n := 24) rfl ?_
  refine hg_iconst hC dX6_readTest_24 hl_i3 (n := 25) rfl ?_
  refine hg_cVv hC (tM_X6_readValue (hg_Eof hC) X.2.1 (d + 0) _ _ _ _ hw) sv_RX6_164 dX6_readTest_25 qM_0 kM_0 c_6 rfl (rest := []) rfl (Nat.le_of_ble_eq_true rfl) (n := 28) rfl (fun σ3 hw => ?_)
  refine hg_aload_n hC dX6_readTest_28 rfl 0 rfl (n := 29) rfl ?_
  refine hg_geti hC fl_RX6_124 dX6_readTest_29 qM_0 kM_0 fM_6_6 (n := 32) rfl ?_
  refine hg_if_le hC dX6_readTest_32 (tg := 36) rfl (n := 35) rfl (fun h9 => ?_) (fun h9 => ?_)
  · have hw := hw.1 h9
    refine hg_aload_n hC dX6_readTest_36 rfl 0 rfl (n := 37) rfl ?_
    refine hg_cVi hC (tM_X6_next (hg_Eof hC) X.2.1 (d + 2) _ _ hw) sv_RX6_133 dX6_readTest_37 qM_0 kM_0 c_6 rfl (rest := []) rfl (Nat.le_of_ble_eq_true rfl) (n := 40) rfl (fun r5 σ4 hw => ?_)
    refine hg_cSi hC (tM_X6_relOf (hg_Eof hC) X.2.1 (d + 2) _ _ _ hw) ss_RX6_171 dX6_readTest_40 rfl (rest := []) rfl (Nat.le_of_ble_eq_true rfl) (n := 43) rfl (fun r7 σ6 hw => ?_)
    refine hg_istore_n hC (L1 := [(2, .int r7), (0, .ref (hg_ad X 0)), (1, .int x1)]) dX6_readTest_43 rfl (by decide) rfl (n := 44) rfl ?_
    refine hg_iload_n hC dX6_readTest_44 rfl 0 rfl (n := 45) rfl ?_
    refine hg_iconst hC dX6_readTest_45 hl_im1 (n := 46) rfl ?_
    refine hg_icmp_ne hC dX6_readTest_46 (tg := 59) rfl (n := 49) rfl (fun h9 => ?_) (fun h9 => ?_)
    · have hw := hw.1 h9
      refine hg_aload_n hC dX6_readTest_59 rfl 1 rfl (n := 60) rfl ?_
      refine hg_dup hC dX6_readTest_60 rfl (n := 61) rfl ?_
      refine hg_geti hC fl_RX6_130 dX6_readTest_61 qM_0 kM_0 fM_6_5 (n := 64) rfl ?_
      refine hg_iconst hC dX6_readTest_64 hl_i1 (n := 65) rfl ?_
      refine hg_iadd hC dX6_readTest_65 (n := 66) rfl ?_
      refine hg_puti hC fp_RX6_130 dX6_readTest_66 qM_0 kM_0 fM_6_5 rfl rfl (n := 69) rfl (fun σ8 eσ8 => ?_)
      have hw := hw σ8 eσ8
      refine hg_aload_n hC dX6_readTest_69 rfl 1 rfl (n := 70) rfl ?_
      refine hg_getr hC fl_RX6_19 dX6_readTest_70 qM_0 kM_0 fM_6_10 rM_0_10 (n := 73) rfl ?_
      refine hg_bipush hC dX6_readTest_73 hl_b9 (n := 75) rfl ?_
      refine hg_iload_n hC dX6_readTest_75 rfl 2 rfl (n := 76) rfl ?_
      refine hg_imul hC dX6_readTest_76 (n := 77) rfl ?_
      refine hg_iconst hC dX6_readTest_77 hl_i2 (n := 78) rfl ?_
      refine hg_iadd hC dX6_readTest_78 (n := 79) rfl ?_
      refine hg_iload_n hC dX6_readTest_79 rfl 0 rfl (n := 80) rfl ?_
      obtain ⟨h9, hw⟩ := hw
      refine hg_iast hC dX6_readTest_80 qM_4 kM_4 h9 (n := 81) rfl (fun σ9 eσ9 => ?_)
      have hw := hw σ9 eσ9
      refine hg_aload_n hC dX6_readTest_81 rfl 1 rfl (n := 82) rfl ?_
      refine hg_iload_n hC dX6_readTest_82 rfl 2 rfl (n := 83) rfl ?_
      refine hg_iconst hC dX6_readTest_83 hl_i5 (n := 84) rfl ?_
      refine hg_cVv hC (tM_X6_readValue (hg_Eof hC) X.2.1 (d + 0) _ _ _ _ hw) sv_RX6_164 dX6_readTest_84 qM_0 kM_0 c_6 rfl (rest := []) rfl (Nat.le_of_ble_eq_true rfl) (n := 87) rfl (fun σ10 hw => ?_)
      refine hg_aload_n hC dX6_readTest_87 rfl 1 rfl (n := 88) rfl ?_
      refine hg_bipush hC dX6_readTest_88 hl_b123 (n := 90) rfl ?_
      refine hg_cVv hC (tM_X6_take (hg_Eof hC) X.2.1 (d + 1) _ _ _ hw) sv_RX6_160 dX6_readTest_90 qM_0 kM_0 c_6 rfl (rest := []) rfl (Nat.le_of_ble_eq_true rfl) (n := 93) rfl (fun σ11 hw => ?_)
      exact hg_retv hC hR dX6_readTest_93 hw
    · have hw := hw.2 h9
      refine hg_aload_n hC dX6_readTest_49 rfl 1 rfl (n := 50) rfl ?_
      refine hg_iconst hC dX6_readTest_50 hl_i1 (n := 51) rfl ?_
      refine hg_aload_n hC dX6_readTest_51 rfl 1 rfl (n := 52) rfl ?_
      refine hg_geti hC fl_RX6_130 dX6_readTest_52 qM_0 kM_0 fM_6_5 (n := 55) rfl ?_
      refine hg_cVv hC (tM_X6_fail (hg_Eof hC) X.2.1 (d + 2) _ _ _ _ hw) sv_RX6_137 dX6_readTest_55 qM_0 kM_0 c_6 rfl (rest := []) rfl (Nat.le_of_ble_eq_true rfl) (n := 58) rfl (fun σ12 hw => ?_)
      exact hg_retv hC hR dX6_readTest_58 hw
  · have hw := hw.2 h9
    exact hg_retv hC hR dX6_readTest_35 hw
def bM_X6_readStatement_326 (P : hg_M → Prop)   (σ : hg_M) : Prop := P σ
def lM_X6_readStatement_118 (P : hg_M → Prop)  : Nat → Int32 → Int32 → Int32 → hg_M → Prop
  | 0, _, _, _, _ => False
  | n + 1, x1, x3, x4, σ => (((9 : Int32) ≤ x4 → vp_in (((9 : Int32) * x3) + (7 : Int32)) 540 ∧ (∀ σ8 : hg_M, σ8 = hg_set σ 4 ((((9 : Int32) * x3) + (7 : Int32))).toNatClampNeg (σ 0 18) → vp_in x3 60 ∧ (∀ σ9 : hg_M, σ9 = hg_set σ8 6 (x3).toNatClampNeg (x3 + (1 : Int32)) → vp_in x3 60 ∧ (∀ σ10 : hg_M, σ10 = hg_set σ9 7 (x3).toNatClampNeg (x3 + (1 : Int32)) → wM_X6_isVariable x1 σ10 (fun r12 σ11 => ((r12 = 0 → ((x1 ≠ (64 : Int32) → ((x1 ≠ (33 : Int32) → wM_X6_readTest x3 σ11 (fun σ13 => vp_in (σ13 0 18) 7 ∧ (∀ σ14 : hg_M, σ14 = hg_set σ13 10 ((σ13 0 18)).toNatClampNeg x3 → vp_in (σ14 0 18) 7 ∧ (∀ σ15 : hg_M, σ15 = hg_set σ14 11 ((σ14 0 18)).toNatClampNeg (vp_nar .boolean (0 : Int32)) → ∀ σ16 : hg_M, σ16 = hg_set σ15 0 18 ((σ15 0 18) + (1 : Int32)) → bM_X6_readStatement_326 P σ16)))) ∧ (x1 = (33 : Int32) → ∀ σ17 : hg_M, σ17 = hg_set σ11 0 5 ((σ11 0 5) + (1 : Int32)) → vp_in (((9 : Int32) * x3) + (0 : Int32)) 540 ∧ (∀ σ18 : hg_M, σ18 = hg_set σ17 4 ((((9 : Int32) * x3) + (0 : Int32))).toNatClampNeg (4 : Int32) → wM_X6_readValue x3 (3 : Int32) σ18 (fun σ19 => wM_X6_take (59 : Int32) σ19 (fun σ20 => bM_X6_readStatement_326 P σ20)))))) ∧ (x1 = (64 : Int32) → ∀ σ21 : hg_M, σ21 = hg_set σ11 0 5 ((σ11 0 5) + (1 : Int32)) → vp_in (((9 : Int32) * x3) + (0 : Int32)) 540 ∧ (∀ σ22 : hg_M, σ22 = hg_set σ21 4 ((((9 : Int32) * x3) + (0 : Int32))).toNatClampNeg (3 : Int32) → wM_X6_readValue x3 (3 : Int32) σ22 (fun σ23 => wM_X6_take (61 : Int32) σ23 (fun σ24 => wM_X6_readValue x3 (5 : Int32) σ24 (fun σ25 => wM_X6_take (59 : Int32) σ25 (fun σ26 => bM_X6_readStatement_326 P σ26)))))))) ∧ (¬ r12 = 0 → wM_X6_readSet x3 σ11 (fun σ27 => bM_X6_readStatement_326 P σ27)))))))) ∧ (¬ ((9 : Int32) ≤ x4) → vp_in (((9 : Int32) * x3) + x4) 540 ∧ (∀ σ28 : hg_M, σ28 = hg_set σ 4 ((((9 : Int32) * x3) + x4)).toNatClampNeg (0 : Int32) → ∀ v29 : Int32, v29 = x4 + (1 : Int32) → lM_X6_readStatement_118 P n x1 x3 v29 σ28)))
def bM_X6_readStatement_92 (P : hg_M → Prop)  (x1 : Int32) (σ : hg_M) : Prop := (((σ 0 6) ≤ 0 → ∀ v6 : Int32, v6 = (σ 0 8) → ∀ σ7 : hg_M, σ7 = hg_set σ 0 8 ((σ 0 8) + (1 : Int32)) → (∃ f9, lM_X6_readStatement_118 P f9 x1 v6 (0 : Int32) σ7)) ∧ (¬ (σ 0 6) ≤ 0 → P σ))
def bM_X6_readStatement_30 (P : hg_M → Prop)  (x1 : Int32) (t0 : Int32) (σ : hg_M) : Prop := ((t0 ≠ 0 → (((σ 0 8) ≠ (60 : Int32) → ((x1 ≠ (63 : Int32) → bM_X6_readStatement_92 P x1 σ) ∧ (x1 = (63 : Int32) → (((σ 0 18) ≠ (6 : Int32) → bM_X6_readStatement_92 P x1 σ) ∧ ((σ 0 18) = (6 : Int32) → wM_X6_fail (4 : Int32) (σ 0 5) σ (fun σ3 => bM_X6_readStatement_92 P x1 σ3)))))) ∧ ((σ 0 8) = (60 : Int32) → wM_X6_fail (3 : Int32) (σ 0 5) σ (fun σ4 => bM_X6_readStatement_92 P x1 σ4)))) ∧ (t0 = 0 → wM_X6_fail (1 : Int32) (σ 0 5) σ (fun σ5 => bM_X6_readStatement_92 P x1 σ5)))
def bM_X6_readStatement_25 (P : hg_M → Prop)  (x1 : Int32) (σ : hg_M) : Prop := bM_X6_readStatement_30 P x1 (1 : Int32) σ
def wM_X6_readStatement (x1 : Int32) (σ : hg_M) (P : hg_M → Prop) : Prop := wM_X6_isVariable x1 σ (fun r2 σ1 => ((r2 ≠ 0 → bM_X6_readStatement_25 P x1 σ1) ∧ (r2 = 0 → ((x1 = (64 : Int32) → bM_X6_readStatement_25 P x1 σ1) ∧ (¬ (x1 = (64 : Int32)) → ((x1 = (33 : Int32) → bM_X6_readStatement_25 P x1 σ1) ∧ (¬ (x1 = (33 : Int32)) → ((x1 ≠ (63 : Int32) → bM_X6_readStatement_30 P x1 (0 : Int32) σ1) ∧ (x1 = (63 : Int32) → bM_X6_readStatement_25 P x1 σ1)))))))))
set_option maxRecDepth 4000 in
theorem tbM_X6_readStatement_326 {d : Nat} {E : hg_Et} {X : hg_X} {P : hg_M → Prop}  (hC : hg_C hg_FM 5 (d + 5) E cX6_readStatement RX6 X) (hR : hg_Rnv hg_FM hg_rM P X)   (σ : hg_M) (hw : bM_X6_readStatement_326 P  σ) : hg_G hg_FM 5 X 326 [] [] σ hg_rM := by
  unfold bM_X6_readStatement_326 at hw
  exact hg_retv hC hR dX6_readStatement_326 hw
set_option maxRecDepth 4000 in
theorem tlM_X6_readStatement_118 {d : Nat} {E : hg_Et} {X : hg_X} {P : hg_M → Prop}  (hC : hg_C hg_FM 5 (d + 5) E cX6_readStatement RX6 X) (hR : hg_Rnv hg_FM hg_rM P X)  (n : Nat) : ∀ (x1 : Int32) (x3 : Int32) (x4 : Int32) (σ : hg_M), lM_X6_readStatement_118 P n x1 x3 x4 σ → hg_G hg_FM 5 X 118 [(0, .ref (hg_ad X 0)), (1, .int x1), (3, .int x3), (4, .int x4)] [] σ hg_rM := by
  induction n with
  | zero =>
    intro x1 x3 x4 σ hw
    rw [lM_X6_readStatement_118] at hw
    exact hw.elim
  | succ n ih =>
    intro x1 x3 x4 σ hw
    rw [lM_X6_readStatement_118] at hw
    refine hg_iload hC dX6_readStatement_118 3 rfl (n := 120) rfl ?_
    refine hg_bipush hC dX6_readStatement_120 hl_b9 (n := 122) rfl ?_
    refine hg_icmp_ge hC dX6_readStatement_122 (tg := 144) rfl (n := 125) rfl (fun h9 => ?_) (fun h9 => ?_)
    · have hw := hw.1 h9
      refine hg_aload_n hC dX6_readStatement_144 rfl 0 rfl (n := 145) rfl ?_
      refine hg_getr hC fl_RX6_19 dX6_readStatement_145 qM_0 kM_0 fM_6_10 rM_0_10 (n := 148) rfl ?_
      refine hg_bipush hC dX6_readStatement_148 hl_b9 (n := 150) rfl ?_
      refine hg_iload_n hC dX6_readStatement_150 rfl 2 rfl (n := 151) rfl ?_
      refine hg_imul hC dX6_readStatement_151 (n := 152) rfl ?_
      refine hg_bipush hC dX6_readStatement_152 hl_b7 (n := 154) rfl ?_
      refine hg_iadd hC dX6_readStatement_154 (n := 155) rfl ?_
      refine hg_aload_n hC dX6_readStatement_155 rfl 0 rfl (n := 156) rfl ?_
      refine hg_geti hC fl_RX6_177 dX6_readStatement_156 qM_0 kM_0 fM_6_18 (n := 159) rfl ?_
      obtain ⟨h9, hw⟩ := hw
      refine hg_iast hC dX6_readStatement_159 qM_4 kM_4 h9 (n := 160) rfl (fun σ8 eσ8 => ?_)
      have hw := hw σ8 eσ8
      refine hg_aload_n hC dX6_readStatement_160 rfl 0 rfl (n := 161) rfl ?_
      refine hg_getr hC fl_RX6_25 dX6_readStatement_161 qM_0 kM_0 fM_6_12 rM_0_12 (n := 164) rfl ?_
      refine hg_iload_n hC dX6_readStatement_164 rfl 2 rfl (n := 165) rfl ?_
      refine hg_iload_n hC dX6_readStatement_165 rfl 2 rfl (n := 166) rfl ?_
      refine hg_iconst hC dX6_readStatement_166 hl_i1 (n := 167) rfl ?_
      refine hg_iadd hC dX6_readStatement_167 (n := 168) rfl ?_
      obtain ⟨h9, hw⟩ := hw
      refine hg_iast hC dX6_readStatement_168 qM_6 kM_6 h9 (n := 169) rfl (fun σ9 eσ9 => ?_)
      have hw := hw σ9 eσ9
      refine hg_aload_n hC dX6_readStatement_169 rfl 0 rfl (n := 170) rfl ?_
      refine hg_getr hC fl_RX6_28 dX6_readStatement_170 qM_0 kM_0 fM_6_13 rM_0_13 (n := 173) rfl ?_
      refine hg_iload_n hC dX6_readStatement_173 rfl 2 rfl (n := 174) rfl ?_
      refine hg_iload_n hC dX6_readStatement_174 rfl 2 rfl (n := 175) rfl ?_
      refine hg_iconst hC dX6_readStatement_175 hl_i1 (n := 176) rfl ?_
      refine hg_iadd hC dX6_readStatement_176 (n := 177) rfl ?_
      obtain ⟨h9, hw⟩ := hw
      refine hg_iast hC dX6_readStatement_177 qM_7 kM_7 h9 (n := 178) rfl (fun σ10 eσ10 => ?_)
      have hw := hw σ10 eσ10
      refine hg_iload_n hC dX6_readStatement_178 rfl 1 rfl (n := 179) rfl ?_
      refine hg_cSi hC (tM_X6_isVariable (hg_Eof hC) X.2.1 (d + 3) _ _ _ hw) ss_RX6_153 dX6_readStatement_179 rfl (rest := []) rfl (Nat.le_of_ble_eq_true rfl) (n := 182) rfl (fun r12 σ11 hw => ?_)
      refine hg_if_eq hC dX6_readStatement_182 (tg := 193) rfl (n := 185) rfl (fun h9 => ?_) (fun h9 => ?_)
      · have hw := hw.1 h9
        refine hg_iload_n hC dX6_readStatement_193 rfl 1 rfl (n := 194) rfl ?_
        refine hg_bipush hC dX6_readStatement_194 hl_b64 (n := 196) rfl ?_
        refine hg_icmp_ne hC dX6_readStatement_196 (tg := 248) rfl (n := 199) rfl (fun h9 => ?_) (fun h9 => ?_)
        · have hw := hw.1 h9
          refine hg_iload_n hC dX6_readStatement_248 rfl 1 rfl (n := 249) rfl ?_
          refine hg_bipush hC dX6_readStatement_249 hl_b33 (n := 251) rfl ?_
          refine hg_icmp_ne hC dX6_readStatement_251 (tg := 291) rfl (n := 254) rfl (fun h9 => ?_) (fun h9 => ?_)
          · have hw := hw.1 h9
            refine hg_aload_n hC dX6_readStatement_291 rfl 0 rfl (n := 292) rfl ?_
            refine hg_iload_n hC dX6_readStatement_292 rfl 2 rfl (n := 293) rfl ?_
            refine hg_cVv hC (tM_X6_readTest (hg_Eof hC) X.2.1 (d + 0) _ _ _ hw) sv_RX6_183 dX6_readStatement_293 qM_0 kM_0 c_6 rfl (rest := []) rfl (Nat.le_of_ble_eq_true rfl) (n := 296) rfl (fun σ13 hw => ?_)
            refine hg_aload_n hC dX6_readStatement_296 rfl 0 rfl (n := 297) rfl ?_
            refine hg_getr hC fl_RX6_37 dX6_readStatement_297 qM_0 kM_0 fM_6_16 rM_0_16 (n := 300) rfl ?_
            refine hg_aload_n hC dX6_readStatement_300 rfl 0 rfl (n := 301) rfl ?_
            refine hg_geti hC fl_RX6_177 dX6_readStatement_301 qM_0 kM_0 fM_6_18 (n := 304) rfl ?_
            refine hg_iload_n hC dX6_readStatement_304 rfl 2 rfl (n := 305) rfl ?_
            obtain ⟨h9, hw⟩ := hw
            refine hg_iast hC dX6_readStatement_305 qM_10 kM_10 h9 (n := 306) rfl (fun σ14 eσ14 => ?_)
            have hw := hw σ14 eσ14
            refine hg_aload_n hC dX6_readStatement_306 rfl 0 rfl (n := 307) rfl ?_
            refine hg_getr hC fl_RX6_40 dX6_readStatement_307 qM_0 kM_0 fM_6_17 rM_0_17 (n := 310) rfl ?_
            refine hg_aload_n hC dX6_readStatement_310 rfl 0 rfl (n := 311) rfl ?_
            refine hg_geti hC fl_RX6_177 dX6_readStatement_311 qM_0 kM_0 fM_6_18 (n := 314) rfl ?_
            refine hg_iconst hC dX6_readStatement_314 hl_i0 (n := 315) rfl ?_
            obtain ⟨h9, hw⟩ := hw
            refine hg_zast hC dX6_readStatement_315 qM_11 kM_11 h9 (n := 316) rfl (fun σ15 eσ15 => ?_)
            have hw := hw σ15 eσ15
            refine hg_aload_n hC dX6_readStatement_316 rfl 0 rfl (n := 317) rfl ?_
            refine hg_dup hC dX6_readStatement_317 rfl (n := 318) rfl ?_
            refine hg_geti hC fl_RX6_177 dX6_readStatement_318 qM_0 kM_0 fM_6_18 (n := 321) rfl ?_
            refine hg_iconst hC dX6_readStatement_321 hl_i1 (n := 322) rfl ?_
            refine hg_iadd hC dX6_readStatement_322 (n := 323) rfl ?_
            refine hg_puti hC fp_RX6_177 dX6_readStatement_323 qM_0 kM_0 fM_6_18 rfl rfl (n := 326) rfl (fun σ16 eσ16 => ?_)
            have hw := hw σ16 eσ16
            exact hg_sub [] rfl (tbM_X6_readStatement_326 hC hR  σ16 hw)
          · have hw := hw.2 h9
            refine hg_aload_n hC dX6_readStatement_254 rfl 0 rfl (n := 255) rfl ?_
            refine hg_dup hC dX6_readStatement_255 rfl (n := 256) rfl ?_
            refine hg_geti hC fl_RX6_130 dX6_readStatement_256 qM_0 kM_0 fM_6_5 (n := 259) rfl ?_
            refine hg_iconst hC dX6_readStatement_259 hl_i1 (n := 260) rfl ?_
            refine hg_iadd hC dX6_readStatement_260 (n := 261) rfl ?_
            refine hg_puti hC fp_RX6_130 dX6_readStatement_261 qM_0 kM_0 fM_6_5 rfl rfl (n := 264) rfl (fun σ17 eσ17 => ?_)
            have hw := hw σ17 eσ17
            refine hg_aload_n hC dX6_readStatement_264 rfl 0 rfl (n := 265) rfl ?_
            refine hg_getr hC fl_RX6_19 dX6_readStatement_265 qM_0 kM_0 fM_6_10 rM_0_10 (n := 268) rfl ?_
            refine hg_bipush hC dX6_readStatement_268 hl_b9 (n := 270) rfl ?_
            refine hg_iload_n hC dX6_readStatement_270 rfl 2 rfl (n := 271) rfl ?_
            refine hg_imul hC dX6_readStatement_271 (n := 272) rfl ?_
            refine hg_iconst hC dX6_readStatement_272 hl_i0 (n := 273) rfl ?_
            refine hg_iadd hC dX6_readStatement_273 (n := 274) rfl ?_
            refine hg_iconst hC dX6_readStatement_274 hl_i4 (n := 275) rfl ?_
            obtain ⟨h9, hw⟩ := hw
            refine hg_iast hC dX6_readStatement_275 qM_4 kM_4 h9 (n := 276) rfl (fun σ18 eσ18 => ?_)
            have hw := hw σ18 eσ18
            refine hg_aload_n hC dX6_readStatement_276 rfl 0 rfl (n := 277) rfl ?_
            refine hg_iload_n hC dX6_readStatement_277 rfl 2 rfl (n := 278) rfl ?_
            refine hg_iconst hC dX6_readStatement_278 hl_i3 (n := 279) rfl ?_
            refine hg_cVv hC (tM_X6_readValue (hg_Eof hC) X.2.1 (d + 1) _ _ _ _ hw) sv_RX6_164 dX6_readStatement_279 qM_0 kM_0 c_6 rfl (rest := []) rfl (Nat.le_of_ble_eq_true rfl) (n := 282) rfl (fun σ19 hw => ?_)
            refine hg_aload_n hC dX6_readStatement_282 rfl 0 rfl (n := 283) rfl ?_
            refine hg_bipush hC dX6_readStatement_283 hl_b59 (n := 285) rfl ?_
            refine hg_cVv hC (tM_X6_take (hg_Eof hC) X.2.1 (d + 2) _ _ _ hw) sv_RX6_160 dX6_readStatement_285 qM_0 kM_0 c_6 rfl (rest := []) rfl (Nat.le_of_ble_eq_true rfl) (n := 288) rfl (fun σ20 hw => ?_)
            refine hg_goto hC dX6_readStatement_288 (tg := 326) rfl ?_
            exact hg_sub [] rfl (tbM_X6_readStatement_326 hC hR  σ20 hw)
        · have hw := hw.2 h9
          refine hg_aload_n hC dX6_readStatement_199 rfl 0 rfl (n := 200) rfl ?_
          refine hg_dup hC dX6_readStatement_200 rfl (n := 201) rfl ?_
          refine hg_geti hC fl_RX6_130 dX6_readStatement_201 qM_0 kM_0 fM_6_5 (n := 204) rfl ?_
          refine hg_iconst hC dX6_readStatement_204 hl_i1 (n := 205) rfl ?_
          refine hg_iadd hC dX6_readStatement_205 (n := 206) rfl ?_
          refine hg_puti hC fp_RX6_130 dX6_readStatement_206 qM_0 kM_0 fM_6_5 rfl rfl (n := 209) rfl (fun σ21 eσ21 => ?_)
          have hw := hw σ21 eσ21
          refine hg_aload_n hC dX6_readStatement_209 rfl 0 rfl (n := 210) rfl ?_
          refine hg_getr hC fl_RX6_19 dX6_readStatement_210 qM_0 kM_0 fM_6_10 rM_0_10 (n := 213) rfl ?_
          refine hg_bipush hC dX6_readStatement_213 hl_b9 (n := 215) rfl ?_
          refine hg_iload_n hC dX6_readStatement_215 rfl 2 rfl (n := 216) rfl ?_
          refine hg_imul hC dX6_readStatement_216 (n := 217) rfl ?_
          refine hg_iconst hC dX6_readStatement_217 hl_i0 (n := 218) rfl ?_
          refine hg_iadd hC dX6_readStatement_218 (n := 219) rfl ?_
          refine hg_iconst hC dX6_readStatement_219 hl_i3 (n := 220) rfl ?_
          obtain ⟨h9, hw⟩ := hw
          refine hg_iast hC dX6_readStatement_220 qM_4 kM_4 h9 (n := 221) rfl (fun σ22 eσ22 => ?_)
          have hw := hw σ22 eσ22
          refine hg_aload_n hC dX6_readStatement_221 rfl 0 rfl (n := 222) rfl ?_
          refine hg_iload_n hC dX6_readStatement_222 rfl 2 rfl (n := 223) rfl ?_
          refine hg_iconst hC dX6_readStatement_223 hl_i3 (n := 224) rfl ?_
          refine hg_cVv hC (tM_X6_readValue (hg_Eof hC) X.2.1 (d + 1) _ _ _ _ hw) sv_RX6_164 dX6_readStatement_224 qM_0 kM_0 c_6 rfl (rest := []) rfl (Nat.le_of_ble_eq_true rfl) (n := 227) rfl (fun σ23 hw => ?_)
          refine hg_aload_n hC dX6_readStatement_227 rfl 0 rfl (n := 228) rfl ?_
          refine hg_bipush hC dX6_readStatement_228 hl_b61 (n := 230) rfl ?_
          refine hg_cVv hC (tM_X6_take (hg_Eof hC) X.2.1 (d + 2) _ _ _ hw) sv_RX6_160 dX6_readStatement_230 qM_0 kM_0 c_6 rfl (rest := []) rfl (Nat.le_of_ble_eq_true rfl) (n := 233) rfl (fun σ24 hw => ?_)
          refine hg_aload_n hC dX6_readStatement_233 rfl 0 rfl (n := 234) rfl ?_
          refine hg_iload_n hC dX6_readStatement_234 rfl 2 rfl (n := 235) rfl ?_
          refine hg_iconst hC dX6_readStatement_235 hl_i5 (n := 236) rfl ?_
          refine hg_cVv hC (tM_X6_readValue (hg_Eof hC) X.2.1 (d + 1) _ _ _ _ hw) sv_RX6_164 dX6_readStatement_236 qM_0 kM_0 c_6 rfl (rest := []) rfl (Nat.le_of_ble_eq_true rfl) (n := 239) rfl (fun σ25 hw => ?_)
          refine hg_aload_n hC dX6_readStatement_239 rfl 0 rfl (n := 240) rfl ?_
          refine hg_bipush hC dX6_readStatement_240 hl_b59 (n := 242) rfl ?_
          refine hg_cVv hC (tM_X6_take (hg_Eof hC) X.2.1 (d + 2) _ _ _ hw) sv_RX6_160 dX6_readStatement_242 qM_0 kM_0 c_6 rfl (rest := []) rfl (Nat.le_of_ble_eq_true rfl) (n := 245) rfl (fun σ26 hw => ?_)
          refine hg_goto hC dX6_readStatement_245 (tg := 326) rfl ?_
          exact hg_sub [] rfl (tbM_X6_readStatement_326 hC hR  σ26 hw)
      · have hw := hw.2 h9
        refine hg_aload_n hC dX6_readStatement_185 rfl 0 rfl (n := 186) rfl ?_
        refine hg_iload_n hC dX6_readStatement_186 rfl 2 rfl (n := 187) rfl ?_
        refine hg_cVv hC (tM_X6_readSet (hg_Eof hC) X.2.1 (d + 0) _ _ _ hw) sv_RX6_180 dX6_readStatement_187 qM_0 kM_0 c_6 rfl (rest := []) rfl (Nat.le_of_ble_eq_true rfl) (n := 190) rfl (fun σ27 hw => ?_)
        refine hg_goto hC dX6_readStatement_190 (tg := 326) rfl ?_
        exact hg_sub [] rfl (tbM_X6_readStatement_326 hC hR  σ27 hw)
    · have hw := hw.2 h9
      refine hg_aload_n hC dX6_readStatement_125 rfl 0 rfl (n := 126) rfl ?_
      refine hg_getr hC fl_RX6_19 dX6_readStatement_126 qM_0 kM_0 fM_6_10 rM_0_10 (n := 129) rfl ?_
      refine hg_bipush hC dX6_readStatement_129 hl_b9 (n := 131) rfl ?_
      refine hg_iload_n hC dX6_readStatement_131 rfl 2 rfl (n := 132) rfl ?_
      refine hg_imul hC dX6_readStatement_132 (n := 133) rfl ?_
      refine hg_iload hC dX6_readStatement_133 3 rfl (n := 135) rfl ?_
      refine hg_iadd hC dX6_readStatement_135 (n := 136) rfl ?_
      refine hg_iconst hC dX6_readStatement_136 hl_i0 (n := 137) rfl ?_
      obtain ⟨h9, hw⟩ := hw
      refine hg_iast hC dX6_readStatement_137 qM_4 kM_4 h9 (n := 138) rfl (fun σ28 eσ28 => ?_)
      have hw := hw σ28 eσ28
      obtain ⟨v29, ev29⟩ : ∃ z, z = x4 + (1 : Int32) := ⟨_, rfl⟩
      have hw := hw v29 ev29
      refine hg_iinc hC (v := v29) (L1 := [(4, .int v29), (0, .ref (hg_ad X 0)), (1, .int x1), (3, .int x3)]) dX6_readStatement_138 3 rfl (by rw [hl_i1, ev29]) (by decide) rfl (n := 141) rfl ?_
      refine hg_goto hC dX6_readStatement_141 (tg := 118) rfl ?_
      exact hg_sub [1, 2, 3, 0] rfl (ih x1 x3 v29 σ28 hw)
set_option maxRecDepth 4000 in
theorem tbM_X6_readStatement_92 {d : Nat} {E : hg_Et} {X : hg_X} {P : hg_M → Prop}  (hC : hg_C hg_FM 5 (d + 5) E cX6_readStatement RX6 X) (hR : hg_Rnv hg_FM hg_rM P X)  (x1 : Int32) (σ : hg_M) (hw : bM_X6_readStatement_92 P x1 σ) : hg_G hg_FM 5 X 92 [(0, .ref (hg_ad X 0)), (1, .int x1)] [] σ hg_rM := by
  unfold bM_X6_readStatement_92 at hw
  refine hg_aload_n hC dX6_readStatement_92 rfl 0 rfl (n := 93) rfl ?_
  refine hg_geti hC fl_RX6_124 dX6_readStatement_93 qM_0 kM_0 fM_6_6 (n := 96) rfl ?_
  refine hg_if_le hC dX6_readStatement_96 (tg := 100) rfl (n := 99) rfl (fun h9 => ?_) (fun h9 => ?_)
  · have hw := hw.1 h9
    refine hg_aload_n hC dX6_readStatement_100 rfl 0 rfl (n := 101) rfl ?_
    refine hg_geti hC fl_RX6_174 dX6_readStatement_101 qM_0 kM_0 fM_6_8 (n := 104) rfl ?_
    refine hg_topi (fun v6 ev6 => ?_)
    have hw := hw v6 ev6
    refine hg_istore_n hC (L1 := [(3, .int v6), (0, .ref (hg_ad X 0)), (1, .int x1)]) dX6_readStatement_104 rfl (by decide) rfl (n := 105) rfl ?_
    refine hg_aload_n hC dX6_readStatement_105 rfl 1 rfl (n := 106) rfl ?_
    refine hg_dup hC dX6_readStatement_106 rfl (n := 107) rfl ?_
    refine hg_geti hC fl_RX6_174 dX6_readStatement_107 qM_0 kM_0 fM_6_8 (n := 110) rfl ?_
    refine hg_iconst hC dX6_readStatement_110 hl_i1 (n := 111) rfl ?_
    refine hg_iadd hC dX6_readStatement_111 (n := 112) rfl ?_
    refine hg_puti hC fp_RX6_174 dX6_readStatement_112 qM_0 kM_0 fM_6_8 rfl rfl (n := 115) rfl (fun σ7 eσ7 => ?_)
    have hw := hw σ7 eσ7
    refine hg_iconst hC dX6_readStatement_115 hl_i0 (n := 116) rfl ?_
    refine hg_istore hC (L1 := [(4, .int (0 : Int32)), (3, .int v6), (0, .ref (hg_ad X 0)), (1, .int x1)]) dX6_readStatement_116 (by decide) rfl (n := 118) rfl ?_
    obtain ⟨n9, hw⟩ := hw
    exact hg_sub [2, 3, 1, 0] rfl (tlM_X6_readStatement_118 hC hR  n9 x1 v6 (0 : Int32) σ7 hw)
  · have hw := hw.2 h9
    exact hg_retv hC hR dX6_readStatement_99 hw
set_option maxRecDepth 4000 in
theorem tbM_X6_readStatement_30 {d : Nat} {E : hg_Et} {X : hg_X} {P : hg_M → Prop}  (hC : hg_C hg_FM 5 (d + 5) E cX6_readStatement RX6 X) (hR : hg_Rnv hg_FM hg_rM P X)  (x1 : Int32) (t0 : Int32) (σ : hg_M) (hw : bM_X6_readStatement_30 P x1 t0 σ) : hg_G hg_FM 5 X 30 [(0, .ref (hg_ad X 0)), (1, .int x1)] [.int t0] σ hg_rM := by
  unfold bM_X6_readStatement_30 at hw
  refine hg_istore_n hC (L1 := [(2, .int t0), (0, .ref (hg_ad X 0)), (1, .int x1)]) dX6_readStatement_30 rfl (by decide) rfl (n := 31) rfl ?_
  refine hg_iload_n hC dX6_readStatement_31 rfl 0 rfl (n := 32) rfl ?_
  refine hg_if_ne hC dX6_readStatement_32 (tg := 47) rfl (n := 35) rfl (fun h9 => ?_) (fun h9 => ?_)
  · have hw := hw.1 h9
    refine hg_aload_n hC dX6_readStatement_47 rfl 1 rfl (n := 48) rfl ?_
    refine hg_geti hC fl_RX6_174 dX6_readStatement_48 qM_0 kM_0 fM_6_8 (n := 51) rfl ?_
    refine hg_bipush hC dX6_readStatement_51 hl_b60 (n := 53) rfl ?_
    refine hg_icmp_ne hC dX6_readStatement_53 (tg := 68) rfl (n := 56) rfl (fun h9 => ?_) (fun h9 => ?_)
    · have hw := hw.1 h9
      refine hg_iload_n hC dX6_readStatement_68 rfl 2 rfl (n := 69) rfl ?_
      refine hg_bipush hC dX6_readStatement_69 hl_b63 (n := 71) rfl ?_
      refine hg_icmp_ne hC dX6_readStatement_71 (tg := 92) rfl (n := 74) rfl (fun h9 => ?_) (fun h9 => ?_)
      · have hw := hw.1 h9
        exact hg_sub [1, 2] rfl (tbM_X6_readStatement_92 hC hR  x1 σ hw)
      · have hw := hw.2 h9
        refine hg_aload_n hC dX6_readStatement_74 rfl 1 rfl (n := 75) rfl ?_
        refine hg_geti hC fl_RX6_177 dX6_readStatement_75 qM_0 kM_0 fM_6_18 (n := 78) rfl ?_
        refine hg_bipush hC dX6_readStatement_78 hl_b6 (n := 80) rfl ?_
        refine hg_icmp_ne hC dX6_readStatement_80 (tg := 92) rfl (n := 83) rfl (fun h9 => ?_) (fun h9 => ?_)
        · have hw := hw.1 h9
          exact hg_sub [1, 2] rfl (tbM_X6_readStatement_92 hC hR  x1 σ hw)
        · have hw := hw.2 h9
          refine hg_aload_n hC dX6_readStatement_83 rfl 1 rfl (n := 84) rfl ?_
          refine hg_iconst hC dX6_readStatement_84 hl_i4 (n := 85) rfl ?_
          refine hg_aload_n hC dX6_readStatement_85 rfl 1 rfl (n := 86) rfl ?_
          refine hg_geti hC fl_RX6_130 dX6_readStatement_86 qM_0 kM_0 fM_6_5 (n := 89) rfl ?_
          refine hg_cVv hC (tM_X6_fail (hg_Eof hC) X.2.1 (d + 3) _ _ _ _ hw) sv_RX6_137 dX6_readStatement_89 qM_0 kM_0 c_6 rfl (rest := []) rfl (Nat.le_of_ble_eq_true rfl) (n := 92) rfl (fun σ3 hw => ?_)
          exact hg_sub [1, 2] rfl (tbM_X6_readStatement_92 hC hR  x1 σ3 hw)
    · have hw := hw.2 h9
      refine hg_aload_n hC dX6_readStatement_56 rfl 1 rfl (n := 57) rfl ?_
      refine hg_iconst hC dX6_readStatement_57 hl_i3 (n := 58) rfl ?_
      refine hg_aload_n hC dX6_readStatement_58 rfl 1 rfl (n := 59) rfl ?_
      refine hg_geti hC fl_RX6_130 dX6_readStatement_59 qM_0 kM_0 fM_6_5 (n := 62) rfl ?_
      refine hg_cVv hC (tM_X6_fail (hg_Eof hC) X.2.1 (d + 3) _ _ _ _ hw) sv_RX6_137 dX6_readStatement_62 qM_0 kM_0 c_6 rfl (rest := []) rfl (Nat.le_of_ble_eq_true rfl) (n := 65) rfl (fun σ4 hw => ?_)
      refine hg_goto hC dX6_readStatement_65 (tg := 92) rfl ?_
      exact hg_sub [1, 2] rfl (tbM_X6_readStatement_92 hC hR  x1 σ4 hw)
  · have hw := hw.2 h9
    refine hg_aload_n hC dX6_readStatement_35 rfl 1 rfl (n := 36) rfl ?_
    refine hg_iconst hC dX6_readStatement_36 hl_i1 (n := 37) rfl ?_
    refine hg_aload_n hC dX6_readStatement_37 rfl 1 rfl (n := 38) rfl ?_
    refine hg_geti hC fl_RX6_130 dX6_readStatement_38 qM_0 kM_0 fM_6_5 (n := 41) rfl ?_
    refine hg_cVv hC (tM_X6_fail (hg_Eof hC) X.2.1 (d + 3) _ _ _ _ hw) sv_RX6_137 dX6_readStatement_41 qM_0 kM_0 c_6 rfl (rest := []) rfl (Nat.le_of_ble_eq_true rfl) (n := 44) rfl (fun σ5 hw => ?_)
    refine hg_goto hC dX6_readStatement_44 (tg := 92) rfl ?_
    exact hg_sub [1, 2] rfl (tbM_X6_readStatement_92 hC hR  x1 σ5 hw)
set_option maxRecDepth 4000 in
theorem tbM_X6_readStatement_25 {d : Nat} {E : hg_Et} {X : hg_X} {P : hg_M → Prop}  (hC : hg_C hg_FM 5 (d + 5) E cX6_readStatement RX6 X) (hR : hg_Rnv hg_FM hg_rM P X)  (x1 : Int32) (σ : hg_M) (hw : bM_X6_readStatement_25 P x1 σ) : hg_G hg_FM 5 X 25 [(0, .ref (hg_ad X 0)), (1, .int x1)] [] σ hg_rM := by
  unfold bM_X6_readStatement_25 at hw
  refine hg_iconst hC dX6_readStatement_25 hl_i1 (n := 26) rfl ?_
  refine hg_goto hC dX6_readStatement_26 (tg := 30) rfl ?_
  exact tbM_X6_readStatement_30 hC hR  x1 (1 : Int32) σ hw
set_option maxRecDepth 4000 in
theorem tM_X6_readStatement {E : hg_Et} (hE : hg_Eok E) (l : Launch) (d : Nat) (x1 : Int32) (σ : hg_M) (P : hg_M → Prop) (hw : wM_X6_readStatement x1 σ P) : hg_Nv hg_FM E l yX6_readStatement cX6_readStatement 5 (d + 5) (fun ad => [.ref (ad 0), .int x1]) hg_rM σ P := by
  refine hg_nv hE (by decide) (fun _ => Nat.le_of_ble_eq_true rfl) (fun X hC hR hl => ?_)
  subst hl
  have hC : hg_C hg_FM 5 (d + 5) E cX6_readStatement RX6 X := hC
  show hg_G hg_FM 5 X 0 [(0, .ref (hg_ad X 0)), (1, .int x1)] [] σ hg_rM
  unfold wM_X6_readStatement at hw
  refine hg_iload_n hC dX6_readStatement_0 rfl 1 rfl (n := 1) rfl ?_
  refine hg_cSi hC (tM_X6_isVariable (hg_Eof hC) X.2.1 (d + 3) _ _ _ hw) ss_RX6_153 dX6_readStatement_1 rfl (rest := []) rfl (Nat.le_of_ble_eq_true rfl) (n := 4) rfl (fun r2 σ1 hw => ?_)
  refine hg_if_ne hC dX6_readStatement_4 (tg := 25) rfl (n := 7) rfl (fun h9 => ?_) (fun h9 => ?_)
  · have hw := hw.1 h9
    exact tbM_X6_readStatement_25 hC hR  x1 σ1 hw
  · have hw := hw.2 h9
    refine hg_iload_n hC dX6_readStatement_7 rfl 1 rfl (n := 8) rfl ?_
    refine hg_bipush hC dX6_readStatement_8 hl_b64 (n := 10) rfl ?_
    refine hg_icmp_eq hC dX6_readStatement_10 (tg := 25) rfl (n := 13) rfl (fun h9 => ?_) (fun h9 => ?_)
    · have hw := hw.1 h9
      exact tbM_X6_readStatement_25 hC hR  x1 σ1 hw
    · have hw := hw.2 h9
      refine hg_iload_n hC dX6_readStatement_13 rfl 1 rfl (n := 14) rfl ?_
      refine hg_bipush hC dX6_readStatement_14 hl_b33 (n := 16) rfl ?_
      refine hg_icmp_eq hC dX6_readStatement_16 (tg := 25) rfl (n := 19) rfl (fun h9 => ?_) (fun h9 => ?_)
      · have hw := hw.1 h9
        exact tbM_X6_readStatement_25 hC hR  x1 σ1 hw
      · have hw := hw.2 h9
        refine hg_iload_n hC dX6_readStatement_19 rfl 1 rfl (n := 20) rfl ?_
        refine hg_bipush hC dX6_readStatement_20 hl_b63 (n := 22) rfl ?_
        refine hg_icmp_ne hC dX6_readStatement_22 (tg := 29) rfl (n := 25) rfl (fun h9 => ?_) (fun h9 => ?_)
        · have hw := hw.1 h9
          refine hg_iconst hC dX6_readStatement_29 hl_i0 (n := 30) rfl ?_
          exact tbM_X6_readStatement_30 hC hR  x1 (0 : Int32) σ1 hw
        · have hw := hw.2 h9
          exact tbM_X6_readStatement_25 hC hR  x1 σ1 hw
def bM_X6_closeSide_88 (P : hg_M → Prop)   (σ : hg_M) : Prop := ∀ σ9 : hg_M, σ9 = hg_set σ 0 18 ((σ 0 18) - (1 : Int32)) → P σ9
def wM_X6_closeSide  (σ : hg_M) (P : hg_M → Prop) : Prop := vp_in ((σ 0 18) - (1 : Int32)) 7 ∧ (∀ v1 : Int32, v1 = (σ 10 (((σ 0 18) - (1 : Int32))).toNatClampNeg) → ∀ σ2 : hg_M, σ2 = hg_set σ 0 5 ((σ 0 5) + (1 : Int32)) → vp_in v1 60 ∧ (∀ σ3 : hg_M, σ3 = hg_set σ2 7 (v1).toNatClampNeg (σ2 0 8) → vp_in ((σ3 0 18) - (1 : Int32)) 7 ∧ ((((σ3 11 (((σ3 0 18) - (1 : Int32))).toNatClampNeg) ≠ 0 → bM_X6_closeSide_88 P σ3) ∧ ((σ3 11 (((σ3 0 18) - (1 : Int32))).toNatClampNeg) = 0 → vp_in v1 60 ∧ (∀ σ4 : hg_M, σ4 = hg_set σ3 6 (v1).toNatClampNeg (σ3 0 8) → wM_X6_next σ4 (fun r6 σ5 => ((r6 ≠ (123 : Int32) → bM_X6_closeSide_88 P σ5) ∧ (r6 = (123 : Int32) → ∀ σ7 : hg_M, σ7 = hg_set σ5 0 5 ((σ5 0 5) + (1 : Int32)) → vp_in ((σ7 0 18) - (1 : Int32)) 7 ∧ (∀ σ8 : hg_M, σ8 = hg_set σ7 11 (((σ7 0 18) - (1 : Int32))).toNatClampNeg (vp_nar .boolean (1 : Int32)) → P σ8))))))))))
set_option maxRecDepth 4000 in
theorem tbM_X6_closeSide_88 {d : Nat} {E : hg_Et} {X : hg_X} {P : hg_M → Prop}  (hC : hg_C hg_FM 2 (d + 2) E cX6_closeSide RX6 X) (hR : hg_Rnv hg_FM hg_rM P X)   (σ : hg_M) (hw : bM_X6_closeSide_88 P  σ) : hg_G hg_FM 2 X 88 [(0, .ref (hg_ad X 0))] [] σ hg_rM := by
  unfold bM_X6_closeSide_88 at hw
  refine hg_aload_n hC dX6_closeSide_88 rfl 0 rfl (n := 89) rfl ?_
  refine hg_dup hC dX6_closeSide_89 rfl (n := 90) rfl ?_
  refine hg_geti hC fl_RX6_177 dX6_closeSide_90 qM_0 kM_0 fM_6_18 (n := 93) rfl ?_
  refine hg_iconst hC dX6_closeSide_93 hl_i1 (n := 94) rfl ?_
  refine hg_isub hC dX6_closeSide_94 (n := 95) rfl ?_
  refine hg_puti hC fp_RX6_177 dX6_closeSide_95 qM_0 kM_0 fM_6_18 rfl rfl (n := 98) rfl (fun σ9 eσ9 => ?_)
  have hw := hw σ9 eσ9
  exact hg_retv hC hR dX6_closeSide_98 hw
set_option maxRecDepth 4000 in
theorem tM_X6_closeSide {E : hg_Et} (hE : hg_Eok E) (l : Launch) (d : Nat)  (σ : hg_M) (P : hg_M → Prop) (hw : wM_X6_closeSide  σ P) : hg_Nv hg_FM E l yX6_closeSide cX6_closeSide 2 (d + 2) (fun ad => [.ref (ad 0)]) hg_rM σ P := by
  refine hg_nv hE (by decide) (fun _ => Nat.le_of_ble_eq_true rfl) (fun X hC hR hl => ?_)
  subst hl
  have hC : hg_C hg_FM 2 (d + 2) E cX6_closeSide RX6 X := hC
  show hg_G hg_FM 2 X 0 [(0, .ref (hg_ad X 0))] [] σ hg_rM
  unfold wM_X6_closeSide at hw
  refine hg_aload_n hC dX6_closeSide_0 rfl 0 rfl (n := 1) rfl ?_
  refine hg_getr hC fl_RX6_37 dX6_closeSide_1 qM_0 kM_0 fM_6_16 rM_0_16 (n := 4) rfl ?_
  refine hg_aload_n hC dX6_closeSide_4 rfl 0 rfl (n := 5) rfl ?_
  refine hg_geti hC fl_RX6_177 dX6_closeSide_5 qM_0 kM_0 fM_6_18 (n := 8) rfl ?_
  refine hg_iconst hC dX6_closeSide_8 hl_i1 (n := 9) rfl ?_
  refine hg_isub hC dX6_closeSide_9 (n := 10) rfl ?_
  obtain ⟨h9, hw⟩ := hw
  refine hg_iald hC dX6_closeSide_10 qM_10 kM_10 h9 (n := 11) rfl ?_
  refine hg_topi (fun v1 ev1 => ?_)
  have hw := hw v1 ev1
  refine hg_istore_n hC (L1 := [(1, .int v1), (0, .ref (hg_ad X 0))]) dX6_closeSide_11 rfl (by decide) rfl (n := 12) rfl ?_
  refine hg_aload_n hC dX6_closeSide_12 rfl 1 rfl (n := 13) rfl ?_
  refine hg_dup hC dX6_closeSide_13 rfl (n := 14) rfl ?_
  refine hg_geti hC fl_RX6_130 dX6_closeSide_14 qM_0 kM_0 fM_6_5 (n := 17) rfl ?_
  refine hg_iconst hC dX6_closeSide_17 hl_i1 (n := 18) rfl ?_
  refine hg_iadd hC dX6_closeSide_18 (n := 19) rfl ?_
  refine hg_puti hC fp_RX6_130 dX6_closeSide_19 qM_0 kM_0 fM_6_5 rfl rfl (n := 22) rfl (fun σ2 eσ2 => ?_)
  have hw := hw σ2 eσ2
  refine hg_aload_n hC dX6_closeSide_22 rfl 1 rfl (n := 23) rfl ?_
  refine hg_getr hC fl_RX6_28 dX6_closeSide_23 qM_0 kM_0 fM_6_13 rM_0_13 (n := 26) rfl ?_
  refine hg_iload_n hC dX6_closeSide_26 rfl 0 rfl (n := 27) rfl ?_
  refine hg_aload_n hC dX6_closeSide_27 rfl 1 rfl (n := 28) rfl ?_
  refine hg_geti hC fl_RX6_174 dX6_closeSide_28 qM_0 kM_0 fM_6_8 (n := 31) rfl ?_
  obtain ⟨h9, hw⟩ := hw
  refine hg_iast hC dX6_closeSide_31 qM_7 kM_7 h9 (n := 32) rfl (fun σ3 eσ3 => ?_)
  have hw := hw σ3 eσ3
  refine hg_aload_n hC dX6_closeSide_32 rfl 1 rfl (n := 33) rfl ?_
  refine hg_getr hC fl_RX6_40 dX6_closeSide_33 qM_0 kM_0 fM_6_17 rM_0_17 (n := 36) rfl ?_
  refine hg_aload_n hC dX6_closeSide_36 rfl 1 rfl (n := 37) rfl ?_
  refine hg_geti hC fl_RX6_177 dX6_closeSide_37 qM_0 kM_0 fM_6_18 (n := 40) rfl ?_
  refine hg_iconst hC dX6_closeSide_40 hl_i1 (n := 41) rfl ?_
  refine hg_isub hC dX6_closeSide_41 (n := 42) rfl ?_
  obtain ⟨h9, hw⟩ := hw
  refine hg_zald hC dX6_closeSide_42 qM_11 kM_11 h9 (n := 43) rfl ?_
  refine hg_if_ne hC dX6_closeSide_43 (tg := 88) rfl (n := 46) rfl (fun h9 => ?_) (fun h9 => ?_)
  · have hw := hw.1 h9
    exact hg_sub [1] rfl (tbM_X6_closeSide_88 hC hR  σ3 hw)
  · have hw := hw.2 h9
    refine hg_aload_n hC dX6_closeSide_46 rfl 1 rfl (n := 47) rfl ?_
    refine hg_getr hC fl_RX6_25 dX6_closeSide_47 qM_0 kM_0 fM_6_12 rM_0_12 (n := 50) rfl ?_
    refine hg_iload_n hC dX6_closeSide_50 rfl 0 rfl (n := 51) rfl ?_
    refine hg_aload_n hC dX6_closeSide_51 rfl 1 rfl (n := 52) rfl ?_
    refine hg_geti hC fl_RX6_174 dX6_closeSide_52 qM_0 kM_0 fM_6_8 (n := 55) rfl ?_
    obtain ⟨h9, hw⟩ := hw
    refine hg_iast hC dX6_closeSide_55 qM_6 kM_6 h9 (n := 56) rfl (fun σ4 eσ4 => ?_)
    have hw := hw σ4 eσ4
    refine hg_aload_n hC dX6_closeSide_56 rfl 1 rfl (n := 57) rfl ?_
    refine hg_cVi hC (tM_X6_next (hg_Eof hC) X.2.1 (d + 0) _ _ hw) sv_RX6_133 dX6_closeSide_57 qM_0 kM_0 c_6 rfl (rest := []) rfl (Nat.le_of_ble_eq_true rfl) (n := 60) rfl (fun r6 σ5 hw => ?_)
    refine hg_bipush hC dX6_closeSide_60 hl_b123 (n := 62) rfl ?_
    refine hg_icmp_ne hC dX6_closeSide_62 (tg := 88) rfl (n := 65) rfl (fun h9 => ?_) (fun h9 => ?_)
    · have hw := hw.1 h9
      exact hg_sub [1] rfl (tbM_X6_closeSide_88 hC hR  σ5 hw)
    · have hw := hw.2 h9
      refine hg_aload_n hC dX6_closeSide_65 rfl 1 rfl (n := 66) rfl ?_
      refine hg_dup hC dX6_closeSide_66 rfl (n := 67) rfl ?_
      refine hg_geti hC fl_RX6_130 dX6_closeSide_67 qM_0 kM_0 fM_6_5 (n := 70) rfl ?_
      refine hg_iconst hC dX6_closeSide_70 hl_i1 (n := 71) rfl ?_
      refine hg_iadd hC dX6_closeSide_71 (n := 72) rfl ?_
      refine hg_puti hC fp_RX6_130 dX6_closeSide_72 qM_0 kM_0 fM_6_5 rfl rfl (n := 75) rfl (fun σ7 eσ7 => ?_)
      have hw := hw σ7 eσ7
      refine hg_aload_n hC dX6_closeSide_75 rfl 1 rfl (n := 76) rfl ?_
      refine hg_getr hC fl_RX6_40 dX6_closeSide_76 qM_0 kM_0 fM_6_17 rM_0_17 (n := 79) rfl ?_
      refine hg_aload_n hC dX6_closeSide_79 rfl 1 rfl (n := 80) rfl ?_
      refine hg_geti hC fl_RX6_177 dX6_closeSide_80 qM_0 kM_0 fM_6_18 (n := 83) rfl ?_
      refine hg_iconst hC dX6_closeSide_83 hl_i1 (n := 84) rfl ?_
      refine hg_isub hC dX6_closeSide_84 (n := 85) rfl ?_
      refine hg_iconst hC dX6_closeSide_85 hl_i1 (n := 86) rfl ?_
      obtain ⟨h9, hw⟩ := hw
      refine hg_zast hC dX6_closeSide_86 qM_11 kM_11 h9 (n := 87) rfl (fun σ8 eσ8 => ?_)
      have hw := hw σ8 eσ8
      exact hg_retv hC hR dX6_closeSide_87 hw
def lM_X6_read_149 (P : Int32 → hg_M → Prop)  : Nat → Int32 → hg_M → Prop
  | 0, _, _ => False
  | n + 1, x2, σ => (((60 : Int32) ≤ x2 → ((0 : Int32) = 0 ∨ (0 : Int32) = 1) ∧ (∀ σ16 : hg_M, σ16 = hg_set σ 0 22 (0 : Int32) → ∀ σ17 : hg_M, σ17 = hg_set σ16 0 20 (0 : Int32) → ∀ σ18 : hg_M, σ18 = hg_set σ17 0 21 (16 : Int32) → P (σ18 0 9) σ18)) ∧ (¬ ((60 : Int32) ≤ x2) → vp_in x2 60 ∧ (vp_in x2 60 ∧ (∀ σ19 : hg_M, σ19 = hg_set σ 8 (x2).toNatClampNeg (σ 6 (x2).toNatClampNeg) → vp_in x2 60 ∧ (vp_in x2 60 ∧ (∀ σ20 : hg_M, σ20 = hg_set σ19 9 (x2).toNatClampNeg (σ19 7 (x2).toNatClampNeg) → vp_in x2 60 ∧ (∀ σ21 : hg_M, σ21 = hg_set σ20 13 (x2).toNatClampNeg (vp_nar .boolean (0 : Int32)) → ∀ v22 : Int32, v22 = x2 + (1 : Int32) → lM_X6_read_149 P n v22 σ21)))))))
def lM_X6_read_122 (P : Int32 → hg_M → Prop)  : Nat → Int32 → hg_M → Prop
  | 0, _, _ => False
  | n + 1, x2, σ => (((540 : Int32) ≤ x2 → (∃ f9, lM_X6_read_149 P f9 (0 : Int32) σ)) ∧ (¬ ((540 : Int32) ≤ x2) → vp_in x2 540 ∧ (vp_in x2 540 ∧ (∀ σ14 : hg_M, σ14 = hg_set σ 5 (x2).toNatClampNeg (σ 4 (x2).toNatClampNeg) → ∀ v15 : Int32, v15 = x2 + (1 : Int32) → lM_X6_read_122 P n v15 σ14))))
def bM_X6_read_93 (P : Int32 → hg_M → Prop)   (σ : hg_M) : Prop := ∀ σ12 : hg_M, σ12 = hg_set σ 0 4 (0 : Int32) → (((σ12 0 6) ≤ 0 → ∀ σ13 : hg_M, σ13 = hg_set σ12 0 9 (σ12 0 8) → (∃ f9, lM_X6_read_122 P f9 (0 : Int32) σ13)) ∧ (¬ (σ12 0 6) ≤ 0 → P ((-1 : Int32) - (σ12 0 7)) σ12))
def bM_X6_read_89 (P : Int32 → hg_M → Prop) (J30 : Int32 → hg_M → Prop) (t0 : Int32) (σ : hg_M) : Prop := J30 t0 σ
def bM_X6_read_74 (P : Int32 → hg_M → Prop) (J30 : Int32 → hg_M → Prop)  (σ : hg_M) : Prop := (((σ 0 6) ≤ 0 → wM_X6_next σ (fun r10 σ9 => bM_X6_read_89 P J30 r10 σ9)) ∧ (¬ (σ 0 6) ≤ 0 → bM_X6_read_89 P J30 (-1 : Int32) σ))
def bM_X6_read_69 (P : Int32 → hg_M → Prop) (J30 : Int32 → hg_M → Prop) (x1 : Int32) (σ : hg_M) : Prop := wM_X6_readStatement x1 σ (fun σ11 => bM_X6_read_74 P J30 σ11)
def bM_X6_read_49 (P : Int32 → hg_M → Prop) (J30 : Int32 → hg_M → Prop) (x1 : Int32) (σ : hg_M) : Prop := ((x1 ≠ (125 : Int32) → bM_X6_read_69 P J30 x1 σ) ∧ (x1 = (125 : Int32) → (((σ 0 18) ≤ 0 → bM_X6_read_69 P J30 x1 σ) ∧ (¬ (σ 0 18) ≤ 0 → wM_X6_closeSide σ (fun σ8 => bM_X6_read_74 P J30 σ8)))))
def lM_X6_read_30 (P : Int32 → hg_M → Prop)  : Nat → Int32 → hg_M → Prop
  | 0, _, _ => False
  | n + 1, x1, σ => (((σ 0 6) ≠ 0 → bM_X6_read_93 P σ) ∧ ((σ 0 6) = 0 → ((x1 ≠ (-1 : Int32) → bM_X6_read_49 P (fun k0 k1 => lM_X6_read_30 P n k0 k1) x1 σ) ∧ (x1 = (-1 : Int32) → (((σ 0 18) ≤ 0 → bM_X6_read_93 P σ) ∧ (¬ (σ 0 18) ≤ 0 → bM_X6_read_49 P (fun k0 k1 => lM_X6_read_30 P n k0 k1) x1 σ))))))
def wM_X6_read  (σ : hg_M) (P : Int32 → hg_M → Prop) : Prop := ∀ σ1 : hg_M, σ1 = hg_set σ 0 0 (0 : Int32) → ∀ σ2 : hg_M, σ2 = hg_set σ1 0 6 (0 : Int32) → ∀ σ3 : hg_M, σ3 = hg_set σ2 0 5 (0 : Int32) → ∀ σ4 : hg_M, σ4 = hg_set σ3 0 8 (0 : Int32) → ∀ σ5 : hg_M, σ5 = hg_set σ4 0 18 (0 : Int32) → wM_X6_next σ5 (fun r7 σ6 => (∃ f9, lM_X6_read_30 P f9 r7 σ6))
set_option maxRecDepth 4000 in
theorem tlM_X6_read_149 {d : Nat} {E : hg_Et} {X : hg_X} {P : Int32 → hg_M → Prop}  (hC : hg_C hg_FM 3 (d + 6) E cX6_read RX6 X) (hR : hg_Rni hg_FM (some .int) hg_rM P X)  (n : Nat) : ∀ (x2 : Int32) (σ : hg_M), lM_X6_read_149 P n x2 σ → hg_G hg_FM 3 X 149 [(0, .ref (hg_ad X 0)), (2, .int x2)] [] σ hg_rM := by
  induction n with
  | zero =>
    intro x2 σ hw
    rw [lM_X6_read_149] at hw
    exact hw.elim
  | succ n ih =>
    intro x2 σ hw
    rw [lM_X6_read_149] at hw
    refine hg_iload_n hC dX6_read_149 rfl 1 rfl (n := 150) rfl ?_
    refine hg_bipush hC dX6_read_150 hl_b60 (n := 152) rfl ?_
    refine hg_icmp_ge hC dX6_read_152 (tg := 192) rfl (n := 155) rfl (fun h9 => ?_) (fun h9 => ?_)
    · have hw := hw.1 h9
      refine hg_aload_n hC dX6_read_192 rfl 0 rfl (n := 193) rfl ?_
      refine hg_iconst hC dX6_read_193 hl_i0 (n := 194) rfl ?_
      obtain ⟨h9, hw⟩ := hw
      refine hg_puti hC fp_RX6_195 dX6_read_194 qM_0 kM_0 fM_6_22 (hg_nz h9) (hg_fz h9) (n := 197) rfl (fun σ16 eσ16 => ?_)
      have hw := hw σ16 eσ16
      refine hg_aload_n hC dX6_read_197 rfl 0 rfl (n := 198) rfl ?_
      refine hg_iconst hC dX6_read_198 hl_i0 (n := 199) rfl ?_
      refine hg_puti hC fp_RX6_199 dX6_read_199 qM_0 kM_0 fM_6_20 rfl rfl (n := 202) rfl (fun σ17 eσ17 => ?_)
      have hw := hw σ17 eσ17
      refine hg_aload_n hC dX6_read_202 rfl 0 rfl (n := 203) rfl ?_
      refine hg_bipush hC dX6_read_203 hl_b16 (n := 205) rfl ?_
      refine hg_puti hC fp_RX6_47 dX6_read_205 qM_0 kM_0 fM_6_21 rfl rfl (n := 208) rfl (fun σ18 eσ18 => ?_)
      have hw := hw σ18 eσ18
      refine hg_aload_n hC dX6_read_208 rfl 0 rfl (n := 209) rfl ?_
      refine hg_geti hC fl_RX6_192 dX6_read_209 qM_0 kM_0 fM_6_9 (n := 212) rfl ?_
      exact hg_reti hC hR dX6_read_212 hw
    · have hw := hw.2 h9
      refine hg_aload_n hC dX6_read_155 rfl 0 rfl (n := 156) rfl ?_
      refine hg_getr hC fl_RX6_31 dX6_read_156 qM_0 kM_0 fM_6_14 rM_0_14 (n := 159) rfl ?_
      refine hg_iload_n hC dX6_read_159 rfl 1 rfl (n := 160) rfl ?_
      refine hg_aload_n hC dX6_read_160 rfl 0 rfl (n := 161) rfl ?_
      refine hg_getr hC fl_RX6_25 dX6_read_161 qM_0 kM_0 fM_6_12 rM_0_12 (n := 164) rfl ?_
      refine hg_iload_n hC dX6_read_164 rfl 1 rfl (n := 165) rfl ?_
      obtain ⟨h9, hw⟩ := hw
      refine hg_iald hC dX6_read_165 qM_6 kM_6 h9 (n := 166) rfl ?_
      obtain ⟨h9, hw⟩ := hw
      refine hg_iast hC dX6_read_166 qM_8 kM_8 h9 (n := 167) rfl (fun σ19 eσ19 => ?_)
      have hw := hw σ19 eσ19
      refine hg_aload_n hC dX6_read_167 rfl 0 rfl (n := 168) rfl ?_
      refine hg_getr hC fl_RX6_34 dX6_read_168 qM_0 kM_0 fM_6_15 rM_0_15 (n := 171) rfl ?_
      refine hg_iload_n hC dX6_read_171 rfl 1 rfl (n := 172) rfl ?_
      refine hg_aload_n hC dX6_read_172 rfl 0 rfl (n := 173) rfl ?_
      refine hg_getr hC fl_RX6_28 dX6_read_173 qM_0 kM_0 fM_6_13 rM_0_13 (n := 176) rfl ?_
      refine hg_iload_n hC dX6_read_176 rfl 1 rfl (n := 177) rfl ?_
      obtain ⟨h9, hw⟩ := hw
      refine hg_iald hC dX6_read_177 qM_7 kM_7 h9 (n := 178) rfl ?_
      obtain ⟨h9, hw⟩ := hw
      refine hg_iast hC dX6_read_178 qM_9 kM_9 h9 (n := 179) rfl (fun σ20 eσ20 => ?_)
      have hw := hw σ20 eσ20
      refine hg_aload_n hC dX6_read_179 rfl 0 rfl (n := 180) rfl ?_
      refine hg_getr hC fl_RX6_51 dX6_read_180 qM_0 kM_0 fM_6_23 rM_0_23 (n := 183) rfl ?_
      refine hg_iload_n hC dX6_read_183 rfl 1 rfl (n := 184) rfl ?_
      refine hg_iconst hC dX6_read_184 hl_i0 (n := 185) rfl ?_
      obtain ⟨h9, hw⟩ := hw
      refine hg_zast hC dX6_read_185 qM_13 kM_13 h9 (n := 186) rfl (fun σ21 eσ21 => ?_)
      have hw := hw σ21 eσ21
      obtain ⟨v22, ev22⟩ : ∃ z, z = x2 + (1 : Int32) := ⟨_, rfl⟩
      have hw := hw v22 ev22
      refine hg_iinc hC (v := v22) (L1 := [(2, .int v22), (0, .ref (hg_ad X 0))]) dX6_read_186 1 rfl (by rw [hl_i1, ev22]) (by decide) rfl (n := 189) rfl ?_
      refine hg_goto hC dX6_read_189 (tg := 149) rfl ?_
      exact hg_sub [1, 0] rfl (ih v22 σ21 hw)
set_option maxRecDepth 4000 in
theorem tlM_X6_read_122 {d : Nat} {E : hg_Et} {X : hg_X} {P : Int32 → hg_M → Prop}  (hC : hg_C hg_FM 3 (d + 6) E cX6_read RX6 X) (hR : hg_Rni hg_FM (some .int) hg_rM P X)  (n : Nat) : ∀ (x2 : Int32) (σ : hg_M), lM_X6_read_122 P n x2 σ → hg_G hg_FM 3 X 122 [(0, .ref (hg_ad X 0)), (2, .int x2)] [] σ hg_rM := by
  induction n with
  | zero =>
    intro x2 σ hw
    rw [lM_X6_read_122] at hw
    exact hw.elim
  | succ n ih =>
    intro x2 σ hw
    rw [lM_X6_read_122] at hw
    refine hg_iload_n hC dX6_read_122 rfl 1 rfl (n := 123) rfl ?_
    refine hg_sipush hC dX6_read_123 hl_s540 (n := 126) rfl ?_
    refine hg_icmp_ge hC dX6_read_126 (tg := 147) rfl (n := 129) rfl (fun h9 => ?_) (fun h9 => ?_)
    · have hw := hw.1 h9
      refine hg_iconst hC dX6_read_147 hl_i0 (n := 148) rfl ?_
      refine hg_istore_n hC (L1 := [(2, .int (0 : Int32)), (0, .ref (hg_ad X 0))]) dX6_read_148 rfl (by decide) rfl (n := 149) rfl ?_
      obtain ⟨n9, hw⟩ := hw
      exact hg_sub [1, 0] rfl (tlM_X6_read_149 hC hR  n9 (0 : Int32) σ hw)
    · have hw := hw.2 h9
      refine hg_aload_n hC dX6_read_129 rfl 0 rfl (n := 130) rfl ?_
      refine hg_getr hC fl_RX6_22 dX6_read_130 qM_0 kM_0 fM_6_11 rM_0_11 (n := 133) rfl ?_
      refine hg_iload_n hC dX6_read_133 rfl 1 rfl (n := 134) rfl ?_
      refine hg_aload_n hC dX6_read_134 rfl 0 rfl (n := 135) rfl ?_
      refine hg_getr hC fl_RX6_19 dX6_read_135 qM_0 kM_0 fM_6_10 rM_0_10 (n := 138) rfl ?_
      refine hg_iload_n hC dX6_read_138 rfl 1 rfl (n := 139) rfl ?_
      obtain ⟨h9, hw⟩ := hw
      refine hg_iald hC dX6_read_139 qM_4 kM_4 h9 (n := 140) rfl ?_
      obtain ⟨h9, hw⟩ := hw
      refine hg_iast hC dX6_read_140 qM_5 kM_5 h9 (n := 141) rfl (fun σ14 eσ14 => ?_)
      have hw := hw σ14 eσ14
      obtain ⟨v15, ev15⟩ : ∃ z, z = x2 + (1 : Int32) := ⟨_, rfl⟩
      have hw := hw v15 ev15
      refine hg_iinc hC (v := v15) (L1 := [(2, .int v15), (0, .ref (hg_ad X 0))]) dX6_read_141 1 rfl (by rw [hl_i1, ev15]) (by decide) rfl (n := 144) rfl ?_
      refine hg_goto hC dX6_read_144 (tg := 122) rfl ?_
      exact hg_sub [1, 0] rfl (ih v15 σ14 hw)
set_option maxRecDepth 4000 in
theorem tbM_X6_read_93 {d : Nat} {E : hg_Et} {X : hg_X} {P : Int32 → hg_M → Prop}  (hC : hg_C hg_FM 3 (d + 6) E cX6_read RX6 X) (hR : hg_Rni hg_FM (some .int) hg_rM P X)   (σ : hg_M) (hw : bM_X6_read_93 P  σ) : hg_G hg_FM 3 X 93 [(0, .ref (hg_ad X 0))] [] σ hg_rM := by
  unfold bM_X6_read_93 at hw
  refine hg_aload_n hC dX6_read_93 rfl 0 rfl (n := 94) rfl ?_
  refine hg_iconst hC dX6_read_94 hl_i0 (n := 95) rfl ?_
  refine hg_puti hC fp_RX6_119 dX6_read_95 qM_0 kM_0 fM_6_4 rfl rfl (n := 98) rfl (fun σ12 eσ12 => ?_)
  have hw := hw σ12 eσ12
  refine hg_aload_n hC dX6_read_98 rfl 0 rfl (n := 99) rfl ?_
  refine hg_geti hC fl_RX6_124 dX6_read_99 qM_0 kM_0 fM_6_6 (n := 102) rfl ?_
  refine hg_if_le hC dX6_read_102 (tg := 112) rfl (n := 105) rfl (fun h9 => ?_) (fun h9 => ?_)
  · have hw := hw.1 h9
    refine hg_aload_n hC dX6_read_112 rfl 0 rfl (n := 113) rfl ?_
    refine hg_aload_n hC dX6_read_113 rfl 0 rfl (n := 114) rfl ?_
    refine hg_geti hC fl_RX6_174 dX6_read_114 qM_0 kM_0 fM_6_8 (n := 117) rfl ?_
    refine hg_puti hC fp_RX6_192 dX6_read_117 qM_0 kM_0 fM_6_9 rfl rfl (n := 120) rfl (fun σ13 eσ13 => ?_)
    have hw := hw σ13 eσ13
    refine hg_iconst hC dX6_read_120 hl_i0 (n := 121) rfl ?_
    refine hg_istore_n hC (L1 := [(2, .int (0 : Int32)), (0, .ref (hg_ad X 0))]) dX6_read_121 rfl (by decide) rfl (n := 122) rfl ?_
    obtain ⟨n9, hw⟩ := hw
    exact hg_sub [1, 0] rfl (tlM_X6_read_122 hC hR  n9 (0 : Int32) σ13 hw)
  · have hw := hw.2 h9
    refine hg_iconst hC dX6_read_105 hl_im1 (n := 106) rfl ?_
    refine hg_aload_n hC dX6_read_106 rfl 0 rfl (n := 107) rfl ?_
    refine hg_geti hC fl_RX6_127 dX6_read_107 qM_0 kM_0 fM_6_7 (n := 110) rfl ?_
    refine hg_isub hC dX6_read_110 (n := 111) rfl ?_
    exact hg_reti hC hR dX6_read_111 hw
set_option maxRecDepth 4000 in
theorem tbM_X6_read_89 {d : Nat} {E : hg_Et} {X : hg_X} {P : Int32 → hg_M → Prop} {J30 : Int32 → hg_M → Prop} (hC : hg_C hg_FM 3 (d + 6) E cX6_read RX6 X) (hR : hg_Rni hg_FM (some .int) hg_rM P X) (hJ30 : ∀ (x1 : Int32) (σ : hg_M), J30 x1 σ → hg_G hg_FM 3 X 30 [(0, .ref (hg_ad X 0)), (1, .int x1)] [] σ hg_rM) (t0 : Int32) (σ : hg_M) (hw : bM_X6_read_89 P J30 t0 σ) : hg_G hg_FM 3 X 89 [(0, .ref (hg_ad X 0))] [.int t0] σ hg_rM := by
  unfold bM_X6_read_89 at hw
  refine hg_istore_n hC (L1 := [(1, .int t0), (0, .ref (hg_ad X 0))]) dX6_read_89 rfl (by decide) rfl (n := 90) rfl ?_
  refine hg_goto hC dX6_read_90 (tg := 30) rfl ?_
  exact hg_sub [1, 0] rfl (hJ30 t0 σ hw)
set_option maxRecDepth 4000 in
theorem tbM_X6_read_74 {d : Nat} {E : hg_Et} {X : hg_X} {P : Int32 → hg_M → Prop} {J30 : Int32 → hg_M → Prop} (hC : hg_C hg_FM 3 (d + 6) E cX6_read RX6 X) (hR : hg_Rni hg_FM (some .int) hg_rM P X) (hJ30 : ∀ (x1 : Int32) (σ : hg_M), J30 x1 σ → hg_G hg_FM 3 X 30 [(0, .ref (hg_ad X 0)), (1, .int x1)] [] σ hg_rM)  (σ : hg_M) (hw : bM_X6_read_74 P J30  σ) : hg_G hg_FM 3 X 74 [(0, .ref (hg_ad X 0))] [] σ hg_rM := by
  unfold bM_X6_read_74 at hw
  refine hg_aload_n hC dX6_read_74 rfl 0 rfl (n := 75) rfl ?_
  refine hg_geti hC fl_RX6_124 dX6_read_75 qM_0 kM_0 fM_6_6 (n := 78) rfl ?_
  refine hg_if_le hC dX6_read_78 (tg := 85) rfl (n := 81) rfl (fun h9 => ?_) (fun h9 => ?_)
  · have hw := hw.1 h9
    refine hg_aload_n hC dX6_read_85 rfl 0 rfl (n := 86) rfl ?_
    refine hg_cVi hC (tM_X6_next (hg_Eof hC) X.2.1 (d + 4) _ _ hw) sv_RX6_133 dX6_read_86 qM_0 kM_0 c_6 rfl (rest := []) rfl (Nat.le_of_ble_eq_true rfl) (n := 89) rfl (fun r10 σ9 hw => ?_)
    exact tbM_X6_read_89 hC hR hJ30 r10 σ9 hw
  · have hw := hw.2 h9
    refine hg_iconst hC dX6_read_81 hl_im1 (n := 82) rfl ?_
    refine hg_goto hC dX6_read_82 (tg := 89) rfl ?_
    exact tbM_X6_read_89 hC hR hJ30 (-1 : Int32) σ hw
set_option maxRecDepth 4000 in
theorem tbM_X6_read_69 {d : Nat} {E : hg_Et} {X : hg_X} {P : Int32 → hg_M → Prop} {J30 : Int32 → hg_M → Prop} (hC : hg_C hg_FM 3 (d + 6) E cX6_read RX6 X) (hR : hg_Rni hg_FM (some .int) hg_rM P X) (hJ30 : ∀ (x1 : Int32) (σ : hg_M), J30 x1 σ → hg_G hg_FM 3 X 30 [(0, .ref (hg_ad X 0)), (1, .int x1)] [] σ hg_rM) (x1 : Int32) (σ : hg_M) (hw : bM_X6_read_69 P J30 x1 σ) : hg_G hg_FM 3 X 69 [(0, .ref (hg_ad X 0)), (1, .int x1)] [] σ hg_rM := by
  unfold bM_X6_read_69 at hw
  refine hg_aload_n hC dX6_read_69 rfl 0 rfl (n := 70) rfl ?_
  refine hg_iload_n hC dX6_read_70 rfl 1 rfl (n := 71) rfl ?_
  refine hg_cVv hC (tM_X6_readStatement (hg_Eof hC) X.2.1 (d + 0) _ _ _ hw) sv_RX6_189 dX6_read_71 qM_0 kM_0 c_6 rfl (rest := []) rfl (Nat.le_of_ble_eq_true rfl) (n := 74) rfl (fun σ11 hw => ?_)
  exact hg_sub [0] rfl (tbM_X6_read_74 hC hR hJ30 σ11 hw)
set_option maxRecDepth 4000 in
theorem tbM_X6_read_49 {d : Nat} {E : hg_Et} {X : hg_X} {P : Int32 → hg_M → Prop} {J30 : Int32 → hg_M → Prop} (hC : hg_C hg_FM 3 (d + 6) E cX6_read RX6 X) (hR : hg_Rni hg_FM (some .int) hg_rM P X) (hJ30 : ∀ (x1 : Int32) (σ : hg_M), J30 x1 σ → hg_G hg_FM 3 X 30 [(0, .ref (hg_ad X 0)), (1, .int x1)] [] σ hg_rM) (x1 : Int32) (σ : hg_M) (hw : bM_X6_read_49 P J30 x1 σ) : hg_G hg_FM 3 X 49 [(0, .ref (hg_ad X 0)), (1, .int x1)] [] σ hg_rM := by
  unfold bM_X6_read_49 at hw
  refine hg_iload_n hC dX6_read_49 rfl 1 rfl (n := 50) rfl ?_
  refine hg_bipush hC dX6_read_50 hl_b125 (n := 52) rfl ?_
  refine hg_icmp_ne hC dX6_read_52 (tg := 69) rfl (n := 55) rfl (fun h9 => ?_) (fun h9 => ?_)
  · have hw := hw.1 h9
    exact tbM_X6_read_69 hC hR hJ30 x1 σ hw
  · have hw := hw.2 h9
    refine hg_aload_n hC dX6_read_55 rfl 0 rfl (n := 56) rfl ?_
    refine hg_geti hC fl_RX6_177 dX6_read_56 qM_0 kM_0 fM_6_18 (n := 59) rfl ?_
    refine hg_if_le hC dX6_read_59 (tg := 69) rfl (n := 62) rfl (fun h9 => ?_) (fun h9 => ?_)
    · have hw := hw.1 h9
      exact tbM_X6_read_69 hC hR hJ30 x1 σ hw
    · have hw := hw.2 h9
      refine hg_aload_n hC dX6_read_62 rfl 0 rfl (n := 63) rfl ?_
      refine hg_cVv hC (tM_X6_closeSide (hg_Eof hC) X.2.1 (d + 3) _ _ hw) sv_RX6_186 dX6_read_63 qM_0 kM_0 c_6 rfl (rest := []) rfl (Nat.le_of_ble_eq_true rfl) (n := 66) rfl (fun σ8 hw => ?_)
      refine hg_goto hC dX6_read_66 (tg := 74) rfl ?_
      exact hg_sub [0] rfl (tbM_X6_read_74 hC hR hJ30 σ8 hw)
set_option maxRecDepth 4000 in
theorem tlM_X6_read_30 {d : Nat} {E : hg_Et} {X : hg_X} {P : Int32 → hg_M → Prop}  (hC : hg_C hg_FM 3 (d + 6) E cX6_read RX6 X) (hR : hg_Rni hg_FM (some .int) hg_rM P X)  (n : Nat) : ∀ (x1 : Int32) (σ : hg_M), lM_X6_read_30 P n x1 σ → hg_G hg_FM 3 X 30 [(0, .ref (hg_ad X 0)), (1, .int x1)] [] σ hg_rM := by
  induction n with
  | zero =>
    intro x1 σ hw
    rw [lM_X6_read_30] at hw
    exact hw.elim
  | succ n ih =>
    intro x1 σ hw
    rw [lM_X6_read_30] at hw
    refine hg_aload_n hC dX6_read_30 rfl 0 rfl (n := 31) rfl ?_
    refine hg_geti hC fl_RX6_124 dX6_read_31 qM_0 kM_0 fM_6_6 (n := 34) rfl ?_
    refine hg_if_ne hC dX6_read_34 (tg := 93) rfl (n := 37) rfl (fun h9 => ?_) (fun h9 => ?_)
    · have hw := hw.1 h9
      exact hg_sub [0] rfl (tbM_X6_read_93 hC hR  σ hw)
    · have hw := hw.2 h9
      refine hg_iload_n hC dX6_read_37 rfl 1 rfl (n := 38) rfl ?_
      refine hg_iconst hC dX6_read_38 hl_im1 (n := 39) rfl ?_
      refine hg_icmp_ne hC dX6_read_39 (tg := 49) rfl (n := 42) rfl (fun h9 => ?_) (fun h9 => ?_)
      · have hw := hw.1 h9
        exact tbM_X6_read_49 hC hR ih x1 σ hw
      · have hw := hw.2 h9
        refine hg_aload_n hC dX6_read_42 rfl 0 rfl (n := 43) rfl ?_
        refine hg_geti hC fl_RX6_177 dX6_read_43 qM_0 kM_0 fM_6_18 (n := 46) rfl ?_
        refine hg_if_le hC dX6_read_46 (tg := 93) rfl (n := 49) rfl (fun h9 => ?_) (fun h9 => ?_)
        · have hw := hw.1 h9
          exact hg_sub [0] rfl (tbM_X6_read_93 hC hR  σ hw)
        · have hw := hw.2 h9
          exact tbM_X6_read_49 hC hR ih x1 σ hw
set_option maxRecDepth 4000 in
theorem tM_X6_read {E : hg_Et} (hE : hg_Eok E) (l : Launch) (d : Nat)  (σ : hg_M) (P : Int32 → hg_M → Prop) (hw : wM_X6_read  σ P) : hg_Ni hg_FM E l yX6_read cX6_read 3 (some .int) (d + 6) (fun ad => [.ref (ad 0)]) hg_rM σ P := by
  refine hg_ni hE (by decide) (fun _ => Nat.le_of_ble_eq_true rfl) (fun X hC hR hl => ?_)
  subst hl
  have hC : hg_C hg_FM 3 (d + 6) E cX6_read RX6 X := hC
  show hg_G hg_FM 3 X 0 [(0, .ref (hg_ad X 0))] [] σ hg_rM
  unfold wM_X6_read at hw
  refine hg_aload_n hC dX6_read_0 rfl 0 rfl (n := 1) rfl ?_
  refine hg_iconst hC dX6_read_1 hl_i0 (n := 2) rfl ?_
  refine hg_puti hC fp_RX6_102 dX6_read_2 qM_0 kM_0 fM_6_0 rfl rfl (n := 5) rfl (fun σ1 eσ1 => ?_)
  have hw := hw σ1 eσ1
  refine hg_aload_n hC dX6_read_5 rfl 0 rfl (n := 6) rfl ?_
  refine hg_iconst hC dX6_read_6 hl_i0 (n := 7) rfl ?_
  refine hg_puti hC fp_RX6_124 dX6_read_7 qM_0 kM_0 fM_6_6 rfl rfl (n := 10) rfl (fun σ2 eσ2 => ?_)
  have hw := hw σ2 eσ2
  refine hg_aload_n hC dX6_read_10 rfl 0 rfl (n := 11) rfl ?_
  refine hg_iconst hC dX6_read_11 hl_i0 (n := 12) rfl ?_
  refine hg_puti hC fp_RX6_130 dX6_read_12 qM_0 kM_0 fM_6_5 rfl rfl (n := 15) rfl (fun σ3 eσ3 => ?_)
  have hw := hw σ3 eσ3
  refine hg_aload_n hC dX6_read_15 rfl 0 rfl (n := 16) rfl ?_
  refine hg_iconst hC dX6_read_16 hl_i0 (n := 17) rfl ?_
  refine hg_puti hC fp_RX6_174 dX6_read_17 qM_0 kM_0 fM_6_8 rfl rfl (n := 20) rfl (fun σ4 eσ4 => ?_)
  have hw := hw σ4 eσ4
  refine hg_aload_n hC dX6_read_20 rfl 0 rfl (n := 21) rfl ?_
  refine hg_iconst hC dX6_read_21 hl_i0 (n := 22) rfl ?_
  refine hg_puti hC fp_RX6_177 dX6_read_22 qM_0 kM_0 fM_6_18 rfl rfl (n := 25) rfl (fun σ5 eσ5 => ?_)
  have hw := hw σ5 eσ5
  refine hg_aload_n hC dX6_read_25 rfl 0 rfl (n := 26) rfl ?_
  refine hg_cVi hC (tM_X6_next (hg_Eof hC) X.2.1 (d + 4) _ _ hw) sv_RX6_133 dX6_read_26 qM_0 kM_0 c_6 rfl (rest := []) rfl (Nat.le_of_ble_eq_true rfl) (n := 29) rfl (fun r7 σ6 hw => ?_)
  refine hg_istore_n hC (L1 := [(1, .int r7), (0, .ref (hg_ad X 0))]) dX6_read_29 rfl (by decide) rfl (n := 30) rfl ?_
  obtain ⟨n9, hw⟩ := hw
  exact hg_sub [1, 0] rfl (tlM_X6_read_30 hC hR  n9 r7 σ6 hw)
def wM_X6_fault  (σ : hg_M) (P : Int32 → hg_M → Prop) : Prop := ∀ σ1 : hg_M, σ1 = hg_set σ 0 0 (0 : Int32) → P (σ1 0 6) σ1
set_option maxRecDepth 4000 in
theorem tM_X6_fault {E : hg_Et} (hE : hg_Eok E) (l : Launch) (d : Nat)  (σ : hg_M) (P : Int32 → hg_M → Prop) (hw : wM_X6_fault  σ P) : hg_Ni hg_FM E l yX6_fault cX6_fault 1 (some .int) (d + 1) (fun ad => [.ref (ad 0)]) hg_rM σ P := by
  refine hg_ni hE (by decide) (fun _ => Nat.le_of_ble_eq_true rfl) (fun X hC hR hl => ?_)
  subst hl
  have hC : hg_C hg_FM 1 (d + 1) E cX6_fault RX6 X := hC
  show hg_G hg_FM 1 X 0 [(0, .ref (hg_ad X 0))] [] σ hg_rM
  unfold wM_X6_fault at hw
  refine hg_aload_n hC dX6_fault_0 rfl 0 rfl (n := 1) rfl ?_
  refine hg_iconst hC dX6_fault_1 hl_i0 (n := 2) rfl ?_
  refine hg_puti hC fp_RX6_102 dX6_fault_2 qM_0 kM_0 fM_6_0 rfl rfl (n := 5) rfl (fun σ1 eσ1 => ?_)
  have hw := hw σ1 eσ1
  refine hg_aload_n hC dX6_fault_5 rfl 0 rfl (n := 6) rfl ?_
  refine hg_geti hC fl_RX6_124 dX6_fault_6 qM_0 kM_0 fM_6_6 (n := 9) rfl ?_
  exact hg_reti hC hR dX6_fault_9 hw
def wM_X6_of (x1 : Int32) (x2 : Int32) (σ : hg_M) (P : Int32 → hg_M → Prop) : Prop := vp_in (((9 : Int32) * x1) + x2) 540 ∧ (P (σ 5 ((((9 : Int32) * x1) + x2)).toNatClampNeg) σ)
set_option maxRecDepth 4000 in
theorem tM_X6_of {E : hg_Et} (hE : hg_Eok E) (l : Launch) (d : Nat) (x1 : Int32) (x2 : Int32) (σ : hg_M) (P : Int32 → hg_M → Prop) (hw : wM_X6_of x1 x2 σ P) : hg_Ni hg_FM E l yX6_of cX6_of 3 (some .int) (d + 1) (fun ad => [.ref (ad 0), .int x1, .int x2]) hg_rM σ P := by
  refine hg_ni hE (by decide) (fun _ => Nat.le_of_ble_eq_true rfl) (fun X hC hR hl => ?_)
  subst hl
  have hC : hg_C hg_FM 3 (d + 1) E cX6_of RX6 X := hC
  show hg_G hg_FM 3 X 0 [(0, .ref (hg_ad X 0)), (1, .int x1), (2, .int x2)] [] σ hg_rM
  unfold wM_X6_of at hw
  refine hg_aload_n hC dX6_of_0 rfl 0 rfl (n := 1) rfl ?_
  refine hg_getr hC fl_RX6_22 dX6_of_1 qM_0 kM_0 fM_6_11 rM_0_11 (n := 4) rfl ?_
  refine hg_bipush hC dX6_of_4 hl_b9 (n := 6) rfl ?_
  refine hg_iload_n hC dX6_of_6 rfl 1 rfl (n := 7) rfl ?_
  refine hg_imul hC dX6_of_7 (n := 8) rfl ?_
  refine hg_iload_n hC dX6_of_8 rfl 2 rfl (n := 9) rfl ?_
  refine hg_iadd hC dX6_of_9 (n := 10) rfl ?_
  obtain ⟨h9, hw⟩ := hw
  refine hg_iald hC dX6_of_10 qM_5 kM_5 h9 (n := 11) rfl ?_
  exact hg_reti hC hR dX6_of_11 hw
def wM_X6_emit (x1 : Int32) (x2 : Int32) (x3 : Int32) (x4 : Int32) (x5 : Int32) (σ : hg_M) (P : Int32 → hg_M → Prop) : Prop := ∀ v1 : Int32, v1 = ((6 : Int32) * (σ 0 20)) → vp_in v1 24000 ∧ (∀ σ2 : hg_M, σ2 = hg_set σ 12 (v1).toNatClampNeg x1 → vp_in (v1 + (1 : Int32)) 24000 ∧ (∀ σ3 : hg_M, σ3 = hg_set σ2 12 ((v1 + (1 : Int32))).toNatClampNeg x2 → vp_in (v1 + (2 : Int32)) 24000 ∧ (∀ σ4 : hg_M, σ4 = hg_set σ3 12 ((v1 + (2 : Int32))).toNatClampNeg x3 → vp_in (v1 + (3 : Int32)) 24000 ∧ (∀ σ5 : hg_M, σ5 = hg_set σ4 12 ((v1 + (3 : Int32))).toNatClampNeg x4 → vp_in (v1 + (4 : Int32)) 24000 ∧ (∀ σ6 : hg_M, σ6 = hg_set σ5 12 ((v1 + (4 : Int32))).toNatClampNeg x5 → vp_in (v1 + (5 : Int32)) 24000 ∧ (∀ σ7 : hg_M, σ7 = hg_set σ6 12 ((v1 + (5 : Int32))).toNatClampNeg (σ6 0 24) → ∀ σ8 : hg_M, σ8 = hg_set σ7 0 20 ((σ7 0 20) + (1 : Int32)) → P ((σ8 0 20) - (1 : Int32)) σ8))))))
set_option maxRecDepth 4000 in
theorem tM_X6_emit {E : hg_Et} (hE : hg_Eok E) (l : Launch) (d : Nat) (x1 : Int32) (x2 : Int32) (x3 : Int32) (x4 : Int32) (x5 : Int32) (σ : hg_M) (P : Int32 → hg_M → Prop) (hw : wM_X6_emit x1 x2 x3 x4 x5 σ P) : hg_Ni hg_FM E l yX6_emit cX6_emit 7 (some .int) (d + 1) (fun ad => [.ref (ad 0), .int x1, .int x2, .int x3, .int x4, .int x5]) hg_rM σ P := by
  refine hg_ni hE (by decide) (fun _ => Nat.le_of_ble_eq_true rfl) (fun X hC hR hl => ?_)
  subst hl
  have hC : hg_C hg_FM 7 (d + 1) E cX6_emit RX6 X := hC
  show hg_G hg_FM 7 X 0 [(0, .ref (hg_ad X 0)), (1, .int x1), (2, .int x2), (3, .int x3), (4, .int x4), (5, .int x5)] [] σ hg_rM
  unfold wM_X6_emit at hw
  refine hg_bipush hC dX6_emit_0 hl_b6 (n := 2) rfl ?_
  refine hg_aload_n hC dX6_emit_2 rfl 0 rfl (n := 3) rfl ?_
  refine hg_geti hC fl_RX6_199 dX6_emit_3 qM_0 kM_0 fM_6_20 (n := 6) rfl ?_
  refine hg_imul hC dX6_emit_6 (n := 7) rfl ?_
  refine hg_topi (fun v1 ev1 => ?_)
  have hw := hw v1 ev1
  refine hg_istore hC (L1 := [(6, .int v1), (0, .ref (hg_ad X 0)), (1, .int x1), (2, .int x2), (3, .int x3), (4, .int x4), (5, .int x5)]) dX6_emit_7 (by decide) rfl (n := 9) rfl ?_
  refine hg_aload_n hC dX6_emit_9 rfl 1 rfl (n := 10) rfl ?_
  refine hg_getr hC fl_RX6_44 dX6_emit_10 qM_0 kM_0 fM_6_19 rM_0_19 (n := 13) rfl ?_
  refine hg_iload hC dX6_emit_13 0 rfl (n := 15) rfl ?_
  refine hg_iload_n hC dX6_emit_15 rfl 2 rfl (n := 16) rfl ?_
  obtain ⟨h9, hw⟩ := hw
  refine hg_iast hC dX6_emit_16 qM_12 kM_12 h9 (n := 17) rfl (fun σ2 eσ2 => ?_)
  have hw := hw σ2 eσ2
  refine hg_aload_n hC dX6_emit_17 rfl 1 rfl (n := 18) rfl ?_
  refine hg_getr hC fl_RX6_44 dX6_emit_18 qM_0 kM_0 fM_6_19 rM_0_19 (n := 21) rfl ?_
  refine hg_iload hC dX6_emit_21 0 rfl (n := 23) rfl ?_
  refine hg_iconst hC dX6_emit_23 hl_i1 (n := 24) rfl ?_
  refine hg_iadd hC dX6_emit_24 (n := 25) rfl ?_
  refine hg_iload_n hC dX6_emit_25 rfl 3 rfl (n := 26) rfl ?_
  obtain ⟨h9, hw⟩ := hw
  refine hg_iast hC dX6_emit_26 qM_12 kM_12 h9 (n := 27) rfl (fun σ3 eσ3 => ?_)
  have hw := hw σ3 eσ3
  refine hg_aload_n hC dX6_emit_27 rfl 1 rfl (n := 28) rfl ?_
  refine hg_getr hC fl_RX6_44 dX6_emit_28 qM_0 kM_0 fM_6_19 rM_0_19 (n := 31) rfl ?_
  refine hg_iload hC dX6_emit_31 0 rfl (n := 33) rfl ?_
  refine hg_iconst hC dX6_emit_33 hl_i2 (n := 34) rfl ?_
  refine hg_iadd hC dX6_emit_34 (n := 35) rfl ?_
  refine hg_iload_n hC dX6_emit_35 rfl 4 rfl (n := 36) rfl ?_
  obtain ⟨h9, hw⟩ := hw
  refine hg_iast hC dX6_emit_36 qM_12 kM_12 h9 (n := 37) rfl (fun σ4 eσ4 => ?_)
  have hw := hw σ4 eσ4
  refine hg_aload_n hC dX6_emit_37 rfl 1 rfl (n := 38) rfl ?_
  refine hg_getr hC fl_RX6_44 dX6_emit_38 qM_0 kM_0 fM_6_19 rM_0_19 (n := 41) rfl ?_
  refine hg_iload hC dX6_emit_41 0 rfl (n := 43) rfl ?_
  refine hg_iconst hC dX6_emit_43 hl_i3 (n := 44) rfl ?_
  refine hg_iadd hC dX6_emit_44 (n := 45) rfl ?_
  refine hg_iload hC dX6_emit_45 5 rfl (n := 47) rfl ?_
  obtain ⟨h9, hw⟩ := hw
  refine hg_iast hC dX6_emit_47 qM_12 kM_12 h9 (n := 48) rfl (fun σ5 eσ5 => ?_)
  have hw := hw σ5 eσ5
  refine hg_aload_n hC dX6_emit_48 rfl 1 rfl (n := 49) rfl ?_
  refine hg_getr hC fl_RX6_44 dX6_emit_49 qM_0 kM_0 fM_6_19 rM_0_19 (n := 52) rfl ?_
  refine hg_iload hC dX6_emit_52 0 rfl (n := 54) rfl ?_
  refine hg_iconst hC dX6_emit_54 hl_i4 (n := 55) rfl ?_
  refine hg_iadd hC dX6_emit_55 (n := 56) rfl ?_
  refine hg_iload hC dX6_emit_56 6 rfl (n := 58) rfl ?_
  obtain ⟨h9, hw⟩ := hw
  refine hg_iast hC dX6_emit_58 qM_12 kM_12 h9 (n := 59) rfl (fun σ6 eσ6 => ?_)
  have hw := hw σ6 eσ6
  refine hg_aload_n hC dX6_emit_59 rfl 1 rfl (n := 60) rfl ?_
  refine hg_getr hC fl_RX6_44 dX6_emit_60 qM_0 kM_0 fM_6_19 rM_0_19 (n := 63) rfl ?_
  refine hg_iload hC dX6_emit_63 0 rfl (n := 65) rfl ?_
  refine hg_iconst hC dX6_emit_65 hl_i5 (n := 66) rfl ?_
  refine hg_iadd hC dX6_emit_66 (n := 67) rfl ?_
  refine hg_aload_n hC dX6_emit_67 rfl 1 rfl (n := 68) rfl ?_
  refine hg_geti hC fl_RX6_202 dX6_emit_68 qM_0 kM_0 fM_6_24 (n := 71) rfl ?_
  obtain ⟨h9, hw⟩ := hw
  refine hg_iast hC dX6_emit_71 qM_12 kM_12 h9 (n := 72) rfl (fun σ7 eσ7 => ?_)
  have hw := hw σ7 eσ7
  refine hg_aload_n hC dX6_emit_72 rfl 1 rfl (n := 73) rfl ?_
  refine hg_dup hC dX6_emit_73 rfl (n := 74) rfl ?_
  refine hg_geti hC fl_RX6_199 dX6_emit_74 qM_0 kM_0 fM_6_20 (n := 77) rfl ?_
  refine hg_iconst hC dX6_emit_77 hl_i1 (n := 78) rfl ?_
  refine hg_iadd hC dX6_emit_78 (n := 79) rfl ?_
  refine hg_puti hC fp_RX6_199 dX6_emit_79 qM_0 kM_0 fM_6_20 rfl rfl (n := 82) rfl (fun σ8 eσ8 => ?_)
  have hw := hw σ8 eσ8
  refine hg_aload_n hC dX6_emit_82 rfl 1 rfl (n := 83) rfl ?_
  refine hg_geti hC fl_RX6_199 dX6_emit_83 qM_0 kM_0 fM_6_20 (n := 86) rfl ?_
  refine hg_iconst hC dX6_emit_86 hl_i1 (n := 87) rfl ?_
  refine hg_isub hC dX6_emit_87 (n := 88) rfl ?_
  exact hg_reti hC hR dX6_emit_88 hw
def wM_X6_fresh1  (σ : hg_M) (P : Int32 → hg_M → Prop) : Prop := ∀ σ1 : hg_M, σ1 = hg_set σ 0 21 ((σ 0 21) + (1 : Int32)) → P ((σ1 0 21) - (1 : Int32)) σ1
set_option maxRecDepth 4000 in
theorem tM_X6_fresh1 {E : hg_Et} (hE : hg_Eok E) (l : Launch) (d : Nat)  (σ : hg_M) (P : Int32 → hg_M → Prop) (hw : wM_X6_fresh1  σ P) : hg_Ni hg_FM E l yX6_fresh1 cX6_fresh1 1 (some .int) (d + 1) (fun ad => [.ref (ad 0)]) hg_rM σ P := by
  refine hg_ni hE (by decide) (fun _ => Nat.le_of_ble_eq_true rfl) (fun X hC hR hl => ?_)
  subst hl
  have hC : hg_C hg_FM 1 (d + 1) E cX6_fresh1 RX6 X := hC
  show hg_G hg_FM 1 X 0 [(0, .ref (hg_ad X 0))] [] σ hg_rM
  unfold wM_X6_fresh1 at hw
  refine hg_aload_n hC dX6_fresh1_0 rfl 0 rfl (n := 1) rfl ?_
  refine hg_dup hC dX6_fresh1_1 rfl (n := 2) rfl ?_
  refine hg_geti hC fl_RX6_47 dX6_fresh1_2 qM_0 kM_0 fM_6_21 (n := 5) rfl ?_
  refine hg_iconst hC dX6_fresh1_5 hl_i1 (n := 6) rfl ?_
  refine hg_iadd hC dX6_fresh1_6 (n := 7) rfl ?_
  refine hg_puti hC fp_RX6_47 dX6_fresh1_7 qM_0 kM_0 fM_6_21 rfl rfl (n := 10) rfl (fun σ1 eσ1 => ?_)
  have hw := hw σ1 eσ1
  refine hg_aload_n hC dX6_fresh1_10 rfl 0 rfl (n := 11) rfl ?_
  refine hg_geti hC fl_RX6_47 dX6_fresh1_11 qM_0 kM_0 fM_6_21 (n := 14) rfl ?_
  refine hg_iconst hC dX6_fresh1_14 hl_i1 (n := 15) rfl ?_
  refine hg_isub hC dX6_fresh1_15 (n := 16) rfl ?_
  exact hg_reti hC hR dX6_fresh1_16 hw
def wM_X6_setNew (x1 : Int32) (σ : hg_M) (P : Int32 → hg_M → Prop) : Prop := wM_X6_fresh1 σ (fun r2 σ1 => wM_X6_emit (0 : Int32) r2 x1 (0 : Int32) (0 : Int32) σ1 (fun r4 σ3 => P r2 σ3))
set_option maxRecDepth 4000 in
theorem tM_X6_setNew {E : hg_Et} (hE : hg_Eok E) (l : Launch) (d : Nat) (x1 : Int32) (σ : hg_M) (P : Int32 → hg_M → Prop) (hw : wM_X6_setNew x1 σ P) : hg_Ni hg_FM E l yX6_setNew cX6_setNew 4 (some .int) (d + 2) (fun ad => [.ref (ad 0), .int x1]) hg_rM σ P := by
  refine hg_ni hE (by decide) (fun _ => Nat.le_of_ble_eq_true rfl) (fun X hC hR hl => ?_)
  subst hl
  have hC : hg_C hg_FM 4 (d + 2) E cX6_setNew RX6 X := hC
  show hg_G hg_FM 4 X 0 [(0, .ref (hg_ad X 0)), (1, .int x1)] [] σ hg_rM
  unfold wM_X6_setNew at hw
  refine hg_aload_n hC dX6_setNew_0 rfl 0 rfl (n := 1) rfl ?_
  refine hg_cVi hC (tM_X6_fresh1 (hg_Eof hC) X.2.1 (d + 0) _ _ hw) sv_RX6_205 dX6_setNew_1 qM_0 kM_0 c_6 rfl (rest := []) rfl (Nat.le_of_ble_eq_true rfl) (n := 4) rfl (fun r2 σ1 hw => ?_)
  refine hg_istore_n hC (L1 := [(2, .int r2), (0, .ref (hg_ad X 0)), (1, .int x1)]) dX6_setNew_4 rfl (by decide) rfl (n := 5) rfl ?_
  refine hg_aload_n hC dX6_setNew_5 rfl 1 rfl (n := 6) rfl ?_
  refine hg_iconst hC dX6_setNew_6 hl_i0 (n := 7) rfl ?_
  refine hg_iload_n hC dX6_setNew_7 rfl 0 rfl (n := 8) rfl ?_
  refine hg_iload_n hC dX6_setNew_8 rfl 2 rfl (n := 9) rfl ?_
  refine hg_iconst hC dX6_setNew_9 hl_i0 (n := 10) rfl ?_
  refine hg_iconst hC dX6_setNew_10 hl_i0 (n := 11) rfl ?_
  refine hg_cVi hC (tM_X6_emit (hg_Eof hC) X.2.1 (d + 0) _ _ _ _ _ _ _ hw) sv_RX6_208 dX6_setNew_11 qM_0 kM_0 c_6 rfl (rest := []) rfl (Nat.le_of_ble_eq_true rfl) (n := 14) rfl (fun r4 σ3 hw => ?_)
  refine hg_istore_n hC (L1 := [(3, .int r4), (2, .int r2), (0, .ref (hg_ad X 0)), (1, .int x1)]) dX6_setNew_14 rfl (by decide) rfl (n := 15) rfl ?_
  refine hg_iload_n hC dX6_setNew_15 rfl 1 rfl (n := 16) rfl ?_
  exact hg_reti hC hR dX6_setNew_16 hw
def bM_X6_value_38 (P : Int32 → hg_M → Prop)  (t0 : Int32) (σ : hg_M) : Prop := P t0 σ
def wM_X6_value (x1 : Int32) (x2 : Int32) (σ : hg_M) (P : Int32 → hg_M → Prop) : Prop := wM_X6_of x1 x2 σ (fun r2 σ1 => ((r2 ≠ (1 : Int32) → wM_X6_of x1 (x2 + (1 : Int32)) σ1 (fun r4 σ3 => wM_X6_setNew r4 σ3 (fun r6 σ5 => bM_X6_value_38 P r6 σ5))) ∧ (r2 = (1 : Int32) → wM_X6_of x1 (x2 + (1 : Int32)) σ1 (fun r8 σ7 => vp_in r8 16 ∧ (bM_X6_value_38 P (σ7 14 (r8).toNatClampNeg) σ7)))))
set_option maxRecDepth 4000 in
theorem tbM_X6_value_38 {d : Nat} {E : hg_Et} {X : hg_X} {P : Int32 → hg_M → Prop}  (hC : hg_C hg_FM 3 (d + 3) E cX6_value RX6 X) (hR : hg_Rni hg_FM (some .int) hg_rM P X)  (t0 : Int32) (σ : hg_M) (hw : bM_X6_value_38 P t0 σ) : hg_G hg_FM 3 X 38 [] [.int t0] σ hg_rM := by
  unfold bM_X6_value_38 at hw
  exact hg_reti hC hR dX6_value_38 hw
set_option maxRecDepth 4000 in
theorem tM_X6_value {E : hg_Et} (hE : hg_Eok E) (l : Launch) (d : Nat) (x1 : Int32) (x2 : Int32) (σ : hg_M) (P : Int32 → hg_M → Prop) (hw : wM_X6_value x1 x2 σ P) : hg_Ni hg_FM E l yX6_value cX6_value 3 (some .int) (d + 3) (fun ad => [.ref (ad 0), .int x1, .int x2]) hg_rM σ P := by
  refine hg_ni hE (by decide) (fun _ => Nat.le_of_ble_eq_true rfl) (fun X hC hR hl => ?_)
  subst hl
  have hC : hg_C hg_FM 3 (d + 3) E cX6_value RX6 X := hC
  show hg_G hg_FM 3 X 0 [(0, .ref (hg_ad X 0)), (1, .int x1), (2, .int x2)] [] σ hg_rM
  unfold wM_X6_value at hw
  refine hg_aload_n hC dX6_value_0 rfl 0 rfl (n := 1) rfl ?_
  refine hg_iload_n hC dX6_value_1 rfl 1 rfl (n := 2) rfl ?_
  refine hg_iload_n hC dX6_value_2 rfl 2 rfl (n := 3) rfl ?_
  refine hg_cVi hC (tM_X6_of (hg_Eof hC) X.2.1 (d + 1) _ _ _ _ hw) sv_RX6_212 dX6_value_3 qM_0 kM_0 c_6 rfl (rest := []) rfl (Nat.le_of_ble_eq_true rfl) (n := 6) rfl (fun r2 σ1 hw => ?_)
  refine hg_iconst hC dX6_value_6 hl_i1 (n := 7) rfl ?_
  refine hg_icmp_ne hC dX6_value_7 (tg := 26) rfl (n := 10) rfl (fun h9 => ?_) (fun h9 => ?_)
  · have hw := hw.1 h9
    refine hg_aload_n hC dX6_value_26 rfl 0 rfl (n := 27) rfl ?_
    refine hg_aload_n hC dX6_value_27 rfl 0 rfl (n := 28) rfl ?_
    refine hg_iload_n hC dX6_value_28 rfl 1 rfl (n := 29) rfl ?_
    refine hg_iload_n hC dX6_value_29 rfl 2 rfl (n := 30) rfl ?_
    refine hg_iconst hC dX6_value_30 hl_i1 (n := 31) rfl ?_
    refine hg_iadd hC dX6_value_31 (n := 32) rfl ?_
    refine hg_cVi hC (tM_X6_of (hg_Eof hC) X.2.1 (d + 1) _ _ _ _ hw) sv_RX6_212 dX6_value_32 qM_0 kM_0 c_6 rfl (rest := [.ref (hg_ad X 0)]) rfl (Nat.le_of_ble_eq_true rfl) (n := 35) rfl (fun r4 σ3 hw => ?_)
    refine hg_cVi hC (tM_X6_setNew (hg_Eof hC) X.2.1 (d + 0) _ _ _ hw) sv_RX6_216 dX6_value_35 qM_0 kM_0 c_6 rfl (rest := []) rfl (Nat.le_of_ble_eq_true rfl) (n := 38) rfl (fun r6 σ5 hw => ?_)
    exact hg_sub [] rfl (tbM_X6_value_38 hC hR  r6 σ5 hw)
  · have hw := hw.2 h9
    refine hg_aload_n hC dX6_value_10 rfl 0 rfl (n := 11) rfl ?_
    refine hg_getr hC fl_RX6_54 dX6_value_11 qM_0 kM_0 fM_6_25 rM_0_25 (n := 14) rfl ?_
    refine hg_aload_n hC dX6_value_14 rfl 0 rfl (n := 15) rfl ?_
    refine hg_iload_n hC dX6_value_15 rfl 1 rfl (n := 16) rfl ?_
    refine hg_iload_n hC dX6_value_16 rfl 2 rfl (n := 17) rfl ?_
    refine hg_iconst hC dX6_value_17 hl_i1 (n := 18) rfl ?_
    refine hg_iadd hC dX6_value_18 (n := 19) rfl ?_
    refine hg_cVi hC (tM_X6_of (hg_Eof hC) X.2.1 (d + 1) _ _ _ _ hw) sv_RX6_212 dX6_value_19 qM_0 kM_0 c_6 rfl (rest := [.ref (hg_ad X 14)]) rfl (Nat.le_of_ble_eq_true rfl) (n := 22) rfl (fun r8 σ7 hw => ?_)
    obtain ⟨h9, hw⟩ := hw
    refine hg_iald hC dX6_value_22 qM_14 kM_14 h9 (n := 23) rfl ?_
    refine hg_goto hC dX6_value_23 (tg := 38) rfl ?_
    exact hg_sub [] rfl (tbM_X6_value_38 hC hR  (σ7 14 (r8).toNatClampNeg) σ7 hw)
def bM_X6_isOnSide_26 (P : Int32 → hg_M → Prop)  (t0 : Int32) (σ : hg_M) : Prop := ((t0 = 0 ∨ t0 = 1) ∧ P t0 σ)
def bM_X6_isOnSide_25 (P : Int32 → hg_M → Prop)   (σ : hg_M) : Prop := bM_X6_isOnSide_26 P (0 : Int32) σ
def wM_X6_isOnSide  (σ : hg_M) (P : Int32 → hg_M → Prop) : Prop := (((σ 0 26) ≤ 0 → bM_X6_isOnSide_25 P σ) ∧ (¬ (σ 0 26) ≤ 0 → vp_in ((σ 0 26) - (1 : Int32)) 8 ∧ ((((σ 17 (((σ 0 26) - (1 : Int32))).toNatClampNeg) = 0 → bM_X6_isOnSide_25 P σ) ∧ (¬ (σ 17 (((σ 0 26) - (1 : Int32))).toNatClampNeg) = 0 → bM_X6_isOnSide_26 P (1 : Int32) σ)))))
set_option maxRecDepth 4000 in
theorem tbM_X6_isOnSide_26 {d : Nat} {E : hg_Et} {X : hg_X} {P : Int32 → hg_M → Prop}  (hC : hg_C hg_FM 1 (d + 1) E cX6_isOnSide RX6 X) (hR : hg_Rni hg_FM (some .boolean) hg_rM P X)  (t0 : Int32) (σ : hg_M) (hw : bM_X6_isOnSide_26 P t0 σ) : hg_G hg_FM 1 X 26 [] [.int t0] σ hg_rM := by
  unfold bM_X6_isOnSide_26 at hw
  exact hg_retz hC hR dX6_isOnSide_26 hw
set_option maxRecDepth 4000 in
theorem tbM_X6_isOnSide_25 {d : Nat} {E : hg_Et} {X : hg_X} {P : Int32 → hg_M → Prop}  (hC : hg_C hg_FM 1 (d + 1) E cX6_isOnSide RX6 X) (hR : hg_Rni hg_FM (some .boolean) hg_rM P X)   (σ : hg_M) (hw : bM_X6_isOnSide_25 P  σ) : hg_G hg_FM 1 X 25 [] [] σ hg_rM := by
  unfold bM_X6_isOnSide_25 at hw
  refine hg_iconst hC dX6_isOnSide_25 hl_i0 (n := 26) rfl ?_
  exact tbM_X6_isOnSide_26 hC hR  (0 : Int32) σ hw
set_option maxRecDepth 4000 in
theorem tM_X6_isOnSide {E : hg_Et} (hE : hg_Eok E) (l : Launch) (d : Nat)  (σ : hg_M) (P : Int32 → hg_M → Prop) (hw : wM_X6_isOnSide  σ P) : hg_Ni hg_FM E l yX6_isOnSide cX6_isOnSide 1 (some .boolean) (d + 1) (fun ad => [.ref (ad 0)]) hg_rM σ P := by
  refine hg_ni hE (by decide) (fun _ => Nat.le_of_ble_eq_true rfl) (fun X hC hR hl => ?_)
  subst hl
  have hC : hg_C hg_FM 1 (d + 1) E cX6_isOnSide RX6 X := hC
  show hg_G hg_FM 1 X 0 [(0, .ref (hg_ad X 0))] [] σ hg_rM
  unfold wM_X6_isOnSide at hw
  refine hg_aload_n hC dX6_isOnSide_0 rfl 0 rfl (n := 1) rfl ?_
  refine hg_geti hC fl_RX6_219 dX6_isOnSide_1 qM_0 kM_0 fM_6_26 (n := 4) rfl ?_
  refine hg_if_le hC dX6_isOnSide_4 (tg := 25) rfl (n := 7) rfl (fun h9 => ?_) (fun h9 => ?_)
  · have hw := hw.1 h9
    exact hg_sub [] rfl (tbM_X6_isOnSide_25 hC hR  σ hw)
  · have hw := hw.2 h9
    refine hg_aload_n hC dX6_isOnSide_7 rfl 0 rfl (n := 8) rfl ?_
    refine hg_getr hC fl_RX6_63 dX6_isOnSide_8 qM_0 kM_0 fM_6_29 rM_0_29 (n := 11) rfl ?_
    refine hg_aload_n hC dX6_isOnSide_11 rfl 0 rfl (n := 12) rfl ?_
    refine hg_geti hC fl_RX6_219 dX6_isOnSide_12 qM_0 kM_0 fM_6_26 (n := 15) rfl ?_
    refine hg_iconst hC dX6_isOnSide_15 hl_i1 (n := 16) rfl ?_
    refine hg_isub hC dX6_isOnSide_16 (n := 17) rfl ?_
    obtain ⟨h9, hw⟩ := hw
    refine hg_zald hC dX6_isOnSide_17 qM_17 kM_17 h9 (n := 18) rfl ?_
    refine hg_if_eq hC dX6_isOnSide_18 (tg := 25) rfl (n := 21) rfl (fun h9 => ?_) (fun h9 => ?_)
    · have hw := hw.1 h9
      exact hg_sub [] rfl (tbM_X6_isOnSide_25 hC hR  σ hw)
    · have hw := hw.2 h9
      refine hg_iconst hC dX6_isOnSide_21 hl_i1 (n := 22) rfl ?_
      refine hg_goto hC dX6_isOnSide_22 (tg := 26) rfl ?_
      exact hg_sub [] rfl (tbM_X6_isOnSide_26 hC hR  (1 : Int32) σ hw)
def bM_X6_guarded_15 (P : Int32 → hg_M → Prop)  (x2 : Int32) (σ : hg_M) : Prop := P x2 σ
def wM_X6_guarded (x1 : Int32) (x2 : Int32) (σ : hg_M) (P : Int32 → hg_M → Prop) : Prop := ((x1 = 0 → bM_X6_guarded_15 P x2 σ) ∧ (¬ x1 = 0 → vp_in (x1 - (1 : Int32)) 8 ∧ ((((σ 17 ((x1 - (1 : Int32))).toNatClampNeg) ≠ 0 → wM_X6_fresh1 σ (fun r2 σ1 => vp_in (x1 - (1 : Int32)) 8 ∧ (wM_X6_emit (7 : Int32) r2 (σ1 19 ((x1 - (1 : Int32))).toNatClampNeg) x2 (0 : Int32) σ1 (fun r4 σ3 => P r2 σ3)))) ∧ ((σ 17 ((x1 - (1 : Int32))).toNatClampNeg) = 0 → bM_X6_guarded_15 P x2 σ)))))
set_option maxRecDepth 4000 in
theorem tbM_X6_guarded_15 {d : Nat} {E : hg_Et} {X : hg_X} {P : Int32 → hg_M → Prop}  (hC : hg_C hg_FM 5 (d + 2) E cX6_guarded RX6 X) (hR : hg_Rni hg_FM (some .int) hg_rM P X)  (x2 : Int32) (σ : hg_M) (hw : bM_X6_guarded_15 P x2 σ) : hg_G hg_FM 5 X 15 [(2, .int x2)] [] σ hg_rM := by
  unfold bM_X6_guarded_15 at hw
  refine hg_iload_n hC dX6_guarded_15 rfl 0 rfl (n := 16) rfl ?_
  exact hg_reti hC hR dX6_guarded_16 hw
set_option maxRecDepth 4000 in
theorem tM_X6_guarded {E : hg_Et} (hE : hg_Eok E) (l : Launch) (d : Nat) (x1 : Int32) (x2 : Int32) (σ : hg_M) (P : Int32 → hg_M → Prop) (hw : wM_X6_guarded x1 x2 σ P) : hg_Ni hg_FM E l yX6_guarded cX6_guarded 5 (some .int) (d + 2) (fun ad => [.ref (ad 0), .int x1, .int x2]) hg_rM σ P := by
  refine hg_ni hE (by decide) (fun _ => Nat.le_of_ble_eq_true rfl) (fun X hC hR hl => ?_)
  subst hl
  have hC : hg_C hg_FM 5 (d + 2) E cX6_guarded RX6 X := hC
  show hg_G hg_FM 5 X 0 [(0, .ref (hg_ad X 0)), (1, .int x1), (2, .int x2)] [] σ hg_rM
  unfold wM_X6_guarded at hw
  refine hg_iload_n hC dX6_guarded_0 rfl 1 rfl (n := 1) rfl ?_
  refine hg_if_eq hC dX6_guarded_1 (tg := 15) rfl (n := 4) rfl (fun h9 => ?_) (fun h9 => ?_)
  · have hw := hw.1 h9
    exact hg_sub [2] rfl (tbM_X6_guarded_15 hC hR  x2 σ hw)
  · have hw := hw.2 h9
    refine hg_aload_n hC dX6_guarded_4 rfl 0 rfl (n := 5) rfl ?_
    refine hg_getr hC fl_RX6_63 dX6_guarded_5 qM_0 kM_0 fM_6_29 rM_0_29 (n := 8) rfl ?_
    refine hg_iload_n hC dX6_guarded_8 rfl 1 rfl (n := 9) rfl ?_
    refine hg_iconst hC dX6_guarded_9 hl_i1 (n := 10) rfl ?_
    refine hg_isub hC dX6_guarded_10 (n := 11) rfl ?_
    obtain ⟨h9, hw⟩ := hw
    refine hg_zald hC dX6_guarded_11 qM_17 kM_17 h9 (n := 12) rfl ?_
    refine hg_if_ne hC dX6_guarded_12 (tg := 17) rfl (n := 15) rfl (fun h9 => ?_) (fun h9 => ?_)
    · have hw := hw.1 h9
      refine hg_aload_n hC dX6_guarded_17 rfl 0 rfl (n := 18) rfl ?_
      refine hg_cVi hC (tM_X6_fresh1 (hg_Eof hC) X.2.1 (d + 0) _ _ hw) sv_RX6_205 dX6_guarded_18 qM_0 kM_0 c_6 rfl (rest := []) rfl (Nat.le_of_ble_eq_true rfl) (n := 21) rfl (fun r2 σ1 hw => ?_)
      refine hg_istore_n hC (L1 := [(3, .int r2), (0, .ref (hg_ad X 0)), (1, .int x1), (2, .int x2)]) dX6_guarded_21 rfl (by decide) rfl (n := 22) rfl ?_
      refine hg_aload_n hC dX6_guarded_22 rfl 1 rfl (n := 23) rfl ?_
      refine hg_bipush hC dX6_guarded_23 hl_b7 (n := 25) rfl ?_
      refine hg_iload_n hC dX6_guarded_25 rfl 0 rfl (n := 26) rfl ?_
      refine hg_aload_n hC dX6_guarded_26 rfl 1 rfl (n := 27) rfl ?_
      refine hg_getr hC fl_RX6_69 dX6_guarded_27 qM_0 kM_0 fM_6_31 rM_0_31 (n := 30) rfl ?_
      refine hg_iload_n hC dX6_guarded_30 rfl 2 rfl (n := 31) rfl ?_
      refine hg_iconst hC dX6_guarded_31 hl_i1 (n := 32) rfl ?_
      refine hg_isub hC dX6_guarded_32 (n := 33) rfl ?_
      obtain ⟨h9, hw⟩ := hw
      refine hg_iald hC dX6_guarded_33 qM_19 kM_19 h9 (n := 34) rfl ?_
      refine hg_iload_n hC dX6_guarded_34 rfl 3 rfl (n := 35) rfl ?_
      refine hg_iconst hC dX6_guarded_35 hl_i0 (n := 36) rfl ?_
      refine hg_cVi hC (tM_X6_emit (hg_Eof hC) X.2.1 (d + 0) _ _ _ _ _ _ _ hw) sv_RX6_208 dX6_guarded_36 qM_0 kM_0 c_6 rfl (rest := []) rfl (Nat.le_of_ble_eq_true rfl) (n := 39) rfl (fun r4 σ3 hw => ?_)
      refine hg_istore hC (L1 := [(4, .int r4), (3, .int r2), (0, .ref (hg_ad X 0)), (1, .int x1), (2, .int x2)]) dX6_guarded_39 (by decide) rfl (n := 41) rfl ?_
      refine hg_iload_n hC dX6_guarded_41 rfl 1 rfl (n := 42) rfl ?_
      exact hg_reti hC hR dX6_guarded_42 hw
    · have hw := hw.2 h9
      exact hg_sub [2] rfl (tbM_X6_guarded_15 hC hR  x2 σ hw)
def bM_X6_beginTest_174 (P : hg_M → Prop)   (σ : hg_M) : Prop := ∀ σ24 : hg_M, σ24 = hg_set σ 0 26 ((σ 0 26) + (1 : Int32)) → P σ24
def lM_X6_beginTest_93 (P : hg_M → Prop)  : Nat → Int32 → Int32 → Int32 → Int32 → hg_M → Prop
  | 0, _, _, _, _, _ => False
  | n + 1, x1, x4, x6, x7, σ => (((16 : Int32) ≤ x7 → vp_in x1 60 ∧ ((((σ 8 (x1).toNatClampNeg) ≤ (x1 + (1 : Int32)) → bM_X6_beginTest_174 P σ) ∧ (¬ ((σ 8 (x1).toNatClampNeg) ≤ (x1 + (1 : Int32))) → wM_X6_guarded x6 x4 σ (fun r20 σ19 => vp_in x6 8 ∧ (∀ σ21 : hg_M, σ21 = hg_set σ19 19 (x6).toNatClampNeg r20 → bM_X6_beginTest_174 P σ21)))))) ∧ (¬ ((16 : Int32) ≤ x7) → vp_in x7 16 ∧ (vp_in (((16 : Int32) * x6) + x7) 128 ∧ (∀ σ22 : hg_M, σ22 = hg_set σ 21 ((((16 : Int32) * x6) + x7)).toNatClampNeg (σ 14 (x7).toNatClampNeg) → ∀ v23 : Int32, v23 = x7 + (1 : Int32) → lM_X6_beginTest_93 P n x1 x4 x6 v23 σ22))))
def wM_X6_beginTest (x1 : Int32) (σ : hg_M) (P : hg_M → Prop) : Prop := wM_X6_value x1 (3 : Int32) σ (fun r2 σ1 => wM_X6_value x1 (5 : Int32) σ1 (fun r4 σ3 => wM_X6_fresh1 σ3 (fun r6 σ5 => wM_X6_of x1 (2 : Int32) σ5 (fun r8 σ7 => wM_X6_emit r8 r6 r2 r4 (0 : Int32) σ7 (fun r10 σ9 => ∀ v11 : Int32, v11 = (σ9 0 26) → vp_in v11 8 ∧ (∀ σ12 : hg_M, σ12 = hg_set σ9 15 (v11).toNatClampNeg x1 → vp_in v11 8 ∧ (∀ σ13 : hg_M, σ13 = hg_set σ12 16 (v11).toNatClampNeg (vp_nar .boolean (0 : Int32)) → vp_in x1 60 ∧ (vp_in v11 8 ∧ (∀ σ14 : hg_M, σ14 = hg_set σ13 17 (v11).toNatClampNeg (vp_nar .boolean (σ13 13 (x1).toNatClampNeg)) → vp_in v11 8 ∧ (∀ σ15 : hg_M, σ15 = hg_set σ14 18 (v11).toNatClampNeg r6 → vp_in x1 60 ∧ ((((σ15 13 (x1).toNatClampNeg) = 0 → wM_X6_emit (17 : Int32) r6 (0 : Int32) (0 : Int32) (0 : Int32) σ15 (fun r17 σ16 => vp_in v11 8 ∧ (∀ σ18 : hg_M, σ18 = hg_set σ16 20 (v11).toNatClampNeg r17 → bM_X6_beginTest_174 P σ18))) ∧ (¬ (σ15 13 (x1).toNatClampNeg) = 0 → (∃ f9, lM_X6_beginTest_93 P f9 x1 r6 v11 (0 : Int32) σ15))))))))))))))
set_option maxRecDepth 4000 in
theorem tbM_X6_beginTest_174 {d : Nat} {E : hg_Et} {X : hg_X} {P : hg_M → Prop}  (hC : hg_C hg_FM 8 (d + 4) E cX6_beginTest RX6 X) (hR : hg_Rnv hg_FM hg_rM P X)   (σ : hg_M) (hw : bM_X6_beginTest_174 P  σ) : hg_G hg_FM 8 X 174 [(0, .ref (hg_ad X 0))] [] σ hg_rM := by
  unfold bM_X6_beginTest_174 at hw
  refine hg_aload_n hC dX6_beginTest_174 rfl 0 rfl (n := 175) rfl ?_
  refine hg_dup hC dX6_beginTest_175 rfl (n := 176) rfl ?_
  refine hg_geti hC fl_RX6_219 dX6_beginTest_176 qM_0 kM_0 fM_6_26 (n := 179) rfl ?_
  refine hg_iconst hC dX6_beginTest_179 hl_i1 (n := 180) rfl ?_
  refine hg_iadd hC dX6_beginTest_180 (n := 181) rfl ?_
  refine hg_puti hC fp_RX6_219 dX6_beginTest_181 qM_0 kM_0 fM_6_26 rfl rfl (n := 184) rfl (fun σ24 eσ24 => ?_)
  have hw := hw σ24 eσ24
  exact hg_retv hC hR dX6_beginTest_184 hw
set_option maxRecDepth 4000 in
theorem tlM_X6_beginTest_93 {d : Nat} {E : hg_Et} {X : hg_X} {P : hg_M → Prop}  (hC : hg_C hg_FM 8 (d + 4) E cX6_beginTest RX6 X) (hR : hg_Rnv hg_FM hg_rM P X)  (n : Nat) : ∀ (x1 : Int32) (x4 : Int32) (x6 : Int32) (x7 : Int32) (σ : hg_M), lM_X6_beginTest_93 P n x1 x4 x6 x7 σ → hg_G hg_FM 8 X 93 [(0, .ref (hg_ad X 0)), (1, .int x1), (4, .int x4), (6, .int x6), (7, .int x7)] [] σ hg_rM := by
  induction n with
  | zero =>
    intro x1 x4 x6 x7 σ hw
    rw [lM_X6_beginTest_93] at hw
    exact hw.elim
  | succ n ih =>
    intro x1 x4 x6 x7 σ hw
    rw [lM_X6_beginTest_93] at hw
    refine hg_iload hC dX6_beginTest_93 4 rfl (n := 95) rfl ?_
    refine hg_bipush hC dX6_beginTest_95 hl_b16 (n := 97) rfl ?_
    refine hg_icmp_ge hC dX6_beginTest_97 (tg := 126) rfl (n := 100) rfl (fun h9 => ?_) (fun h9 => ?_)
    · have hw := hw.1 h9
      refine hg_aload_n hC dX6_beginTest_126 rfl 0 rfl (n := 127) rfl ?_
      refine hg_getr hC fl_RX6_31 dX6_beginTest_127 qM_0 kM_0 fM_6_14 rM_0_14 (n := 130) rfl ?_
      refine hg_iload_n hC dX6_beginTest_130 rfl 1 rfl (n := 131) rfl ?_
      obtain ⟨h9, hw⟩ := hw
      refine hg_iald hC dX6_beginTest_131 qM_8 kM_8 h9 (n := 132) rfl ?_
      refine hg_iload_n hC dX6_beginTest_132 rfl 1 rfl (n := 133) rfl ?_
      refine hg_iconst hC dX6_beginTest_133 hl_i1 (n := 134) rfl ?_
      refine hg_iadd hC dX6_beginTest_134 (n := 135) rfl ?_
      refine hg_icmp_le hC dX6_beginTest_135 (tg := 174) rfl (n := 138) rfl (fun h9 => ?_) (fun h9 => ?_)
      · have hw := hw.1 h9
        exact hg_sub [0] rfl (tbM_X6_beginTest_174 hC hR  σ hw)
      · have hw := hw.2 h9
        refine hg_aload_n hC dX6_beginTest_138 rfl 0 rfl (n := 139) rfl ?_
        refine hg_getr hC fl_RX6_69 dX6_beginTest_139 qM_0 kM_0 fM_6_31 rM_0_31 (n := 142) rfl ?_
        refine hg_iload hC dX6_beginTest_142 3 rfl (n := 144) rfl ?_
        refine hg_aload_n hC dX6_beginTest_144 rfl 0 rfl (n := 145) rfl ?_
        refine hg_iload hC dX6_beginTest_145 3 rfl (n := 147) rfl ?_
        refine hg_iload hC dX6_beginTest_147 2 rfl (n := 149) rfl ?_
        refine hg_cVi hC (tM_X6_guarded (hg_Eof hC) X.2.1 (d + 1) _ _ _ _ hw) sv_RX6_225 dX6_beginTest_149 qM_0 kM_0 c_6 rfl (rest := [.int x6, .ref (hg_ad X 19)]) rfl (Nat.le_of_ble_eq_true rfl) (n := 152) rfl (fun r20 σ19 hw => ?_)
        obtain ⟨h9, hw⟩ := hw
        refine hg_iast hC dX6_beginTest_152 qM_19 kM_19 h9 (n := 153) rfl (fun σ21 eσ21 => ?_)
        have hw := hw σ21 eσ21
        refine hg_goto hC dX6_beginTest_153 (tg := 174) rfl ?_
        exact hg_sub [0] rfl (tbM_X6_beginTest_174 hC hR  σ21 hw)
    · have hw := hw.2 h9
      refine hg_aload_n hC dX6_beginTest_100 rfl 0 rfl (n := 101) rfl ?_
      refine hg_getr hC fl_RX6_75 dX6_beginTest_101 qM_0 kM_0 fM_6_33 rM_0_33 (n := 104) rfl ?_
      refine hg_bipush hC dX6_beginTest_104 hl_b16 (n := 106) rfl ?_
      refine hg_iload hC dX6_beginTest_106 3 rfl (n := 108) rfl ?_
      refine hg_imul hC dX6_beginTest_108 (n := 109) rfl ?_
      refine hg_iload hC dX6_beginTest_109 4 rfl (n := 111) rfl ?_
      refine hg_iadd hC dX6_beginTest_111 (n := 112) rfl ?_
      refine hg_aload_n hC dX6_beginTest_112 rfl 0 rfl (n := 113) rfl ?_
      refine hg_getr hC fl_RX6_54 dX6_beginTest_113 qM_0 kM_0 fM_6_25 rM_0_25 (n := 116) rfl ?_
      refine hg_iload hC dX6_beginTest_116 4 rfl (n := 118) rfl ?_
      obtain ⟨h9, hw⟩ := hw
      refine hg_iald hC dX6_beginTest_118 qM_14 kM_14 h9 (n := 119) rfl ?_
      obtain ⟨h9, hw⟩ := hw
      refine hg_iast hC dX6_beginTest_119 qM_21 kM_21 h9 (n := 120) rfl (fun σ22 eσ22 => ?_)
      have hw := hw σ22 eσ22
      obtain ⟨v23, ev23⟩ : ∃ z, z = x7 + (1 : Int32) := ⟨_, rfl⟩
      have hw := hw v23 ev23
      refine hg_iinc hC (v := v23) (L1 := [(7, .int v23), (0, .ref (hg_ad X 0)), (1, .int x1), (4, .int x4), (6, .int x6)]) dX6_beginTest_120 4 rfl (by rw [hl_i1, ev23]) (by decide) rfl (n := 123) rfl ?_
      refine hg_goto hC dX6_beginTest_123 (tg := 93) rfl ?_
      exact hg_sub [1, 2, 3, 4, 0] rfl (ih x1 x4 x6 v23 σ22 hw)
set_option maxRecDepth 4000 in
theorem tM_X6_beginTest {E : hg_Et} (hE : hg_Eok E) (l : Launch) (d : Nat) (x1 : Int32) (σ : hg_M) (P : hg_M → Prop) (hw : wM_X6_beginTest x1 σ P) : hg_Nv hg_FM E l yX6_beginTest cX6_beginTest 8 (d + 4) (fun ad => [.ref (ad 0), .int x1]) hg_rM σ P := by
  refine hg_nv hE (by decide) (fun _ => Nat.le_of_ble_eq_true rfl) (fun X hC hR hl => ?_)
  subst hl
  have hC : hg_C hg_FM 8 (d + 4) E cX6_beginTest RX6 X := hC
  show hg_G hg_FM 8 X 0 [(0, .ref (hg_ad X 0)), (1, .int x1)] [] σ hg_rM
  unfold wM_X6_beginTest at hw
  refine hg_aload_n hC dX6_beginTest_0 rfl 0 rfl (n := 1) rfl ?_
  refine hg_iload_n hC dX6_beginTest_1 rfl 1 rfl (n := 2) rfl ?_
  refine hg_iconst hC dX6_beginTest_2 hl_i3 (n := 3) rfl ?_
  refine hg_cVi hC (tM_X6_value (hg_Eof hC) X.2.1 (d + 0) _ _ _ _ hw) sv_RX6_222 dX6_beginTest_3 qM_0 kM_0 c_6 rfl (rest := []) rfl (Nat.le_of_ble_eq_true rfl) (n := 6) rfl (fun r2 σ1 hw => ?_)
  refine hg_istore_n hC (L1 := [(2, .int r2), (0, .ref (hg_ad X 0)), (1, .int x1)]) dX6_beginTest_6 rfl (by decide) rfl (n := 7) rfl ?_
  refine hg_aload_n hC dX6_beginTest_7 rfl 1 rfl (n := 8) rfl ?_
  refine hg_iload_n hC dX6_beginTest_8 rfl 2 rfl (n := 9) rfl ?_
  refine hg_iconst hC dX6_beginTest_9 hl_i5 (n := 10) rfl ?_
  refine hg_cVi hC (tM_X6_value (hg_Eof hC) X.2.1 (d + 0) _ _ _ _ hw) sv_RX6_222 dX6_beginTest_10 qM_0 kM_0 c_6 rfl (rest := []) rfl (Nat.le_of_ble_eq_true rfl) (n := 13) rfl (fun r4 σ3 hw => ?_)
  refine hg_istore_n hC (L1 := [(3, .int r4), (2, .int r2), (0, .ref (hg_ad X 0)), (1, .int x1)]) dX6_beginTest_13 rfl (by decide) rfl (n := 14) rfl ?_
  refine hg_aload_n hC dX6_beginTest_14 rfl 2 rfl (n := 15) rfl ?_
  refine hg_cVi hC (tM_X6_fresh1 (hg_Eof hC) X.2.1 (d + 2) _ _ hw) sv_RX6_205 dX6_beginTest_15 qM_0 kM_0 c_6 rfl (rest := []) rfl (Nat.le_of_ble_eq_true rfl) (n := 18) rfl (fun r6 σ5 hw => ?_)
  refine hg_istore hC (L1 := [(4, .int r6), (3, .int r4), (2, .int r2), (0, .ref (hg_ad X 0)), (1, .int x1)]) dX6_beginTest_18 (by decide) rfl (n := 20) rfl ?_
  refine hg_aload_n hC dX6_beginTest_20 rfl 3 rfl (n := 21) rfl ?_
  refine hg_aload_n hC dX6_beginTest_21 rfl 3 rfl (n := 22) rfl ?_
  refine hg_iload_n hC dX6_beginTest_22 rfl 4 rfl (n := 23) rfl ?_
  refine hg_iconst hC dX6_beginTest_23 hl_i2 (n := 24) rfl ?_
  refine hg_cVi hC (tM_X6_of (hg_Eof hC) X.2.1 (d + 2) _ _ _ _ hw) sv_RX6_212 dX6_beginTest_24 qM_0 kM_0 c_6 rfl (rest := [.ref (hg_ad X 0)]) rfl (Nat.le_of_ble_eq_true rfl) (n := 27) rfl (fun r8 σ7 hw => ?_)
  refine hg_iload hC dX6_beginTest_27 0 rfl (n := 29) rfl ?_
  refine hg_iload_n hC dX6_beginTest_29 rfl 2 rfl (n := 30) rfl ?_
  refine hg_iload_n hC dX6_beginTest_30 rfl 1 rfl (n := 31) rfl ?_
  refine hg_iconst hC dX6_beginTest_31 hl_i0 (n := 32) rfl ?_
  refine hg_cVi hC (tM_X6_emit (hg_Eof hC) X.2.1 (d + 2) _ _ _ _ _ _ _ hw) sv_RX6_208 dX6_beginTest_32 qM_0 kM_0 c_6 rfl (rest := []) rfl (Nat.le_of_ble_eq_true rfl) (n := 35) rfl (fun r10 σ9 hw => ?_)
  refine hg_istore hC (L1 := [(5, .int r10), (4, .int r6), (3, .int r4), (2, .int r2), (0, .ref (hg_ad X 0)), (1, .int x1)]) dX6_beginTest_35 (by decide) rfl (n := 37) rfl ?_
  refine hg_aload_n hC dX6_beginTest_37 rfl 4 rfl (n := 38) rfl ?_
  refine hg_geti hC fl_RX6_219 dX6_beginTest_38 qM_0 kM_0 fM_6_26 (n := 41) rfl ?_
  refine hg_topi (fun v11 ev11 => ?_)
  have hw := hw v11 ev11
  refine hg_istore hC (L1 := [(6, .int v11), (5, .int r10), (4, .int r6), (3, .int r4), (2, .int r2), (0, .ref (hg_ad X 0)), (1, .int x1)]) dX6_beginTest_41 (by decide) rfl (n := 43) rfl ?_
  refine hg_aload_n hC dX6_beginTest_43 rfl 5 rfl (n := 44) rfl ?_
  refine hg_getr hC fl_RX6_57 dX6_beginTest_44 qM_0 kM_0 fM_6_27 rM_0_27 (n := 47) rfl ?_
  refine hg_iload hC dX6_beginTest_47 0 rfl (n := 49) rfl ?_
  refine hg_iload_n hC dX6_beginTest_49 rfl 6 rfl (n := 50) rfl ?_
  obtain ⟨h9, hw⟩ := hw
  refine hg_iast hC dX6_beginTest_50 qM_15 kM_15 h9 (n := 51) rfl (fun σ12 eσ12 => ?_)
  have hw := hw σ12 eσ12
  refine hg_aload_n hC dX6_beginTest_51 rfl 5 rfl (n := 52) rfl ?_
  refine hg_getr hC fl_RX6_60 dX6_beginTest_52 qM_0 kM_0 fM_6_28 rM_0_28 (n := 55) rfl ?_
  refine hg_iload hC dX6_beginTest_55 0 rfl (n := 57) rfl ?_
  refine hg_iconst hC dX6_beginTest_57 hl_i0 (n := 58) rfl ?_
  obtain ⟨h9, hw⟩ := hw
  refine hg_zast hC dX6_beginTest_58 qM_16 kM_16 h9 (n := 59) rfl (fun σ13 eσ13 => ?_)
  have hw := hw σ13 eσ13
  refine hg_aload_n hC dX6_beginTest_59 rfl 5 rfl (n := 60) rfl ?_
  refine hg_getr hC fl_RX6_63 dX6_beginTest_60 qM_0 kM_0 fM_6_29 rM_0_29 (n := 63) rfl ?_
  refine hg_iload hC dX6_beginTest_63 0 rfl (n := 65) rfl ?_
  refine hg_aload_n hC dX6_beginTest_65 rfl 5 rfl (n := 66) rfl ?_
  refine hg_getr hC fl_RX6_51 dX6_beginTest_66 qM_0 kM_0 fM_6_23 rM_0_23 (n := 69) rfl ?_
  refine hg_iload_n hC dX6_beginTest_69 rfl 6 rfl (n := 70) rfl ?_
  obtain ⟨h9, hw⟩ := hw
  refine hg_zald hC dX6_beginTest_70 qM_13 kM_13 h9 (n := 71) rfl ?_
  obtain ⟨h9, hw⟩ := hw
  refine hg_zast hC dX6_beginTest_71 qM_17 kM_17 h9 (n := 72) rfl (fun σ14 eσ14 => ?_)
  have hw := hw σ14 eσ14
  refine hg_aload_n hC dX6_beginTest_72 rfl 5 rfl (n := 73) rfl ?_
  refine hg_getr hC fl_RX6_66 dX6_beginTest_73 qM_0 kM_0 fM_6_30 rM_0_30 (n := 76) rfl ?_
  refine hg_iload hC dX6_beginTest_76 0 rfl (n := 78) rfl ?_
  refine hg_iload hC dX6_beginTest_78 2 rfl (n := 80) rfl ?_
  obtain ⟨h9, hw⟩ := hw
  refine hg_iast hC dX6_beginTest_80 qM_18 kM_18 h9 (n := 81) rfl (fun σ15 eσ15 => ?_)
  have hw := hw σ15 eσ15
  refine hg_aload_n hC dX6_beginTest_81 rfl 5 rfl (n := 82) rfl ?_
  refine hg_getr hC fl_RX6_51 dX6_beginTest_82 qM_0 kM_0 fM_6_23 rM_0_23 (n := 85) rfl ?_
  refine hg_iload_n hC dX6_beginTest_85 rfl 6 rfl (n := 86) rfl ?_
  obtain ⟨h9, hw⟩ := hw
  refine hg_zald hC dX6_beginTest_86 qM_13 kM_13 h9 (n := 87) rfl ?_
  refine hg_if_eq hC dX6_beginTest_87 (tg := 156) rfl (n := 90) rfl (fun h9 => ?_) (fun h9 => ?_)
  · have hw := hw.1 h9
    refine hg_aload_n hC dX6_beginTest_156 rfl 5 rfl (n := 157) rfl ?_
    refine hg_getr hC fl_RX6_72 dX6_beginTest_157 qM_0 kM_0 fM_6_32 rM_0_32 (n := 160) rfl ?_
    refine hg_iload hC dX6_beginTest_160 0 rfl (n := 162) rfl ?_
    refine hg_aload_n hC dX6_beginTest_162 rfl 5 rfl (n := 163) rfl ?_
    refine hg_bipush hC dX6_beginTest_163 hl_b17 (n := 165) rfl ?_
    refine hg_iload hC dX6_beginTest_165 2 rfl (n := 167) rfl ?_
    refine hg_iconst hC dX6_beginTest_167 hl_i0 (n := 168) rfl ?_
    refine hg_iconst hC dX6_beginTest_168 hl_i0 (n := 169) rfl ?_
    refine hg_iconst hC dX6_beginTest_169 hl_i0 (n := 170) rfl ?_
    refine hg_cVi hC (tM_X6_emit (hg_Eof hC) X.2.1 (d + 2) _ _ _ _ _ _ _ hw) sv_RX6_208 dX6_beginTest_170 qM_0 kM_0 c_6 rfl (rest := [.int v11, .ref (hg_ad X 20)]) rfl (Nat.le_of_ble_eq_true rfl) (n := 173) rfl (fun r17 σ16 hw => ?_)
    obtain ⟨h9, hw⟩ := hw
    refine hg_iast hC dX6_beginTest_173 qM_20 kM_20 h9 (n := 174) rfl (fun σ18 eσ18 => ?_)
    have hw := hw σ18 eσ18
    exact hg_sub [5] rfl (tbM_X6_beginTest_174 hC hR  σ18 hw)
  · have hw := hw.2 h9
    refine hg_iconst hC dX6_beginTest_90 hl_i0 (n := 91) rfl ?_
    refine hg_istore hC (L1 := [(7, .int (0 : Int32)), (6, .int v11), (5, .int r10), (4, .int r6), (3, .int r4), (2, .int r2), (0, .ref (hg_ad X 0)), (1, .int x1)]) dX6_beginTest_91 (by decide) rfl (n := 93) rfl ?_
    obtain ⟨n9, hw⟩ := hw
    exact hg_sub [6, 7, 3, 1, 0] rfl (tlM_X6_beginTest_93 hC hR  n9 x1 r6 v11 (0 : Int32) σ15 hw)
def bM_X6_endFirst_171 (P : hg_M → Prop)  (x1 : Int32) (t0 : Int32) (σ : hg_M) : Prop := vp_in x1 8 ∧ (vp_in (((6 : Int32) * (σ 20 (x1).toNatClampNeg)) + (2 : Int32)) 24000 ∧ (∀ σ18 : hg_M, σ18 = hg_set σ 12 ((((6 : Int32) * (σ 20 (x1).toNatClampNeg)) + (2 : Int32))).toNatClampNeg (σ 0 20) → vp_in x1 8 ∧ (∀ σ19 : hg_M, σ19 = hg_set σ18 20 (x1).toNatClampNeg t0 → P σ19)))
def bM_X6_endFirst_152 (P : hg_M → Prop)   (σ : hg_M) : Prop := P σ
def lM_X6_endFirst_52 (P : hg_M → Prop)  : Nat → Int32 → Int32 → Int32 → hg_M → Prop
  | 0, _, _, _, _ => False
  | n + 1, x1, x3, x4, σ => (((16 : Int32) ≤ x4 → ((x3 = 0 → bM_X6_endFirst_152 P σ) ∧ (¬ x3 = 0 → wM_X6_setNew (0 : Int32) σ (fun r7 σ6 => wM_X6_fresh1 σ6 (fun r9 σ8 => vp_in x1 8 ∧ (wM_X6_emit (10 : Int32) r9 (σ8 18 (x1).toNatClampNeg) r7 (0 : Int32) σ8 (fun r11 σ10 => wM_X6_guarded x1 r9 σ10 (fun r13 σ12 => vp_in x1 8 ∧ (∀ σ14 : hg_M, σ14 = hg_set σ12 19 (x1).toNatClampNeg r13 → bM_X6_endFirst_152 P σ14))))))))) ∧ (¬ ((16 : Int32) ≤ x4) → vp_in x4 16 ∧ (vp_in (((16 : Int32) * x1) + x4) 128 ∧ (∀ σ15 : hg_M, σ15 = hg_set σ 22 ((((16 : Int32) * x1) + x4)).toNatClampNeg (σ 14 (x4).toNatClampNeg) → vp_in (((16 : Int32) * x1) + x4) 128 ∧ (vp_in x4 16 ∧ (∀ σ16 : hg_M, σ16 = hg_set σ15 14 (x4).toNatClampNeg (σ15 21 ((((16 : Int32) * x1) + x4)).toNatClampNeg) → ∀ v17 : Int32, v17 = x4 + (1 : Int32) → lM_X6_endFirst_52 P n x1 x3 v17 σ16))))))
def bM_X6_endFirst_27 (P : hg_M → Prop)  (x1 : Int32) (x2 : Int32) (t0 : Int32) (σ : hg_M) : Prop := vp_in x1 8 ∧ (∀ σ2 : hg_M, σ2 = hg_set σ 16 (x1).toNatClampNeg (vp_nar .boolean (1 : Int32)) → ∀ σ3 : hg_M, σ3 = hg_set σ2 0 24 x2 → vp_in x1 8 ∧ ((((σ3 17 (x1).toNatClampNeg) = 0 → ((t0 = 0 → bM_X6_endFirst_171 P x1 (-1 : Int32) σ3) ∧ (¬ t0 = 0 → wM_X6_emit (16 : Int32) (0 : Int32) (0 : Int32) (0 : Int32) (0 : Int32) σ3 (fun r5 σ4 => bM_X6_endFirst_171 P x1 r5 σ4)))) ∧ (¬ (σ3 17 (x1).toNatClampNeg) = 0 → (∃ f9, lM_X6_endFirst_52 P f9 x1 t0 (0 : Int32) σ3)))))
def wM_X6_endFirst (x1 : Int32) (σ : hg_M) (P : hg_M → Prop) : Prop := vp_in x1 8 ∧ (∀ v1 : Int32, v1 = (σ 15 (x1).toNatClampNeg) → vp_in v1 60 ∧ (vp_in v1 60 ∧ ((((σ 9 (v1).toNatClampNeg) ≤ (σ 8 (v1).toNatClampNeg) → bM_X6_endFirst_27 P x1 v1 (0 : Int32) σ) ∧ (¬ ((σ 9 (v1).toNatClampNeg) ≤ (σ 8 (v1).toNatClampNeg)) → bM_X6_endFirst_27 P x1 v1 (1 : Int32) σ)))))
set_option maxRecDepth 4000 in
theorem tbM_X6_endFirst_171 {d : Nat} {E : hg_Et} {X : hg_X} {P : hg_M → Prop}  (hC : hg_C hg_FM 7 (d + 3) E cX6_endFirst RX6 X) (hR : hg_Rnv hg_FM hg_rM P X)  (x1 : Int32) (t0 : Int32) (σ : hg_M) (hw : bM_X6_endFirst_171 P x1 t0 σ) : hg_G hg_FM 7 X 171 [(0, .ref (hg_ad X 0)), (1, .int x1)] [.int t0] σ hg_rM := by
  unfold bM_X6_endFirst_171 at hw
  refine hg_istore hC (L1 := [(4, .int t0), (0, .ref (hg_ad X 0)), (1, .int x1)]) dX6_endFirst_171 (by decide) rfl (n := 173) rfl ?_
  refine hg_aload_n hC dX6_endFirst_173 rfl 1 rfl (n := 174) rfl ?_
  refine hg_getr hC fl_RX6_44 dX6_endFirst_174 qM_0 kM_0 fM_6_19 rM_0_19 (n := 177) rfl ?_
  refine hg_bipush hC dX6_endFirst_177 hl_b6 (n := 179) rfl ?_
  refine hg_aload_n hC dX6_endFirst_179 rfl 1 rfl (n := 180) rfl ?_
  refine hg_getr hC fl_RX6_72 dX6_endFirst_180 qM_0 kM_0 fM_6_32 rM_0_32 (n := 183) rfl ?_
  refine hg_iload_n hC dX6_endFirst_183 rfl 2 rfl (n := 184) rfl ?_
  obtain ⟨h9, hw⟩ := hw
  refine hg_iald hC dX6_endFirst_184 qM_20 kM_20 h9 (n := 185) rfl ?_
  refine hg_imul hC dX6_endFirst_185 (n := 186) rfl ?_
  refine hg_iconst hC dX6_endFirst_186 hl_i2 (n := 187) rfl ?_
  refine hg_iadd hC dX6_endFirst_187 (n := 188) rfl ?_
  refine hg_aload_n hC dX6_endFirst_188 rfl 1 rfl (n := 189) rfl ?_
  refine hg_geti hC fl_RX6_199 dX6_endFirst_189 qM_0 kM_0 fM_6_20 (n := 192) rfl ?_
  obtain ⟨h9, hw⟩ := hw
  refine hg_iast hC dX6_endFirst_192 qM_12 kM_12 h9 (n := 193) rfl (fun σ18 eσ18 => ?_)
  have hw := hw σ18 eσ18
  refine hg_aload_n hC dX6_endFirst_193 rfl 1 rfl (n := 194) rfl ?_
  refine hg_getr hC fl_RX6_72 dX6_endFirst_194 qM_0 kM_0 fM_6_32 rM_0_32 (n := 197) rfl ?_
  refine hg_iload_n hC dX6_endFirst_197 rfl 2 rfl (n := 198) rfl ?_
  refine hg_iload hC dX6_endFirst_198 0 rfl (n := 200) rfl ?_
  obtain ⟨h9, hw⟩ := hw
  refine hg_iast hC dX6_endFirst_200 qM_20 kM_20 h9 (n := 201) rfl (fun σ19 eσ19 => ?_)
  have hw := hw σ19 eσ19
  exact hg_retv hC hR dX6_endFirst_201 hw
set_option maxRecDepth 4000 in
theorem tbM_X6_endFirst_152 {d : Nat} {E : hg_Et} {X : hg_X} {P : hg_M → Prop}  (hC : hg_C hg_FM 7 (d + 3) E cX6_endFirst RX6 X) (hR : hg_Rnv hg_FM hg_rM P X)   (σ : hg_M) (hw : bM_X6_endFirst_152 P  σ) : hg_G hg_FM 7 X 152 [] [] σ hg_rM := by
  unfold bM_X6_endFirst_152 at hw
  exact hg_retv hC hR dX6_endFirst_152 hw
set_option maxRecDepth 4000 in
theorem tlM_X6_endFirst_52 {d : Nat} {E : hg_Et} {X : hg_X} {P : hg_M → Prop}  (hC : hg_C hg_FM 7 (d + 3) E cX6_endFirst RX6 X) (hR : hg_Rnv hg_FM hg_rM P X)  (n : Nat) : ∀ (x1 : Int32) (x3 : Int32) (x4 : Int32) (σ : hg_M), lM_X6_endFirst_52 P n x1 x3 x4 σ → hg_G hg_FM 7 X 52 [(0, .ref (hg_ad X 0)), (1, .int x1), (3, .int x3), (4, .int x4)] [] σ hg_rM := by
  induction n with
  | zero =>
    intro x1 x3 x4 σ hw
    rw [lM_X6_endFirst_52] at hw
    exact hw.elim
  | succ n ih =>
    intro x1 x3 x4 σ hw
    rw [lM_X6_endFirst_52] at hw
    refine hg_iload hC dX6_endFirst_52 3 rfl (n := 54) rfl ?_
    refine hg_bipush hC dX6_endFirst_54 hl_b16 (n := 56) rfl ?_
    refine hg_icmp_ge hC dX6_endFirst_56 (tg := 103) rfl (n := 59) rfl (fun h9 => ?_) (fun h9 => ?_)
    · have hw := hw.1 h9
      refine hg_iload_n hC dX6_endFirst_103 rfl 2 rfl (n := 104) rfl ?_
      refine hg_if_eq hC dX6_endFirst_104 (tg := 152) rfl (n := 107) rfl (fun h9 => ?_) (fun h9 => ?_)
      · have hw := hw.1 h9
        exact hg_sub [] rfl (tbM_X6_endFirst_152 hC hR  σ hw)
      · have hw := hw.2 h9
        refine hg_aload_n hC dX6_endFirst_107 rfl 0 rfl (n := 108) rfl ?_
        refine hg_iconst hC dX6_endFirst_108 hl_i0 (n := 109) rfl ?_
        refine hg_cVi hC (tM_X6_setNew (hg_Eof hC) X.2.1 (d + 0) _ _ _ hw) sv_RX6_216 dX6_endFirst_109 qM_0 kM_0 c_6 rfl (rest := []) rfl (Nat.le_of_ble_eq_true rfl) (n := 112) rfl (fun r7 σ6 hw => ?_)
        refine hg_istore hC (L1 := [(4, .int r7), (0, .ref (hg_ad X 0)), (1, .int x1), (3, .int x3)]) dX6_endFirst_112 (by decide) rfl (n := 114) rfl ?_
        refine hg_aload_n hC dX6_endFirst_114 rfl 1 rfl (n := 115) rfl ?_
        refine hg_cVi hC (tM_X6_fresh1 (hg_Eof hC) X.2.1 (d + 1) _ _ hw) sv_RX6_205 dX6_endFirst_115 qM_0 kM_0 c_6 rfl (rest := []) rfl (Nat.le_of_ble_eq_true rfl) (n := 118) rfl (fun r9 σ8 hw => ?_)
        refine hg_istore hC (L1 := [(5, .int r9), (4, .int r7), (0, .ref (hg_ad X 0)), (1, .int x1), (3, .int x3)]) dX6_endFirst_118 (by decide) rfl (n := 120) rfl ?_
        refine hg_aload_n hC dX6_endFirst_120 rfl 2 rfl (n := 121) rfl ?_
        refine hg_bipush hC dX6_endFirst_121 hl_b10 (n := 123) rfl ?_
        refine hg_iload hC dX6_endFirst_123 0 rfl (n := 125) rfl ?_
        refine hg_aload_n hC dX6_endFirst_125 rfl 2 rfl (n := 126) rfl ?_
        refine hg_getr hC fl_RX6_66 dX6_endFirst_126 qM_0 kM_0 fM_6_30 rM_0_30 (n := 129) rfl ?_
        refine hg_iload_n hC dX6_endFirst_129 rfl 3 rfl (n := 130) rfl ?_
        obtain ⟨h9, hw⟩ := hw
        refine hg_iald hC dX6_endFirst_130 qM_18 kM_18 h9 (n := 131) rfl ?_
        refine hg_iload hC dX6_endFirst_131 1 rfl (n := 133) rfl ?_
        refine hg_iconst hC dX6_endFirst_133 hl_i0 (n := 134) rfl ?_
        refine hg_cVi hC (tM_X6_emit (hg_Eof hC) X.2.1 (d + 1) _ _ _ _ _ _ _ hw) sv_RX6_208 dX6_endFirst_134 qM_0 kM_0 c_6 rfl (rest := []) rfl (Nat.le_of_ble_eq_true rfl) (n := 137) rfl (fun r11 σ10 hw => ?_)
        refine hg_istore hC (L1 := [(6, .int r11), (5, .int r9), (4, .int r7), (0, .ref (hg_ad X 0)), (1, .int x1), (3, .int x3)]) dX6_endFirst_137 (by decide) rfl (n := 139) rfl ?_
        refine hg_aload_n hC dX6_endFirst_139 rfl 3 rfl (n := 140) rfl ?_
        refine hg_getr hC fl_RX6_69 dX6_endFirst_140 qM_0 kM_0 fM_6_31 rM_0_31 (n := 143) rfl ?_
        refine hg_iload_n hC dX6_endFirst_143 rfl 4 rfl (n := 144) rfl ?_
        refine hg_aload_n hC dX6_endFirst_144 rfl 3 rfl (n := 145) rfl ?_
        refine hg_iload_n hC dX6_endFirst_145 rfl 4 rfl (n := 146) rfl ?_
        refine hg_iload hC dX6_endFirst_146 1 rfl (n := 148) rfl ?_
        refine hg_cVi hC (tM_X6_guarded (hg_Eof hC) X.2.1 (d + 0) _ _ _ _ hw) sv_RX6_225 dX6_endFirst_148 qM_0 kM_0 c_6 rfl (rest := [.int x1, .ref (hg_ad X 19)]) rfl (Nat.le_of_ble_eq_true rfl) (n := 151) rfl (fun r13 σ12 hw => ?_)
        obtain ⟨h9, hw⟩ := hw
        refine hg_iast hC dX6_endFirst_151 qM_19 kM_19 h9 (n := 152) rfl (fun σ14 eσ14 => ?_)
        have hw := hw σ14 eσ14
        exact hg_sub [] rfl (tbM_X6_endFirst_152 hC hR  σ14 hw)
    · have hw := hw.2 h9
      refine hg_aload_n hC dX6_endFirst_59 rfl 0 rfl (n := 60) rfl ?_
      refine hg_getr hC fl_RX6_78 dX6_endFirst_60 qM_0 kM_0 fM_6_34 rM_0_34 (n := 63) rfl ?_
      refine hg_bipush hC dX6_endFirst_63 hl_b16 (n := 65) rfl ?_
      refine hg_iload_n hC dX6_endFirst_65 rfl 1 rfl (n := 66) rfl ?_
      refine hg_imul hC dX6_endFirst_66 (n := 67) rfl ?_
      refine hg_iload hC dX6_endFirst_67 3 rfl (n := 69) rfl ?_
      refine hg_iadd hC dX6_endFirst_69 (n := 70) rfl ?_
      refine hg_aload_n hC dX6_endFirst_70 rfl 0 rfl (n := 71) rfl ?_
      refine hg_getr hC fl_RX6_54 dX6_endFirst_71 qM_0 kM_0 fM_6_25 rM_0_25 (n := 74) rfl ?_
      refine hg_iload hC dX6_endFirst_74 3 rfl (n := 76) rfl ?_
      obtain ⟨h9, hw⟩ := hw
      refine hg_iald hC dX6_endFirst_76 qM_14 kM_14 h9 (n := 77) rfl ?_
      obtain ⟨h9, hw⟩ := hw
      refine hg_iast hC dX6_endFirst_77 qM_22 kM_22 h9 (n := 78) rfl (fun σ15 eσ15 => ?_)
      have hw := hw σ15 eσ15
      refine hg_aload_n hC dX6_endFirst_78 rfl 0 rfl (n := 79) rfl ?_
      refine hg_getr hC fl_RX6_54 dX6_endFirst_79 qM_0 kM_0 fM_6_25 rM_0_25 (n := 82) rfl ?_
      refine hg_iload hC dX6_endFirst_82 3 rfl (n := 84) rfl ?_
      refine hg_aload_n hC dX6_endFirst_84 rfl 0 rfl (n := 85) rfl ?_
      refine hg_getr hC fl_RX6_75 dX6_endFirst_85 qM_0 kM_0 fM_6_33 rM_0_33 (n := 88) rfl ?_
      refine hg_bipush hC dX6_endFirst_88 hl_b16 (n := 90) rfl ?_
      refine hg_iload_n hC dX6_endFirst_90 rfl 1 rfl (n := 91) rfl ?_
      refine hg_imul hC dX6_endFirst_91 (n := 92) rfl ?_
      refine hg_iload hC dX6_endFirst_92 3 rfl (n := 94) rfl ?_
      refine hg_iadd hC dX6_endFirst_94 (n := 95) rfl ?_
      obtain ⟨h9, hw⟩ := hw
      refine hg_iald hC dX6_endFirst_95 qM_21 kM_21 h9 (n := 96) rfl ?_
      obtain ⟨h9, hw⟩ := hw
      refine hg_iast hC dX6_endFirst_96 qM_14 kM_14 h9 (n := 97) rfl (fun σ16 eσ16 => ?_)
      have hw := hw σ16 eσ16
      obtain ⟨v17, ev17⟩ : ∃ z, z = x4 + (1 : Int32) := ⟨_, rfl⟩
      have hw := hw v17 ev17
      refine hg_iinc hC (v := v17) (L1 := [(4, .int v17), (0, .ref (hg_ad X 0)), (1, .int x1), (3, .int x3)]) dX6_endFirst_97 3 rfl (by rw [hl_i1, ev17]) (by decide) rfl (n := 100) rfl ?_
      refine hg_goto hC dX6_endFirst_100 (tg := 52) rfl ?_
      exact hg_sub [1, 2, 3, 0] rfl (ih x1 x3 v17 σ16 hw)
set_option maxRecDepth 4000 in
theorem tbM_X6_endFirst_27 {d : Nat} {E : hg_Et} {X : hg_X} {P : hg_M → Prop}  (hC : hg_C hg_FM 7 (d + 3) E cX6_endFirst RX6 X) (hR : hg_Rnv hg_FM hg_rM P X)  (x1 : Int32) (x2 : Int32) (t0 : Int32) (σ : hg_M) (hw : bM_X6_endFirst_27 P x1 x2 t0 σ) : hg_G hg_FM 7 X 27 [(0, .ref (hg_ad X 0)), (1, .int x1), (2, .int x2)] [.int t0] σ hg_rM := by
  unfold bM_X6_endFirst_27 at hw
  refine hg_istore_n hC (L1 := [(3, .int t0), (0, .ref (hg_ad X 0)), (1, .int x1), (2, .int x2)]) dX6_endFirst_27 rfl (by decide) rfl (n := 28) rfl ?_
  refine hg_aload_n hC dX6_endFirst_28 rfl 1 rfl (n := 29) rfl ?_
  refine hg_getr hC fl_RX6_60 dX6_endFirst_29 qM_0 kM_0 fM_6_28 rM_0_28 (n := 32) rfl ?_
  refine hg_iload_n hC dX6_endFirst_32 rfl 2 rfl (n := 33) rfl ?_
  refine hg_iconst hC dX6_endFirst_33 hl_i1 (n := 34) rfl ?_
  obtain ⟨h9, hw⟩ := hw
  refine hg_zast hC dX6_endFirst_34 qM_16 kM_16 h9 (n := 35) rfl (fun σ2 eσ2 => ?_)
  have hw := hw σ2 eσ2
  refine hg_aload_n hC dX6_endFirst_35 rfl 1 rfl (n := 36) rfl ?_
  refine hg_iload_n hC dX6_endFirst_36 rfl 3 rfl (n := 37) rfl ?_
  refine hg_puti hC fp_RX6_202 dX6_endFirst_37 qM_0 kM_0 fM_6_24 rfl rfl (n := 40) rfl (fun σ3 eσ3 => ?_)
  have hw := hw σ3 eσ3
  refine hg_aload_n hC dX6_endFirst_40 rfl 1 rfl (n := 41) rfl ?_
  refine hg_getr hC fl_RX6_63 dX6_endFirst_41 qM_0 kM_0 fM_6_29 rM_0_29 (n := 44) rfl ?_
  refine hg_iload_n hC dX6_endFirst_44 rfl 2 rfl (n := 45) rfl ?_
  obtain ⟨h9, hw⟩ := hw
  refine hg_zald hC dX6_endFirst_45 qM_17 kM_17 h9 (n := 46) rfl ?_
  refine hg_if_eq hC dX6_endFirst_46 (tg := 153) rfl (n := 49) rfl (fun h9 => ?_) (fun h9 => ?_)
  · have hw := hw.1 h9
    refine hg_iload_n hC dX6_endFirst_153 rfl 0 rfl (n := 154) rfl ?_
    refine hg_if_eq hC dX6_endFirst_154 (tg := 170) rfl (n := 157) rfl (fun h9 => ?_) (fun h9 => ?_)
    · have hw := hw.1 h9
      refine hg_iconst hC dX6_endFirst_170 hl_im1 (n := 171) rfl ?_
      exact hg_sub [1, 2] rfl (tbM_X6_endFirst_171 hC hR  x1 (-1 : Int32) σ3 hw)
    · have hw := hw.2 h9
      refine hg_aload_n hC dX6_endFirst_157 rfl 1 rfl (n := 158) rfl ?_
      refine hg_bipush hC dX6_endFirst_158 hl_b16 (n := 160) rfl ?_
      refine hg_iconst hC dX6_endFirst_160 hl_i0 (n := 161) rfl ?_
      refine hg_iconst hC dX6_endFirst_161 hl_i0 (n := 162) rfl ?_
      refine hg_iconst hC dX6_endFirst_162 hl_i0 (n := 163) rfl ?_
      refine hg_iconst hC dX6_endFirst_163 hl_i0 (n := 164) rfl ?_
      refine hg_cVi hC (tM_X6_emit (hg_Eof hC) X.2.1 (d + 1) _ _ _ _ _ _ _ hw) sv_RX6_208 dX6_endFirst_164 qM_0 kM_0 c_6 rfl (rest := []) rfl (Nat.le_of_ble_eq_true rfl) (n := 167) rfl (fun r5 σ4 hw => ?_)
      refine hg_goto hC dX6_endFirst_167 (tg := 171) rfl ?_
      exact hg_sub [1, 2] rfl (tbM_X6_endFirst_171 hC hR  x1 r5 σ4 hw)
  · have hw := hw.2 h9
    refine hg_iconst hC dX6_endFirst_49 hl_i0 (n := 50) rfl ?_
    refine hg_istore hC (L1 := [(4, .int (0 : Int32)), (3, .int t0), (0, .ref (hg_ad X 0)), (1, .int x1), (2, .int x2)]) dX6_endFirst_50 (by decide) rfl (n := 52) rfl ?_
    obtain ⟨n9, hw⟩ := hw
    exact hg_sub [2, 3, 1, 0] rfl (tlM_X6_endFirst_52 hC hR  n9 x1 t0 (0 : Int32) σ3 hw)
set_option maxRecDepth 4000 in
theorem tM_X6_endFirst {E : hg_Et} (hE : hg_Eok E) (l : Launch) (d : Nat) (x1 : Int32) (σ : hg_M) (P : hg_M → Prop) (hw : wM_X6_endFirst x1 σ P) : hg_Nv hg_FM E l yX6_endFirst cX6_endFirst 7 (d + 3) (fun ad => [.ref (ad 0), .int x1]) hg_rM σ P := by
  refine hg_nv hE (by decide) (fun _ => Nat.le_of_ble_eq_true rfl) (fun X hC hR hl => ?_)
  subst hl
  have hC : hg_C hg_FM 7 (d + 3) E cX6_endFirst RX6 X := hC
  show hg_G hg_FM 7 X 0 [(0, .ref (hg_ad X 0)), (1, .int x1)] [] σ hg_rM
  unfold wM_X6_endFirst at hw
  refine hg_aload_n hC dX6_endFirst_0 rfl 0 rfl (n := 1) rfl ?_
  refine hg_getr hC fl_RX6_57 dX6_endFirst_1 qM_0 kM_0 fM_6_27 rM_0_27 (n := 4) rfl ?_
  refine hg_iload_n hC dX6_endFirst_4 rfl 1 rfl (n := 5) rfl ?_
  obtain ⟨h9, hw⟩ := hw
  refine hg_iald hC dX6_endFirst_5 qM_15 kM_15 h9 (n := 6) rfl ?_
  refine hg_topi (fun v1 ev1 => ?_)
  have hw := hw v1 ev1
  refine hg_istore_n hC (L1 := [(2, .int v1), (0, .ref (hg_ad X 0)), (1, .int x1)]) dX6_endFirst_6 rfl (by decide) rfl (n := 7) rfl ?_
  refine hg_aload_n hC dX6_endFirst_7 rfl 1 rfl (n := 8) rfl ?_
  refine hg_getr hC fl_RX6_34 dX6_endFirst_8 qM_0 kM_0 fM_6_15 rM_0_15 (n := 11) rfl ?_
  refine hg_iload_n hC dX6_endFirst_11 rfl 0 rfl (n := 12) rfl ?_
  obtain ⟨h9, hw⟩ := hw
  refine hg_iald hC dX6_endFirst_12 qM_9 kM_9 h9 (n := 13) rfl ?_
  refine hg_aload_n hC dX6_endFirst_13 rfl 1 rfl (n := 14) rfl ?_
  refine hg_getr hC fl_RX6_31 dX6_endFirst_14 qM_0 kM_0 fM_6_14 rM_0_14 (n := 17) rfl ?_
  refine hg_iload_n hC dX6_endFirst_17 rfl 0 rfl (n := 18) rfl ?_
  obtain ⟨h9, hw⟩ := hw
  refine hg_iald hC dX6_endFirst_18 qM_8 kM_8 h9 (n := 19) rfl ?_
  refine hg_icmp_le hC dX6_endFirst_19 (tg := 26) rfl (n := 22) rfl (fun h9 => ?_) (fun h9 => ?_)
  · have hw := hw.1 h9
    refine hg_iconst hC dX6_endFirst_26 hl_i0 (n := 27) rfl ?_
    exact hg_sub [1, 2, 0] rfl (tbM_X6_endFirst_27 hC hR  x1 v1 (0 : Int32) σ hw)
  · have hw := hw.2 h9
    refine hg_iconst hC dX6_endFirst_22 hl_i1 (n := 23) rfl ?_
    refine hg_goto hC dX6_endFirst_23 (tg := 27) rfl ?_
    exact hg_sub [1, 2, 0] rfl (tbM_X6_endFirst_27 hC hR  x1 v1 (1 : Int32) σ hw)
def bM_X6_endSecond_206 (P : hg_M → Prop)   (σ : hg_M) : Prop := P σ
def bM_X6_endSecond_200 (P : hg_M → Prop) (J162 : Int32 → hg_M → Prop) (x2 : Int32) (σ : hg_M) : Prop := ∀ v17 : Int32, v17 = x2 + (1 : Int32) → J162 v17 σ
def lM_X6_endSecond_162 (P : hg_M → Prop)  : Nat → Int32 → hg_M → Prop
  | 0, _, _ => False
  | n + 1, x2, σ => (((16 : Int32) ≤ x2 → bM_X6_endSecond_206 P σ) ∧ (¬ ((16 : Int32) ≤ x2) → vp_in x2 16 ∧ ((((σ 14 (x2).toNatClampNeg) = x2 → bM_X6_endSecond_200 P (fun k0 k1 => lM_X6_endSecond_162 P n k0 k1) x2 σ) ∧ (¬ ((σ 14 (x2).toNatClampNeg) = x2) → vp_in x2 16 ∧ (wM_X6_emit (1 : Int32) x2 (σ 14 (x2).toNatClampNeg) (0 : Int32) (0 : Int32) σ (fun r15 σ14 => vp_in x2 16 ∧ (∀ σ16 : hg_M, σ16 = hg_set σ14 14 (x2).toNatClampNeg x2 → bM_X6_endSecond_200 P (fun k0 k1 => lM_X6_endSecond_162 P n k0 k1) x2 σ16))))))))
def bM_X6_endSecond_147 (P : hg_M → Prop) (J62 : Int32 → Int32 → hg_M → Prop) (x1 : Int32) (x2 : Int32) (σ : hg_M) : Prop := ∀ v8 : Int32, v8 = x2 + (1 : Int32) → J62 x1 v8 σ
def bM_X6_endSecond_110 (P : hg_M → Prop) (J62 : Int32 → Int32 → hg_M → Prop) (x1 : Int32) (x2 : Int32) (x3 : Int32) (σ : hg_M) : Prop := wM_X6_fresh1 σ (fun r10 σ9 => vp_in x1 8 ∧ (vp_in x2 16 ∧ (wM_X6_emit (13 : Int32) r10 (σ9 18 (x1).toNatClampNeg) x3 (σ9 14 (x2).toNatClampNeg) σ9 (fun r12 σ11 => vp_in x2 16 ∧ (∀ σ13 : hg_M, σ13 = hg_set σ11 14 (x2).toNatClampNeg r10 → bM_X6_endSecond_147 P J62 x1 x2 σ13)))))
def lM_X6_endSecond_62 (P : hg_M → Prop)  : Nat → Int32 → Int32 → hg_M → Prop
  | 0, _, _, _ => False
  | n + 1, x1, x2, σ => (((16 : Int32) ≤ x2 → wM_X6_isOnSide σ (fun r5 σ4 => ((r5 ≠ 0 → bM_X6_endSecond_206 P σ4) ∧ (r5 = 0 → (∃ f9, lM_X6_endSecond_162 P f9 (0 : Int32) σ4))))) ∧ (¬ ((16 : Int32) ≤ x2) → vp_in (((16 : Int32) * x1) + x2) 128 ∧ (∀ v6 : Int32, v6 = (σ 22 ((((16 : Int32) * x1) + x2)).toNatClampNeg) → vp_in (((16 : Int32) * x1) + x2) 128 ∧ (∀ v7 : Int32, v7 = (σ 21 ((((16 : Int32) * x1) + x2)).toNatClampNeg) → ((v6 ≠ v7 → bM_X6_endSecond_110 P (fun k0 k1 k2 => lM_X6_endSecond_62 P n k0 k1 k2) x1 x2 v6 σ) ∧ (v6 = v7 → vp_in x2 16 ∧ ((((σ 14 (x2).toNatClampNeg) = v7 → bM_X6_endSecond_147 P (fun k0 k1 k2 => lM_X6_endSecond_62 P n k0 k1 k2) x1 x2 σ) ∧ (¬ ((σ 14 (x2).toNatClampNeg) = v7) → bM_X6_endSecond_110 P (fun k0 k1 k2 => lM_X6_endSecond_62 P n k0 k1 k2) x1 x2 v6 σ)))))))))
def bM_X6_endSecond_59 (P : hg_M → Prop)   (σ : hg_M) : Prop := P σ
def wM_X6_endSecond (x1 : Int32) (σ : hg_M) (P : hg_M → Prop) : Prop := vp_in x1 8 ∧ (∀ σ1 : hg_M, σ1 = hg_set σ 0 24 (σ 15 (x1).toNatClampNeg) → ∀ σ2 : hg_M, σ2 = hg_set σ1 0 26 ((σ1 0 26) - (1 : Int32)) → vp_in x1 8 ∧ ((((σ2 17 (x1).toNatClampNeg) ≠ 0 → (∃ f9, lM_X6_endSecond_62 P f9 x1 (0 : Int32) σ2)) ∧ ((σ2 17 (x1).toNatClampNeg) = 0 → vp_in x1 8 ∧ ((((σ2 20 (x1).toNatClampNeg) = (-1 : Int32) → bM_X6_endSecond_59 P σ2) ∧ (¬ ((σ2 20 (x1).toNatClampNeg) = (-1 : Int32)) → vp_in x1 8 ∧ (vp_in (((6 : Int32) * (σ2 20 (x1).toNatClampNeg)) + (1 : Int32)) 24000 ∧ (∀ σ3 : hg_M, σ3 = hg_set σ2 12 ((((6 : Int32) * (σ2 20 (x1).toNatClampNeg)) + (1 : Int32))).toNatClampNeg (σ2 0 20) → bM_X6_endSecond_59 P σ3)))))))))
set_option maxRecDepth 4000 in
theorem tbM_X6_endSecond_206 {d : Nat} {E : hg_Et} {X : hg_X} {P : hg_M → Prop}  (hC : hg_C hg_FM 7 (d + 2) E cX6_endSecond RX6 X) (hR : hg_Rnv hg_FM hg_rM P X)   (σ : hg_M) (hw : bM_X6_endSecond_206 P  σ) : hg_G hg_FM 7 X 206 [] [] σ hg_rM := by
  unfold bM_X6_endSecond_206 at hw
  exact hg_retv hC hR dX6_endSecond_206 hw
set_option maxRecDepth 4000 in
theorem tbM_X6_endSecond_200 {d : Nat} {E : hg_Et} {X : hg_X} {P : hg_M → Prop} {J162 : Int32 → hg_M → Prop} (hC : hg_C hg_FM 7 (d + 2) E cX6_endSecond RX6 X) (hR : hg_Rnv hg_FM hg_rM P X) (hJ162 : ∀ (x2 : Int32) (σ : hg_M), J162 x2 σ → hg_G hg_FM 7 X 162 [(0, .ref (hg_ad X 0)), (2, .int x2)] [] σ hg_rM) (x2 : Int32) (σ : hg_M) (hw : bM_X6_endSecond_200 P J162 x2 σ) : hg_G hg_FM 7 X 200 [(0, .ref (hg_ad X 0)), (2, .int x2)] [] σ hg_rM := by
  unfold bM_X6_endSecond_200 at hw
  obtain ⟨v17, ev17⟩ : ∃ z, z = x2 + (1 : Int32) := ⟨_, rfl⟩
  have hw := hw v17 ev17
  refine hg_iinc hC (v := v17) (L1 := [(2, .int v17), (0, .ref (hg_ad X 0))]) dX6_endSecond_200 1 rfl (by rw [hl_i1, ev17]) (by decide) rfl (n := 203) rfl ?_
  refine hg_goto hC dX6_endSecond_203 (tg := 162) rfl ?_
  exact hg_sub [1, 0] rfl (hJ162 v17 σ hw)
set_option maxRecDepth 4000 in
theorem tlM_X6_endSecond_162 {d : Nat} {E : hg_Et} {X : hg_X} {P : hg_M → Prop}  (hC : hg_C hg_FM 7 (d + 2) E cX6_endSecond RX6 X) (hR : hg_Rnv hg_FM hg_rM P X)  (n : Nat) : ∀ (x2 : Int32) (σ : hg_M), lM_X6_endSecond_162 P n x2 σ → hg_G hg_FM 7 X 162 [(0, .ref (hg_ad X 0)), (2, .int x2)] [] σ hg_rM := by
  induction n with
  | zero =>
    intro x2 σ hw
    rw [lM_X6_endSecond_162] at hw
    exact hw.elim
  | succ n ih =>
    intro x2 σ hw
    rw [lM_X6_endSecond_162] at hw
    refine hg_iload_n hC dX6_endSecond_162 rfl 1 rfl (n := 163) rfl ?_
    refine hg_bipush hC dX6_endSecond_163 hl_b16 (n := 165) rfl ?_
    refine hg_icmp_ge hC dX6_endSecond_165 (tg := 206) rfl (n := 168) rfl (fun h9 => ?_) (fun h9 => ?_)
    · have hw := hw.1 h9
      exact hg_sub [] rfl (tbM_X6_endSecond_206 hC hR  σ hw)
    · have hw := hw.2 h9
      refine hg_aload_n hC dX6_endSecond_168 rfl 0 rfl (n := 169) rfl ?_
      refine hg_getr hC fl_RX6_54 dX6_endSecond_169 qM_0 kM_0 fM_6_25 rM_0_25 (n := 172) rfl ?_
      refine hg_iload_n hC dX6_endSecond_172 rfl 1 rfl (n := 173) rfl ?_
      obtain ⟨h9, hw⟩ := hw
      refine hg_iald hC dX6_endSecond_173 qM_14 kM_14 h9 (n := 174) rfl ?_
      refine hg_iload_n hC dX6_endSecond_174 rfl 1 rfl (n := 175) rfl ?_
      refine hg_icmp_eq hC dX6_endSecond_175 (tg := 200) rfl (n := 178) rfl (fun h9 => ?_) (fun h9 => ?_)
      · have hw := hw.1 h9
        exact tbM_X6_endSecond_200 hC hR ih x2 σ hw
      · have hw := hw.2 h9
        refine hg_aload_n hC dX6_endSecond_178 rfl 0 rfl (n := 179) rfl ?_
        refine hg_iconst hC dX6_endSecond_179 hl_i1 (n := 180) rfl ?_
        refine hg_iload_n hC dX6_endSecond_180 rfl 1 rfl (n := 181) rfl ?_
        refine hg_aload_n hC dX6_endSecond_181 rfl 0 rfl (n := 182) rfl ?_
        refine hg_getr hC fl_RX6_54 dX6_endSecond_182 qM_0 kM_0 fM_6_25 rM_0_25 (n := 185) rfl ?_
        refine hg_iload_n hC dX6_endSecond_185 rfl 1 rfl (n := 186) rfl ?_
        obtain ⟨h9, hw⟩ := hw
        refine hg_iald hC dX6_endSecond_186 qM_14 kM_14 h9 (n := 187) rfl ?_
        refine hg_iconst hC dX6_endSecond_187 hl_i0 (n := 188) rfl ?_
        refine hg_iconst hC dX6_endSecond_188 hl_i0 (n := 189) rfl ?_
        refine hg_cVi hC (tM_X6_emit (hg_Eof hC) X.2.1 (d + 0) _ _ _ _ _ _ _ hw) sv_RX6_208 dX6_endSecond_189 qM_0 kM_0 c_6 rfl (rest := []) rfl (Nat.le_of_ble_eq_true rfl) (n := 192) rfl (fun r15 σ14 hw => ?_)
        refine hg_istore_n hC (L1 := [(3, .int r15), (0, .ref (hg_ad X 0)), (2, .int x2)]) dX6_endSecond_192 rfl (by decide) rfl (n := 193) rfl ?_
        refine hg_aload_n hC dX6_endSecond_193 rfl 1 rfl (n := 194) rfl ?_
        refine hg_getr hC fl_RX6_54 dX6_endSecond_194 qM_0 kM_0 fM_6_25 rM_0_25 (n := 197) rfl ?_
        refine hg_iload_n hC dX6_endSecond_197 rfl 2 rfl (n := 198) rfl ?_
        refine hg_iload_n hC dX6_endSecond_198 rfl 2 rfl (n := 199) rfl ?_
        obtain ⟨h9, hw⟩ := hw
        refine hg_iast hC dX6_endSecond_199 qM_14 kM_14 h9 (n := 200) rfl (fun σ16 eσ16 => ?_)
        have hw := hw σ16 eσ16
        exact hg_sub [1, 2] rfl (tbM_X6_endSecond_200 hC hR ih x2 σ16 hw)
set_option maxRecDepth 4000 in
theorem tbM_X6_endSecond_147 {d : Nat} {E : hg_Et} {X : hg_X} {P : hg_M → Prop} {J62 : Int32 → Int32 → hg_M → Prop} (hC : hg_C hg_FM 7 (d + 2) E cX6_endSecond RX6 X) (hR : hg_Rnv hg_FM hg_rM P X) (hJ62 : ∀ (x1 : Int32) (x2 : Int32) (σ : hg_M), J62 x1 x2 σ → hg_G hg_FM 7 X 62 [(0, .ref (hg_ad X 0)), (1, .int x1), (2, .int x2)] [] σ hg_rM) (x1 : Int32) (x2 : Int32) (σ : hg_M) (hw : bM_X6_endSecond_147 P J62 x1 x2 σ) : hg_G hg_FM 7 X 147 [(0, .ref (hg_ad X 0)), (1, .int x1), (2, .int x2)] [] σ hg_rM := by
  unfold bM_X6_endSecond_147 at hw
  obtain ⟨v8, ev8⟩ : ∃ z, z = x2 + (1 : Int32) := ⟨_, rfl⟩
  have hw := hw v8 ev8
  refine hg_iinc hC (v := v8) (L1 := [(2, .int v8), (0, .ref (hg_ad X 0)), (1, .int x1)]) dX6_endSecond_147 2 rfl (by rw [hl_i1, ev8]) (by decide) rfl (n := 150) rfl ?_
  refine hg_goto hC dX6_endSecond_150 (tg := 62) rfl ?_
  exact hg_sub [1, 2, 0] rfl (hJ62 x1 v8 σ hw)
set_option maxRecDepth 4000 in
theorem tbM_X6_endSecond_110 {d : Nat} {E : hg_Et} {X : hg_X} {P : hg_M → Prop} {J62 : Int32 → Int32 → hg_M → Prop} (hC : hg_C hg_FM 7 (d + 2) E cX6_endSecond RX6 X) (hR : hg_Rnv hg_FM hg_rM P X) (hJ62 : ∀ (x1 : Int32) (x2 : Int32) (σ : hg_M), J62 x1 x2 σ → hg_G hg_FM 7 X 62 [(0, .ref (hg_ad X 0)), (1, .int x1), (2, .int x2)] [] σ hg_rM) (x1 : Int32) (x2 : Int32) (x3 : Int32) (σ : hg_M) (hw : bM_X6_endSecond_110 P J62 x1 x2 x3 σ) : hg_G hg_FM 7 X 110 [(0, .ref (hg_ad X 0)), (1, .int x1), (2, .int x2), (3, .int x3)] [] σ hg_rM := by
  unfold bM_X6_endSecond_110 at hw
  refine hg_aload_n hC dX6_endSecond_110 rfl 0 rfl (n := 111) rfl ?_
  refine hg_cVi hC (tM_X6_fresh1 (hg_Eof hC) X.2.1 (d + 0) _ _ hw) sv_RX6_205 dX6_endSecond_111 qM_0 kM_0 c_6 rfl (rest := []) rfl (Nat.le_of_ble_eq_true rfl) (n := 114) rfl (fun r10 σ9 hw => ?_)
  refine hg_istore hC (L1 := [(5, .int r10), (0, .ref (hg_ad X 0)), (1, .int x1), (2, .int x2), (3, .int x3)]) dX6_endSecond_114 (by decide) rfl (n := 116) rfl ?_
  refine hg_aload_n hC dX6_endSecond_116 rfl 1 rfl (n := 117) rfl ?_
  refine hg_bipush hC dX6_endSecond_117 hl_b13 (n := 119) rfl ?_
  refine hg_iload hC dX6_endSecond_119 0 rfl (n := 121) rfl ?_
  refine hg_aload_n hC dX6_endSecond_121 rfl 1 rfl (n := 122) rfl ?_
  refine hg_getr hC fl_RX6_66 dX6_endSecond_122 qM_0 kM_0 fM_6_30 rM_0_30 (n := 125) rfl ?_
  refine hg_iload_n hC dX6_endSecond_125 rfl 2 rfl (n := 126) rfl ?_
  obtain ⟨h9, hw⟩ := hw
  refine hg_iald hC dX6_endSecond_126 qM_18 kM_18 h9 (n := 127) rfl ?_
  refine hg_iload_n hC dX6_endSecond_127 rfl 4 rfl (n := 128) rfl ?_
  refine hg_aload_n hC dX6_endSecond_128 rfl 1 rfl (n := 129) rfl ?_
  refine hg_getr hC fl_RX6_54 dX6_endSecond_129 qM_0 kM_0 fM_6_25 rM_0_25 (n := 132) rfl ?_
  refine hg_iload_n hC dX6_endSecond_132 rfl 3 rfl (n := 133) rfl ?_
  obtain ⟨h9, hw⟩ := hw
  refine hg_iald hC dX6_endSecond_133 qM_14 kM_14 h9 (n := 134) rfl ?_
  refine hg_cVi hC (tM_X6_emit (hg_Eof hC) X.2.1 (d + 0) _ _ _ _ _ _ _ hw) sv_RX6_208 dX6_endSecond_134 qM_0 kM_0 c_6 rfl (rest := []) rfl (Nat.le_of_ble_eq_true rfl) (n := 137) rfl (fun r12 σ11 hw => ?_)
  refine hg_istore hC (L1 := [(6, .int r12), (5, .int r10), (0, .ref (hg_ad X 0)), (1, .int x1), (2, .int x2), (3, .int x3)]) dX6_endSecond_137 (by decide) rfl (n := 139) rfl ?_
  refine hg_aload_n hC dX6_endSecond_139 rfl 2 rfl (n := 140) rfl ?_
  refine hg_getr hC fl_RX6_54 dX6_endSecond_140 qM_0 kM_0 fM_6_25 rM_0_25 (n := 143) rfl ?_
  refine hg_iload_n hC dX6_endSecond_143 rfl 4 rfl (n := 144) rfl ?_
  refine hg_iload hC dX6_endSecond_144 1 rfl (n := 146) rfl ?_
  obtain ⟨h9, hw⟩ := hw
  refine hg_iast hC dX6_endSecond_146 qM_14 kM_14 h9 (n := 147) rfl (fun σ13 eσ13 => ?_)
  have hw := hw σ13 eσ13
  exact hg_sub [2, 3, 4] rfl (tbM_X6_endSecond_147 hC hR hJ62 x1 x2 σ13 hw)
set_option maxRecDepth 4000 in
theorem tlM_X6_endSecond_62 {d : Nat} {E : hg_Et} {X : hg_X} {P : hg_M → Prop}  (hC : hg_C hg_FM 7 (d + 2) E cX6_endSecond RX6 X) (hR : hg_Rnv hg_FM hg_rM P X)  (n : Nat) : ∀ (x1 : Int32) (x2 : Int32) (σ : hg_M), lM_X6_endSecond_62 P n x1 x2 σ → hg_G hg_FM 7 X 62 [(0, .ref (hg_ad X 0)), (1, .int x1), (2, .int x2)] [] σ hg_rM := by
  induction n with
  | zero =>
    intro x1 x2 σ hw
    rw [lM_X6_endSecond_62] at hw
    exact hw.elim
  | succ n ih =>
    intro x1 x2 σ hw
    rw [lM_X6_endSecond_62] at hw
    refine hg_iload_n hC dX6_endSecond_62 rfl 2 rfl (n := 63) rfl ?_
    refine hg_bipush hC dX6_endSecond_63 hl_b16 (n := 65) rfl ?_
    refine hg_icmp_ge hC dX6_endSecond_65 (tg := 153) rfl (n := 68) rfl (fun h9 => ?_) (fun h9 => ?_)
    · have hw := hw.1 h9
      refine hg_aload_n hC dX6_endSecond_153 rfl 0 rfl (n := 154) rfl ?_
      refine hg_cVi hC (tM_X6_isOnSide (hg_Eof hC) X.2.1 (d + 0) _ _ hw) sv_RX6_228 dX6_endSecond_154 qM_0 kM_0 c_6 rfl (rest := []) rfl (Nat.le_of_ble_eq_true rfl) (n := 157) rfl (fun r5 σ4 hw => ?_)
      refine hg_if_ne hC dX6_endSecond_157 (tg := 206) rfl (n := 160) rfl (fun h9 => ?_) (fun h9 => ?_)
      · have hw := hw.1 h9
        exact hg_sub [] rfl (tbM_X6_endSecond_206 hC hR  σ4 hw)
      · have hw := hw.2 h9
        refine hg_iconst hC dX6_endSecond_160 hl_i0 (n := 161) rfl ?_
        refine hg_istore_n hC (L1 := [(2, .int (0 : Int32)), (0, .ref (hg_ad X 0)), (1, .int x1)]) dX6_endSecond_161 rfl (by decide) rfl (n := 162) rfl ?_
        obtain ⟨n9, hw⟩ := hw
        exact hg_sub [1, 0] rfl (tlM_X6_endSecond_162 hC hR  n9 (0 : Int32) σ4 hw)
    · have hw := hw.2 h9
      refine hg_aload_n hC dX6_endSecond_68 rfl 0 rfl (n := 69) rfl ?_
      refine hg_getr hC fl_RX6_78 dX6_endSecond_69 qM_0 kM_0 fM_6_34 rM_0_34 (n := 72) rfl ?_
      refine hg_bipush hC dX6_endSecond_72 hl_b16 (n := 74) rfl ?_
      refine hg_iload_n hC dX6_endSecond_74 rfl 1 rfl (n := 75) rfl ?_
      refine hg_imul hC dX6_endSecond_75 (n := 76) rfl ?_
      refine hg_iload_n hC dX6_endSecond_76 rfl 2 rfl (n := 77) rfl ?_
      refine hg_iadd hC dX6_endSecond_77 (n := 78) rfl ?_
      obtain ⟨h9, hw⟩ := hw
      refine hg_iald hC dX6_endSecond_78 qM_22 kM_22 h9 (n := 79) rfl ?_
      refine hg_topi (fun v6 ev6 => ?_)
      have hw := hw v6 ev6
      refine hg_istore_n hC (L1 := [(3, .int v6), (0, .ref (hg_ad X 0)), (1, .int x1), (2, .int x2)]) dX6_endSecond_79 rfl (by decide) rfl (n := 80) rfl ?_
      refine hg_aload_n hC dX6_endSecond_80 rfl 1 rfl (n := 81) rfl ?_
      refine hg_getr hC fl_RX6_75 dX6_endSecond_81 qM_0 kM_0 fM_6_33 rM_0_33 (n := 84) rfl ?_
      refine hg_bipush hC dX6_endSecond_84 hl_b16 (n := 86) rfl ?_
      refine hg_iload_n hC dX6_endSecond_86 rfl 2 rfl (n := 87) rfl ?_
      refine hg_imul hC dX6_endSecond_87 (n := 88) rfl ?_
      refine hg_iload_n hC dX6_endSecond_88 rfl 3 rfl (n := 89) rfl ?_
      refine hg_iadd hC dX6_endSecond_89 (n := 90) rfl ?_
      obtain ⟨h9, hw⟩ := hw
      refine hg_iald hC dX6_endSecond_90 qM_21 kM_21 h9 (n := 91) rfl ?_
      refine hg_topi (fun v7 ev7 => ?_)
      have hw := hw v7 ev7
      refine hg_istore hC (L1 := [(4, .int v7), (3, .int v6), (0, .ref (hg_ad X 0)), (1, .int x1), (2, .int x2)]) dX6_endSecond_91 (by decide) rfl (n := 93) rfl ?_
      refine hg_iload_n hC dX6_endSecond_93 rfl 1 rfl (n := 94) rfl ?_
      refine hg_iload hC dX6_endSecond_94 0 rfl (n := 96) rfl ?_
      refine hg_icmp_ne hC dX6_endSecond_96 (tg := 110) rfl (n := 99) rfl (fun h9 => ?_) (fun h9 => ?_)
      · have hw := hw.1 h9
        exact hg_sub [2, 3, 4, 1] rfl (tbM_X6_endSecond_110 hC hR ih x1 x2 v6 σ hw)
      · have hw := hw.2 h9
        refine hg_aload_n hC dX6_endSecond_99 rfl 2 rfl (n := 100) rfl ?_
        refine hg_getr hC fl_RX6_54 dX6_endSecond_100 qM_0 kM_0 fM_6_25 rM_0_25 (n := 103) rfl ?_
        refine hg_iload_n hC dX6_endSecond_103 rfl 4 rfl (n := 104) rfl ?_
        obtain ⟨h9, hw⟩ := hw
        refine hg_iald hC dX6_endSecond_104 qM_14 kM_14 h9 (n := 105) rfl ?_
        refine hg_iload hC dX6_endSecond_105 0 rfl (n := 107) rfl ?_
        refine hg_icmp_eq hC dX6_endSecond_107 (tg := 147) rfl (n := 110) rfl (fun h9 => ?_) (fun h9 => ?_)
        · have hw := hw.1 h9
          exact hg_sub [2, 3, 4] rfl (tbM_X6_endSecond_147 hC hR ih x1 x2 σ hw)
        · have hw := hw.2 h9
          exact hg_sub [2, 3, 4, 1] rfl (tbM_X6_endSecond_110 hC hR ih x1 x2 v6 σ hw)
set_option maxRecDepth 4000 in
theorem tbM_X6_endSecond_59 {d : Nat} {E : hg_Et} {X : hg_X} {P : hg_M → Prop}  (hC : hg_C hg_FM 7 (d + 2) E cX6_endSecond RX6 X) (hR : hg_Rnv hg_FM hg_rM P X)   (σ : hg_M) (hw : bM_X6_endSecond_59 P  σ) : hg_G hg_FM 7 X 59 [] [] σ hg_rM := by
  unfold bM_X6_endSecond_59 at hw
  exact hg_retv hC hR dX6_endSecond_59 hw
set_option maxRecDepth 4000 in
theorem tM_X6_endSecond {E : hg_Et} (hE : hg_Eok E) (l : Launch) (d : Nat) (x1 : Int32) (σ : hg_M) (P : hg_M → Prop) (hw : wM_X6_endSecond x1 σ P) : hg_Nv hg_FM E l yX6_endSecond cX6_endSecond 7 (d + 2) (fun ad => [.ref (ad 0), .int x1]) hg_rM σ P := by
  refine hg_nv hE (by decide) (fun _ => Nat.le_of_ble_eq_true rfl) (fun X hC hR hl => ?_)
  subst hl
  have hC : hg_C hg_FM 7 (d + 2) E cX6_endSecond RX6 X := hC
  show hg_G hg_FM 7 X 0 [(0, .ref (hg_ad X 0)), (1, .int x1)] [] σ hg_rM
  unfold wM_X6_endSecond at hw
  refine hg_aload_n hC dX6_endSecond_0 rfl 0 rfl (n := 1) rfl ?_
  refine hg_aload_n hC dX6_endSecond_1 rfl 0 rfl (n := 2) rfl ?_
  refine hg_getr hC fl_RX6_57 dX6_endSecond_2 qM_0 kM_0 fM_6_27 rM_0_27 (n := 5) rfl ?_
  refine hg_iload_n hC dX6_endSecond_5 rfl 1 rfl (n := 6) rfl ?_
  obtain ⟨h9, hw⟩ := hw
  refine hg_iald hC dX6_endSecond_6 qM_15 kM_15 h9 (n := 7) rfl ?_
  refine hg_puti hC fp_RX6_202 dX6_endSecond_7 qM_0 kM_0 fM_6_24 rfl rfl (n := 10) rfl (fun σ1 eσ1 => ?_)
  have hw := hw σ1 eσ1
  refine hg_aload_n hC dX6_endSecond_10 rfl 0 rfl (n := 11) rfl ?_
  refine hg_dup hC dX6_endSecond_11 rfl (n := 12) rfl ?_
  refine hg_geti hC fl_RX6_219 dX6_endSecond_12 qM_0 kM_0 fM_6_26 (n := 15) rfl ?_
  refine hg_iconst hC dX6_endSecond_15 hl_i1 (n := 16) rfl ?_
  refine hg_isub hC dX6_endSecond_16 (n := 17) rfl ?_
  refine hg_puti hC fp_RX6_219 dX6_endSecond_17 qM_0 kM_0 fM_6_26 rfl rfl (n := 20) rfl (fun σ2 eσ2 => ?_)
  have hw := hw σ2 eσ2
  refine hg_aload_n hC dX6_endSecond_20 rfl 0 rfl (n := 21) rfl ?_
  refine hg_getr hC fl_RX6_63 dX6_endSecond_21 qM_0 kM_0 fM_6_29 rM_0_29 (n := 24) rfl ?_
  refine hg_iload_n hC dX6_endSecond_24 rfl 1 rfl (n := 25) rfl ?_
  obtain ⟨h9, hw⟩ := hw
  refine hg_zald hC dX6_endSecond_25 qM_17 kM_17 h9 (n := 26) rfl ?_
  refine hg_if_ne hC dX6_endSecond_26 (tg := 60) rfl (n := 29) rfl (fun h9 => ?_) (fun h9 => ?_)
  · have hw := hw.1 h9
    refine hg_iconst hC dX6_endSecond_60 hl_i0 (n := 61) rfl ?_
    refine hg_istore_n hC (L1 := [(2, .int (0 : Int32)), (0, .ref (hg_ad X 0)), (1, .int x1)]) dX6_endSecond_61 rfl (by decide) rfl (n := 62) rfl ?_
    obtain ⟨n9, hw⟩ := hw
    exact hg_sub [1, 2, 0] rfl (tlM_X6_endSecond_62 hC hR  n9 x1 (0 : Int32) σ2 hw)
  · have hw := hw.2 h9
    refine hg_aload_n hC dX6_endSecond_29 rfl 0 rfl (n := 30) rfl ?_
    refine hg_getr hC fl_RX6_72 dX6_endSecond_30 qM_0 kM_0 fM_6_32 rM_0_32 (n := 33) rfl ?_
    refine hg_iload_n hC dX6_endSecond_33 rfl 1 rfl (n := 34) rfl ?_
    obtain ⟨h9, hw⟩ := hw
    refine hg_iald hC dX6_endSecond_34 qM_20 kM_20 h9 (n := 35) rfl ?_
    refine hg_iconst hC dX6_endSecond_35 hl_im1 (n := 36) rfl ?_
    refine hg_icmp_eq hC dX6_endSecond_36 (tg := 59) rfl (n := 39) rfl (fun h9 => ?_) (fun h9 => ?_)
    · have hw := hw.1 h9
      exact hg_sub [] rfl (tbM_X6_endSecond_59 hC hR  σ2 hw)
    · have hw := hw.2 h9
      refine hg_aload_n hC dX6_endSecond_39 rfl 0 rfl (n := 40) rfl ?_
      refine hg_getr hC fl_RX6_44 dX6_endSecond_40 qM_0 kM_0 fM_6_19 rM_0_19 (n := 43) rfl ?_
      refine hg_bipush hC dX6_endSecond_43 hl_b6 (n := 45) rfl ?_
      refine hg_aload_n hC dX6_endSecond_45 rfl 0 rfl (n := 46) rfl ?_
      refine hg_getr hC fl_RX6_72 dX6_endSecond_46 qM_0 kM_0 fM_6_32 rM_0_32 (n := 49) rfl ?_
      refine hg_iload_n hC dX6_endSecond_49 rfl 1 rfl (n := 50) rfl ?_
      obtain ⟨h9, hw⟩ := hw
      refine hg_iald hC dX6_endSecond_50 qM_20 kM_20 h9 (n := 51) rfl ?_
      refine hg_imul hC dX6_endSecond_51 (n := 52) rfl ?_
      refine hg_iconst hC dX6_endSecond_52 hl_i1 (n := 53) rfl ?_
      refine hg_iadd hC dX6_endSecond_53 (n := 54) rfl ?_
      refine hg_aload_n hC dX6_endSecond_54 rfl 0 rfl (n := 55) rfl ?_
      refine hg_geti hC fl_RX6_199 dX6_endSecond_55 qM_0 kM_0 fM_6_20 (n := 58) rfl ?_
      obtain ⟨h9, hw⟩ := hw
      refine hg_iast hC dX6_endSecond_58 qM_12 kM_12 h9 (n := 59) rfl (fun σ3 eσ3 => ?_)
      have hw := hw σ3 eσ3
      exact hg_sub [] rfl (tbM_X6_endSecond_59 hC hR  σ3 hw)
def wM_X6_harmless (x1 : Int32) (x2 : Int32) (σ : hg_M) (P : Int32 → hg_M → Prop) : Prop := wM_X6_setNew x2 σ (fun r2 σ1 => wM_X6_fresh1 σ1 (fun r4 σ3 => vp_in ((σ3 0 26) - (1 : Int32)) 8 ∧ (wM_X6_emit (13 : Int32) r4 (σ3 19 (((σ3 0 26) - (1 : Int32))).toNatClampNeg) x1 r2 σ3 (fun r6 σ5 => P r4 σ5))))
set_option maxRecDepth 4000 in
theorem tM_X6_harmless {E : hg_Et} (hE : hg_Eok E) (l : Launch) (d : Nat) (x1 : Int32) (x2 : Int32) (σ : hg_M) (P : Int32 → hg_M → Prop) (hw : wM_X6_harmless x1 x2 σ P) : hg_Ni hg_FM E l yX6_harmless cX6_harmless 6 (some .int) (d + 3) (fun ad => [.ref (ad 0), .int x1, .int x2]) hg_rM σ P := by
  refine hg_ni hE (by decide) (fun _ => Nat.le_of_ble_eq_true rfl) (fun X hC hR hl => ?_)
  subst hl
  have hC : hg_C hg_FM 6 (d + 3) E cX6_harmless RX6 X := hC
  show hg_G hg_FM 6 X 0 [(0, .ref (hg_ad X 0)), (1, .int x1), (2, .int x2)] [] σ hg_rM
  unfold wM_X6_harmless at hw
  refine hg_aload_n hC dX6_harmless_0 rfl 0 rfl (n := 1) rfl ?_
  refine hg_iload_n hC dX6_harmless_1 rfl 2 rfl (n := 2) rfl ?_
  refine hg_cVi hC (tM_X6_setNew (hg_Eof hC) X.2.1 (d + 0) _ _ _ hw) sv_RX6_216 dX6_harmless_2 qM_0 kM_0 c_6 rfl (rest := []) rfl (Nat.le_of_ble_eq_true rfl) (n := 5) rfl (fun r2 σ1 hw => ?_)
  refine hg_istore_n hC (L1 := [(3, .int r2), (0, .ref (hg_ad X 0)), (1, .int x1), (2, .int x2)]) dX6_harmless_5 rfl (by decide) rfl (n := 6) rfl ?_
  refine hg_aload_n hC dX6_harmless_6 rfl 1 rfl (n := 7) rfl ?_
  refine hg_cVi hC (tM_X6_fresh1 (hg_Eof hC) X.2.1 (d + 1) _ _ hw) sv_RX6_205 dX6_harmless_7 qM_0 kM_0 c_6 rfl (rest := []) rfl (Nat.le_of_ble_eq_true rfl) (n := 10) rfl (fun r4 σ3 hw => ?_)
  refine hg_istore hC (L1 := [(4, .int r4), (3, .int r2), (0, .ref (hg_ad X 0)), (1, .int x1), (2, .int x2)]) dX6_harmless_10 (by decide) rfl (n := 12) rfl ?_
  refine hg_aload_n hC dX6_harmless_12 rfl 2 rfl (n := 13) rfl ?_
  refine hg_bipush hC dX6_harmless_13 hl_b13 (n := 15) rfl ?_
  refine hg_iload hC dX6_harmless_15 0 rfl (n := 17) rfl ?_
  refine hg_aload_n hC dX6_harmless_17 rfl 2 rfl (n := 18) rfl ?_
  refine hg_getr hC fl_RX6_69 dX6_harmless_18 qM_0 kM_0 fM_6_31 rM_0_31 (n := 21) rfl ?_
  refine hg_aload_n hC dX6_harmless_21 rfl 2 rfl (n := 22) rfl ?_
  refine hg_geti hC fl_RX6_219 dX6_harmless_22 qM_0 kM_0 fM_6_26 (n := 25) rfl ?_
  refine hg_iconst hC dX6_harmless_25 hl_i1 (n := 26) rfl ?_
  refine hg_isub hC dX6_harmless_26 (n := 27) rfl ?_
  obtain ⟨h9, hw⟩ := hw
  refine hg_iald hC dX6_harmless_27 qM_19 kM_19 h9 (n := 28) rfl ?_
  refine hg_iload_n hC dX6_harmless_28 rfl 3 rfl (n := 29) rfl ?_
  refine hg_iload_n hC dX6_harmless_29 rfl 1 rfl (n := 30) rfl ?_
  refine hg_cVi hC (tM_X6_emit (hg_Eof hC) X.2.1 (d + 1) _ _ _ _ _ _ _ hw) sv_RX6_208 dX6_harmless_30 qM_0 kM_0 c_6 rfl (rest := []) rfl (Nat.le_of_ble_eq_true rfl) (n := 33) rfl (fun r6 σ5 hw => ?_)
  refine hg_istore hC (L1 := [(5, .int r6), (4, .int r4), (3, .int r2), (0, .ref (hg_ad X 0)), (1, .int x1), (2, .int x2)]) dX6_harmless_33 (by decide) rfl (n := 35) rfl ?_
  refine hg_iload hC dX6_harmless_35 1 rfl (n := 37) rfl ?_
  exact hg_reti hC hR dX6_harmless_37 hw
def bM_X6_isPlainIndex_31 (P : Int32 → hg_M → Prop)  (t0 : Int32) (σ : hg_M) : Prop := ((t0 = 0 ∨ t0 = 1) ∧ P t0 σ)
def bM_X6_isPlainIndex_30 (P : Int32 → hg_M → Prop)   (σ : hg_M) : Prop := bM_X6_isPlainIndex_31 P (0 : Int32) σ
def wM_X6_isPlainIndex (x1 : Int32) (σ : hg_M) (P : Int32 → hg_M → Prop) : Prop := wM_X6_of x1 (3 : Int32) σ (fun r2 σ1 => ((r2 ≠ 0 → bM_X6_isPlainIndex_30 P σ1) ∧ (r2 = 0 → wM_X6_of x1 (4 : Int32) σ1 (fun r4 σ3 => wM_X6_isIn (r4).toInt64 (0 : Int64) (31 : Int64) σ3 (fun r6 σ5 => ((r6 = 0 → bM_X6_isPlainIndex_30 P σ5) ∧ (¬ r6 = 0 → bM_X6_isPlainIndex_31 P (1 : Int32) σ5)))))))
set_option maxRecDepth 4000 in
theorem tbM_X6_isPlainIndex_31 {d : Nat} {E : hg_Et} {X : hg_X} {P : Int32 → hg_M → Prop}  (hC : hg_C hg_FM 2 (d + 2) E cX6_isPlainIndex RX6 X) (hR : hg_Rni hg_FM (some .boolean) hg_rM P X)  (t0 : Int32) (σ : hg_M) (hw : bM_X6_isPlainIndex_31 P t0 σ) : hg_G hg_FM 2 X 31 [] [.int t0] σ hg_rM := by
  unfold bM_X6_isPlainIndex_31 at hw
  exact hg_retz hC hR dX6_isPlainIndex_31 hw
set_option maxRecDepth 4000 in
theorem tbM_X6_isPlainIndex_30 {d : Nat} {E : hg_Et} {X : hg_X} {P : Int32 → hg_M → Prop}  (hC : hg_C hg_FM 2 (d + 2) E cX6_isPlainIndex RX6 X) (hR : hg_Rni hg_FM (some .boolean) hg_rM P X)   (σ : hg_M) (hw : bM_X6_isPlainIndex_30 P  σ) : hg_G hg_FM 2 X 30 [] [] σ hg_rM := by
  unfold bM_X6_isPlainIndex_30 at hw
  refine hg_iconst hC dX6_isPlainIndex_30 hl_i0 (n := 31) rfl ?_
  exact tbM_X6_isPlainIndex_31 hC hR  (0 : Int32) σ hw
set_option maxRecDepth 4000 in
theorem tM_X6_isPlainIndex {E : hg_Et} (hE : hg_Eok E) (l : Launch) (d : Nat) (x1 : Int32) (σ : hg_M) (P : Int32 → hg_M → Prop) (hw : wM_X6_isPlainIndex x1 σ P) : hg_Ni hg_FM E l yX6_isPlainIndex cX6_isPlainIndex 2 (some .boolean) (d + 2) (fun ad => [.ref (ad 0), .int x1]) hg_rM σ P := by
  refine hg_ni hE (by decide) (fun _ => Nat.le_of_ble_eq_true rfl) (fun X hC hR hl => ?_)
  subst hl
  have hC : hg_C hg_FM 2 (d + 2) E cX6_isPlainIndex RX6 X := hC
  show hg_G hg_FM 2 X 0 [(0, .ref (hg_ad X 0)), (1, .int x1)] [] σ hg_rM
  unfold wM_X6_isPlainIndex at hw
  refine hg_aload_n hC dX6_isPlainIndex_0 rfl 0 rfl (n := 1) rfl ?_
  refine hg_iload_n hC dX6_isPlainIndex_1 rfl 1 rfl (n := 2) rfl ?_
  refine hg_iconst hC dX6_isPlainIndex_2 hl_i3 (n := 3) rfl ?_
  refine hg_cVi hC (tM_X6_of (hg_Eof hC) X.2.1 (d + 0) _ _ _ _ hw) sv_RX6_212 dX6_isPlainIndex_3 qM_0 kM_0 c_6 rfl (rest := []) rfl (Nat.le_of_ble_eq_true rfl) (n := 6) rfl (fun r2 σ1 hw => ?_)
  refine hg_if_ne hC dX6_isPlainIndex_6 (tg := 30) rfl (n := 9) rfl (fun h9 => ?_) (fun h9 => ?_)
  · have hw := hw.1 h9
    exact hg_sub [] rfl (tbM_X6_isPlainIndex_30 hC hR  σ1 hw)
  · have hw := hw.2 h9
    refine hg_aload_n hC dX6_isPlainIndex_9 rfl 0 rfl (n := 10) rfl ?_
    refine hg_iload_n hC dX6_isPlainIndex_10 rfl 1 rfl (n := 11) rfl ?_
    refine hg_iconst hC dX6_isPlainIndex_11 hl_i4 (n := 12) rfl ?_
    refine hg_cVi hC (tM_X6_of (hg_Eof hC) X.2.1 (d + 0) _ _ _ _ hw) sv_RX6_212 dX6_isPlainIndex_12 qM_0 kM_0 c_6 rfl (rest := []) rfl (Nat.le_of_ble_eq_true rfl) (n := 15) rfl (fun r4 σ3 hw => ?_)
    refine hg_i2l hC dX6_isPlainIndex_15 rfl (n := 16) rfl ?_
    refine hg_lconst hC dX6_isPlainIndex_16 hl_l0 (n := 17) rfl ?_
    refine hg_ldc2 hC dX6_isPlainIndex_17 kl_RX6_115 (n := 20) rfl ?_
    refine hg_cSi hC (tM_X6_isIn (hg_Eof hC) X.2.1 (d + 0) _ _ _ _ _ hw) ss_RX6_107 dX6_isPlainIndex_20 rfl (rest := []) rfl (Nat.le_of_ble_eq_true rfl) (n := 23) rfl (fun r6 σ5 hw => ?_)
    refine hg_if_eq hC dX6_isPlainIndex_23 (tg := 30) rfl (n := 26) rfl (fun h9 => ?_) (fun h9 => ?_)
    · have hw := hw.1 h9
      exact hg_sub [] rfl (tbM_X6_isPlainIndex_30 hC hR  σ5 hw)
    · have hw := hw.2 h9
      refine hg_iconst hC dX6_isPlainIndex_26 hl_i1 (n := 27) rfl ?_
      refine hg_goto hC dX6_isPlainIndex_27 (tg := 31) rfl ?_
      exact hg_sub [] rfl (tbM_X6_isPlainIndex_31 hC hR  (1 : Int32) σ5 hw)
def wM_X6_target (x1 : Int32) (σ : hg_M) (P : Int32 → hg_M → Prop) : Prop := wM_X6_of x1 (1 : Int32) σ (fun r2 σ1 => wM_X6_isOnSide σ1 (fun r4 σ3 => ((r4 ≠ 0 → wM_X6_fresh1 σ3 (fun r6 σ5 => vp_in r2 16 ∧ (∀ σ7 : hg_M, σ7 = hg_set σ5 14 (r2).toNatClampNeg r6 → vp_in r2 16 ∧ (P (σ7 14 (r2).toNatClampNeg) σ7)))) ∧ (r4 = 0 → P r2 σ3))))
set_option maxRecDepth 4000 in
theorem tM_X6_target {E : hg_Et} (hE : hg_Eok E) (l : Launch) (d : Nat) (x1 : Int32) (σ : hg_M) (P : Int32 → hg_M → Prop) (hw : wM_X6_target x1 σ P) : hg_Ni hg_FM E l yX6_target cX6_target 3 (some .int) (d + 2) (fun ad => [.ref (ad 0), .int x1]) hg_rM σ P := by
  refine hg_ni hE (by decide) (fun _ => Nat.le_of_ble_eq_true rfl) (fun X hC hR hl => ?_)
  subst hl
  have hC : hg_C hg_FM 3 (d + 2) E cX6_target RX6 X := hC
  show hg_G hg_FM 3 X 0 [(0, .ref (hg_ad X 0)), (1, .int x1)] [] σ hg_rM
  unfold wM_X6_target at hw
  refine hg_aload_n hC dX6_target_0 rfl 0 rfl (n := 1) rfl ?_
  refine hg_iload_n hC dX6_target_1 rfl 1 rfl (n := 2) rfl ?_
  refine hg_iconst hC dX6_target_2 hl_i1 (n := 3) rfl ?_
  refine hg_cVi hC (tM_X6_of (hg_Eof hC) X.2.1 (d + 0) _ _ _ _ hw) sv_RX6_212 dX6_target_3 qM_0 kM_0 c_6 rfl (rest := []) rfl (Nat.le_of_ble_eq_true rfl) (n := 6) rfl (fun r2 σ1 hw => ?_)
  refine hg_istore_n hC (L1 := [(2, .int r2), (0, .ref (hg_ad X 0)), (1, .int x1)]) dX6_target_6 rfl (by decide) rfl (n := 7) rfl ?_
  refine hg_aload_n hC dX6_target_7 rfl 1 rfl (n := 8) rfl ?_
  refine hg_cVi hC (tM_X6_isOnSide (hg_Eof hC) X.2.1 (d + 0) _ _ hw) sv_RX6_228 dX6_target_8 qM_0 kM_0 c_6 rfl (rest := []) rfl (Nat.le_of_ble_eq_true rfl) (n := 11) rfl (fun r4 σ3 hw => ?_)
  refine hg_if_ne hC dX6_target_11 (tg := 16) rfl (n := 14) rfl (fun h9 => ?_) (fun h9 => ?_)
  · have hw := hw.1 h9
    refine hg_aload_n hC dX6_target_16 rfl 1 rfl (n := 17) rfl ?_
    refine hg_getr hC fl_RX6_54 dX6_target_17 qM_0 kM_0 fM_6_25 rM_0_25 (n := 20) rfl ?_
    refine hg_iload_n hC dX6_target_20 rfl 0 rfl (n := 21) rfl ?_
    refine hg_aload_n hC dX6_target_21 rfl 1 rfl (n := 22) rfl ?_
    refine hg_cVi hC (tM_X6_fresh1 (hg_Eof hC) X.2.1 (d + 0) _ _ hw) sv_RX6_205 dX6_target_22 qM_0 kM_0 c_6 rfl (rest := [.int r2, .ref (hg_ad X 14)]) rfl (Nat.le_of_ble_eq_true rfl) (n := 25) rfl (fun r6 σ5 hw => ?_)
    obtain ⟨h9, hw⟩ := hw
    refine hg_iast hC dX6_target_25 qM_14 kM_14 h9 (n := 26) rfl (fun σ7 eσ7 => ?_)
    have hw := hw σ7 eσ7
    refine hg_aload_n hC dX6_target_26 rfl 1 rfl (n := 27) rfl ?_
    refine hg_getr hC fl_RX6_54 dX6_target_27 qM_0 kM_0 fM_6_25 rM_0_25 (n := 30) rfl ?_
    refine hg_iload_n hC dX6_target_30 rfl 0 rfl (n := 31) rfl ?_
    obtain ⟨h9, hw⟩ := hw
    refine hg_iald hC dX6_target_31 qM_14 kM_14 h9 (n := 32) rfl ?_
    exact hg_reti hC hR dX6_target_32 hw
  · have hw := hw.2 h9
    refine hg_iload_n hC dX6_target_14 rfl 0 rfl (n := 15) rfl ?_
    exact hg_reti hC hR dX6_target_15 hw
def bM_X6_lowerSet_106 (P : hg_M → Prop)   (σ : hg_M) : Prop := P σ
def bM_X6_lowerSet_52 (P : hg_M → Prop)  (x1 : Int32) (x2 : Int32) (σ : hg_M) : Prop := ((x2 = 0 → wM_X6_target x1 σ (fun r11 σ10 => wM_X6_of x1 (4 : Int32) σ10 (fun r13 σ12 => wM_X6_emit (0 : Int32) r11 r13 (0 : Int32) (0 : Int32) σ12 (fun r15 σ14 => bM_X6_lowerSet_106 P σ14)))) ∧ (¬ x2 = 0 → wM_X6_of x1 (1 : Int32) σ (fun r17 σ16 => wM_X6_of x1 (4 : Int32) σ16 (fun r19 σ18 => vp_in r19 16 ∧ (wM_X6_emit (1 : Int32) r17 (σ18 14 (r19).toNatClampNeg) (0 : Int32) (0 : Int32) σ18 (fun r21 σ20 => bM_X6_lowerSet_106 P σ20))))))
def bM_X6_lowerSet_15 (P : hg_M → Prop)  (x1 : Int32) (t0 : Int32) (σ : hg_M) : Prop := ((t0 = 0 → bM_X6_lowerSet_52 P x1 t0 σ) ∧ (¬ t0 = 0 → wM_X6_isOnSide σ (fun r4 σ3 => ((r4 = 0 → bM_X6_lowerSet_52 P x1 t0 σ3) ∧ (¬ r4 = 0 → wM_X6_of x1 (1 : Int32) σ3 (fun r6 σ5 => wM_X6_of x1 (4 : Int32) σ5 (fun r8 σ7 => vp_in r8 16 ∧ (vp_in r6 16 ∧ (∀ σ9 : hg_M, σ9 = hg_set σ7 14 (r6).toNatClampNeg (σ7 14 (r8).toNatClampNeg) → bM_X6_lowerSet_106 P σ9)))))))))
def wM_X6_lowerSet (x1 : Int32) (σ : hg_M) (P : hg_M → Prop) : Prop := wM_X6_of x1 (3 : Int32) σ (fun r2 σ1 => ((r2 ≠ (1 : Int32) → bM_X6_lowerSet_15 P x1 (0 : Int32) σ1) ∧ (r2 = (1 : Int32) → bM_X6_lowerSet_15 P x1 (1 : Int32) σ1)))
set_option maxRecDepth 4000 in
theorem tbM_X6_lowerSet_106 {d : Nat} {E : hg_Et} {X : hg_X} {P : hg_M → Prop}  (hC : hg_C hg_FM 5 (d + 3) E cX6_lowerSet RX6 X) (hR : hg_Rnv hg_FM hg_rM P X)   (σ : hg_M) (hw : bM_X6_lowerSet_106 P  σ) : hg_G hg_FM 5 X 106 [] [] σ hg_rM := by
  unfold bM_X6_lowerSet_106 at hw
  exact hg_retv hC hR dX6_lowerSet_106 hw
set_option maxRecDepth 4000 in
theorem tbM_X6_lowerSet_52 {d : Nat} {E : hg_Et} {X : hg_X} {P : hg_M → Prop}  (hC : hg_C hg_FM 5 (d + 3) E cX6_lowerSet RX6 X) (hR : hg_Rnv hg_FM hg_rM P X)  (x1 : Int32) (x2 : Int32) (σ : hg_M) (hw : bM_X6_lowerSet_52 P x1 x2 σ) : hg_G hg_FM 5 X 52 [(0, .ref (hg_ad X 0)), (1, .int x1), (2, .int x2)] [] σ hg_rM := by
  unfold bM_X6_lowerSet_52 at hw
  refine hg_iload_n hC dX6_lowerSet_52 rfl 2 rfl (n := 53) rfl ?_
  refine hg_if_eq hC dX6_lowerSet_53 (tg := 84) rfl (n := 56) rfl (fun h9 => ?_) (fun h9 => ?_)
  · have hw := hw.1 h9
    refine hg_aload_n hC dX6_lowerSet_84 rfl 0 rfl (n := 85) rfl ?_
    refine hg_iload_n hC dX6_lowerSet_85 rfl 1 rfl (n := 86) rfl ?_
    refine hg_cVi hC (tM_X6_target (hg_Eof hC) X.2.1 (d + 0) _ _ _ hw) sv_RX6_232 dX6_lowerSet_86 qM_0 kM_0 c_6 rfl (rest := []) rfl (Nat.le_of_ble_eq_true rfl) (n := 89) rfl (fun r11 σ10 hw => ?_)
    refine hg_istore_n hC (L1 := [(3, .int r11), (0, .ref (hg_ad X 0)), (1, .int x1), (2, .int x2)]) dX6_lowerSet_89 rfl (by decide) rfl (n := 90) rfl ?_
    refine hg_aload_n hC dX6_lowerSet_90 rfl 1 rfl (n := 91) rfl ?_
    refine hg_iconst hC dX6_lowerSet_91 hl_i0 (n := 92) rfl ?_
    refine hg_iload_n hC dX6_lowerSet_92 rfl 0 rfl (n := 93) rfl ?_
    refine hg_aload_n hC dX6_lowerSet_93 rfl 1 rfl (n := 94) rfl ?_
    refine hg_iload_n hC dX6_lowerSet_94 rfl 2 rfl (n := 95) rfl ?_
    refine hg_iconst hC dX6_lowerSet_95 hl_i4 (n := 96) rfl ?_
    refine hg_cVi hC (tM_X6_of (hg_Eof hC) X.2.1 (d + 1) _ _ _ _ hw) sv_RX6_212 dX6_lowerSet_96 qM_0 kM_0 c_6 rfl (rest := [.int r11, .int (0 : Int32), .ref (hg_ad X 0)]) rfl (Nat.le_of_ble_eq_true rfl) (n := 99) rfl (fun r13 σ12 hw => ?_)
    refine hg_iconst hC dX6_lowerSet_99 hl_i0 (n := 100) rfl ?_
    refine hg_iconst hC dX6_lowerSet_100 hl_i0 (n := 101) rfl ?_
    refine hg_cVi hC (tM_X6_emit (hg_Eof hC) X.2.1 (d + 1) _ _ _ _ _ _ _ hw) sv_RX6_208 dX6_lowerSet_101 qM_0 kM_0 c_6 rfl (rest := []) rfl (Nat.le_of_ble_eq_true rfl) (n := 104) rfl (fun r15 σ14 hw => ?_)
    refine hg_istore hC (L1 := [(4, .int r15), (3, .int r11), (0, .ref (hg_ad X 0)), (1, .int x1), (2, .int x2)]) dX6_lowerSet_104 (by decide) rfl (n := 106) rfl ?_
    exact hg_sub [] rfl (tbM_X6_lowerSet_106 hC hR  σ14 hw)
  · have hw := hw.2 h9
    refine hg_aload_n hC dX6_lowerSet_56 rfl 0 rfl (n := 57) rfl ?_
    refine hg_iconst hC dX6_lowerSet_57 hl_i1 (n := 58) rfl ?_
    refine hg_aload_n hC dX6_lowerSet_58 rfl 0 rfl (n := 59) rfl ?_
    refine hg_iload_n hC dX6_lowerSet_59 rfl 1 rfl (n := 60) rfl ?_
    refine hg_iconst hC dX6_lowerSet_60 hl_i1 (n := 61) rfl ?_
    refine hg_cVi hC (tM_X6_of (hg_Eof hC) X.2.1 (d + 1) _ _ _ _ hw) sv_RX6_212 dX6_lowerSet_61 qM_0 kM_0 c_6 rfl (rest := [.int (1 : Int32), .ref (hg_ad X 0)]) rfl (Nat.le_of_ble_eq_true rfl) (n := 64) rfl (fun r17 σ16 hw => ?_)
    refine hg_aload_n hC dX6_lowerSet_64 rfl 0 rfl (n := 65) rfl ?_
    refine hg_getr hC fl_RX6_54 dX6_lowerSet_65 qM_0 kM_0 fM_6_25 rM_0_25 (n := 68) rfl ?_
    refine hg_aload_n hC dX6_lowerSet_68 rfl 0 rfl (n := 69) rfl ?_
    refine hg_iload_n hC dX6_lowerSet_69 rfl 1 rfl (n := 70) rfl ?_
    refine hg_iconst hC dX6_lowerSet_70 hl_i4 (n := 71) rfl ?_
    refine hg_cVi hC (tM_X6_of (hg_Eof hC) X.2.1 (d + 1) _ _ _ _ hw) sv_RX6_212 dX6_lowerSet_71 qM_0 kM_0 c_6 rfl (rest := [.ref (hg_ad X 14), .int r17, .int (1 : Int32), .ref (hg_ad X 0)]) rfl (Nat.le_of_ble_eq_true rfl) (n := 74) rfl (fun r19 σ18 hw => ?_)
    obtain ⟨h9, hw⟩ := hw
    refine hg_iald hC dX6_lowerSet_74 qM_14 kM_14 h9 (n := 75) rfl ?_
    refine hg_iconst hC dX6_lowerSet_75 hl_i0 (n := 76) rfl ?_
    refine hg_iconst hC dX6_lowerSet_76 hl_i0 (n := 77) rfl ?_
    refine hg_cVi hC (tM_X6_emit (hg_Eof hC) X.2.1 (d + 1) _ _ _ _ _ _ _ hw) sv_RX6_208 dX6_lowerSet_77 qM_0 kM_0 c_6 rfl (rest := []) rfl (Nat.le_of_ble_eq_true rfl) (n := 80) rfl (fun r21 σ20 hw => ?_)
    refine hg_istore_n hC (L1 := [(3, .int r21), (0, .ref (hg_ad X 0)), (1, .int x1), (2, .int x2)]) dX6_lowerSet_80 rfl (by decide) rfl (n := 81) rfl ?_
    refine hg_goto hC dX6_lowerSet_81 (tg := 106) rfl ?_
    exact hg_sub [] rfl (tbM_X6_lowerSet_106 hC hR  σ20 hw)
set_option maxRecDepth 4000 in
theorem tbM_X6_lowerSet_15 {d : Nat} {E : hg_Et} {X : hg_X} {P : hg_M → Prop}  (hC : hg_C hg_FM 5 (d + 3) E cX6_lowerSet RX6 X) (hR : hg_Rnv hg_FM hg_rM P X)  (x1 : Int32) (t0 : Int32) (σ : hg_M) (hw : bM_X6_lowerSet_15 P x1 t0 σ) : hg_G hg_FM 5 X 15 [(0, .ref (hg_ad X 0)), (1, .int x1)] [.int t0] σ hg_rM := by
  unfold bM_X6_lowerSet_15 at hw
  refine hg_istore_n hC (L1 := [(2, .int t0), (0, .ref (hg_ad X 0)), (1, .int x1)]) dX6_lowerSet_15 rfl (by decide) rfl (n := 16) rfl ?_
  refine hg_iload_n hC dX6_lowerSet_16 rfl 0 rfl (n := 17) rfl ?_
  refine hg_if_eq hC dX6_lowerSet_17 (tg := 52) rfl (n := 20) rfl (fun h9 => ?_) (fun h9 => ?_)
  · have hw := hw.1 h9
    exact hg_sub [1, 2, 0] rfl (tbM_X6_lowerSet_52 hC hR  x1 t0 σ hw)
  · have hw := hw.2 h9
    refine hg_aload_n hC dX6_lowerSet_20 rfl 1 rfl (n := 21) rfl ?_
    refine hg_cVi hC (tM_X6_isOnSide (hg_Eof hC) X.2.1 (d + 1) _ _ hw) sv_RX6_228 dX6_lowerSet_21 qM_0 kM_0 c_6 rfl (rest := []) rfl (Nat.le_of_ble_eq_true rfl) (n := 24) rfl (fun r4 σ3 hw => ?_)
    refine hg_if_eq hC dX6_lowerSet_24 (tg := 52) rfl (n := 27) rfl (fun h9 => ?_) (fun h9 => ?_)
    · have hw := hw.1 h9
      exact hg_sub [1, 2, 0] rfl (tbM_X6_lowerSet_52 hC hR  x1 t0 σ3 hw)
    · have hw := hw.2 h9
      refine hg_aload_n hC dX6_lowerSet_27 rfl 1 rfl (n := 28) rfl ?_
      refine hg_getr hC fl_RX6_54 dX6_lowerSet_28 qM_0 kM_0 fM_6_25 rM_0_25 (n := 31) rfl ?_
      refine hg_aload_n hC dX6_lowerSet_31 rfl 1 rfl (n := 32) rfl ?_
      refine hg_iload_n hC dX6_lowerSet_32 rfl 2 rfl (n := 33) rfl ?_
      refine hg_iconst hC dX6_lowerSet_33 hl_i1 (n := 34) rfl ?_
      refine hg_cVi hC (tM_X6_of (hg_Eof hC) X.2.1 (d + 1) _ _ _ _ hw) sv_RX6_212 dX6_lowerSet_34 qM_0 kM_0 c_6 rfl (rest := [.ref (hg_ad X 14)]) rfl (Nat.le_of_ble_eq_true rfl) (n := 37) rfl (fun r6 σ5 hw => ?_)
      refine hg_aload_n hC dX6_lowerSet_37 rfl 1 rfl (n := 38) rfl ?_
      refine hg_getr hC fl_RX6_54 dX6_lowerSet_38 qM_0 kM_0 fM_6_25 rM_0_25 (n := 41) rfl ?_
      refine hg_aload_n hC dX6_lowerSet_41 rfl 1 rfl (n := 42) rfl ?_
      refine hg_iload_n hC dX6_lowerSet_42 rfl 2 rfl (n := 43) rfl ?_
      refine hg_iconst hC dX6_lowerSet_43 hl_i4 (n := 44) rfl ?_
      refine hg_cVi hC (tM_X6_of (hg_Eof hC) X.2.1 (d + 1) _ _ _ _ hw) sv_RX6_212 dX6_lowerSet_44 qM_0 kM_0 c_6 rfl (rest := [.ref (hg_ad X 14), .int r6, .ref (hg_ad X 14)]) rfl (Nat.le_of_ble_eq_true rfl) (n := 47) rfl (fun r8 σ7 hw => ?_)
      obtain ⟨h9, hw⟩ := hw
      refine hg_iald hC dX6_lowerSet_47 qM_14 kM_14 h9 (n := 48) rfl ?_
      obtain ⟨h9, hw⟩ := hw
      refine hg_iast hC dX6_lowerSet_48 qM_14 kM_14 h9 (n := 49) rfl (fun σ9 eσ9 => ?_)
      have hw := hw σ9 eσ9
      refine hg_goto hC dX6_lowerSet_49 (tg := 106) rfl ?_
      exact hg_sub [] rfl (tbM_X6_lowerSet_106 hC hR  σ9 hw)
set_option maxRecDepth 4000 in
theorem tM_X6_lowerSet {E : hg_Et} (hE : hg_Eok E) (l : Launch) (d : Nat) (x1 : Int32) (σ : hg_M) (P : hg_M → Prop) (hw : wM_X6_lowerSet x1 σ P) : hg_Nv hg_FM E l yX6_lowerSet cX6_lowerSet 5 (d + 3) (fun ad => [.ref (ad 0), .int x1]) hg_rM σ P := by
  refine hg_nv hE (by decide) (fun _ => Nat.le_of_ble_eq_true rfl) (fun X hC hR hl => ?_)
  subst hl
  have hC : hg_C hg_FM 5 (d + 3) E cX6_lowerSet RX6 X := hC
  show hg_G hg_FM 5 X 0 [(0, .ref (hg_ad X 0)), (1, .int x1)] [] σ hg_rM
  unfold wM_X6_lowerSet at hw
  refine hg_aload_n hC dX6_lowerSet_0 rfl 0 rfl (n := 1) rfl ?_
  refine hg_iload_n hC dX6_lowerSet_1 rfl 1 rfl (n := 2) rfl ?_
  refine hg_iconst hC dX6_lowerSet_2 hl_i3 (n := 3) rfl ?_
  refine hg_cVi hC (tM_X6_of (hg_Eof hC) X.2.1 (d + 1) _ _ _ _ hw) sv_RX6_212 dX6_lowerSet_3 qM_0 kM_0 c_6 rfl (rest := []) rfl (Nat.le_of_ble_eq_true rfl) (n := 6) rfl (fun r2 σ1 hw => ?_)
  refine hg_iconst hC dX6_lowerSet_6 hl_i1 (n := 7) rfl ?_
  refine hg_icmp_ne hC dX6_lowerSet_7 (tg := 14) rfl (n := 10) rfl (fun h9 => ?_) (fun h9 => ?_)
  · have hw := hw.1 h9
    refine hg_iconst hC dX6_lowerSet_14 hl_i0 (n := 15) rfl ?_
    exact tbM_X6_lowerSet_15 hC hR  x1 (0 : Int32) σ1 hw
  · have hw := hw.2 h9
    refine hg_iconst hC dX6_lowerSet_10 hl_i1 (n := 11) rfl ?_
    refine hg_goto hC dX6_lowerSet_11 (tg := 15) rfl ?_
    exact tbM_X6_lowerSet_15 hC hR  x1 (1 : Int32) σ1 hw
def bM_X6_lowerStore_90 (P : hg_M → Prop)  (x4 : Int32) (x5 : Int32) (σ : hg_M) : Prop := wM_X6_emit (15 : Int32) x4 x5 (0 : Int32) (0 : Int32) σ (fun r16 σ15 => P σ15)
def bM_X6_lowerStore_33 (P : hg_M → Prop)  (x5 : Int32) (t0 : Int32) (σ : hg_M) : Prop := wM_X6_fresh1 σ (fun r8 σ7 => wM_X6_emit (14 : Int32) r8 t0 (0 : Int32) (0 : Int32) σ7 (fun r10 σ9 => wM_X6_fresh1 σ9 (fun r12 σ11 => vp_in ((σ11 0 26) - (1 : Int32)) 8 ∧ (wM_X6_emit (13 : Int32) r12 (σ11 19 (((σ11 0 26) - (1 : Int32))).toNatClampNeg) x5 r8 σ11 (fun r14 σ13 => bM_X6_lowerStore_90 P t0 r12 σ13)))))
def wM_X6_lowerStore (x1 : Int32) (x2 : Int32) (x3 : Int32) (σ : hg_M) (P : hg_M → Prop) : Prop := wM_X6_isOnSide σ (fun r2 σ1 => ((r2 = 0 → bM_X6_lowerStore_90 P x2 x3 σ1) ∧ (¬ r2 = 0 → wM_X6_isPlainIndex x1 σ1 (fun r4 σ3 => ((r4 = 0 → wM_X6_harmless x2 (0 : Int32) σ3 (fun r6 σ5 => bM_X6_lowerStore_33 P x3 r6 σ5)) ∧ (¬ r4 = 0 → bM_X6_lowerStore_33 P x3 x2 σ3))))))
set_option maxRecDepth 4000 in
theorem tbM_X6_lowerStore_90 {d : Nat} {E : hg_Et} {X : hg_X} {P : hg_M → Prop}  (hC : hg_C hg_FM 9 (d + 4) E cX6_lowerStore RX6 X) (hR : hg_Rnv hg_FM hg_rM P X)  (x4 : Int32) (x5 : Int32) (σ : hg_M) (hw : bM_X6_lowerStore_90 P x4 x5 σ) : hg_G hg_FM 9 X 90 [(0, .ref (hg_ad X 0)), (4, .int x4), (5, .int x5)] [] σ hg_rM := by
  unfold bM_X6_lowerStore_90 at hw
  refine hg_aload_n hC dX6_lowerStore_90 rfl 0 rfl (n := 91) rfl ?_
  refine hg_bipush hC dX6_lowerStore_91 hl_b15 (n := 93) rfl ?_
  refine hg_iload hC dX6_lowerStore_93 1 rfl (n := 95) rfl ?_
  refine hg_iload hC dX6_lowerStore_95 2 rfl (n := 97) rfl ?_
  refine hg_iconst hC dX6_lowerStore_97 hl_i0 (n := 98) rfl ?_
  refine hg_iconst hC dX6_lowerStore_98 hl_i0 (n := 99) rfl ?_
  refine hg_cVi hC (tM_X6_emit (hg_Eof hC) X.2.1 (d + 2) _ _ _ _ _ _ _ hw) sv_RX6_208 dX6_lowerStore_99 qM_0 kM_0 c_6 rfl (rest := []) rfl (Nat.le_of_ble_eq_true rfl) (n := 102) rfl (fun r16 σ15 hw => ?_)
  refine hg_istore hC (L1 := [(6, .int r16), (0, .ref (hg_ad X 0)), (4, .int x4), (5, .int x5)]) dX6_lowerStore_102 (by decide) rfl (n := 104) rfl ?_
  exact hg_retv hC hR dX6_lowerStore_104 hw
set_option maxRecDepth 4000 in
theorem tbM_X6_lowerStore_33 {d : Nat} {E : hg_Et} {X : hg_X} {P : hg_M → Prop}  (hC : hg_C hg_FM 9 (d + 4) E cX6_lowerStore RX6 X) (hR : hg_Rnv hg_FM hg_rM P X)  (x5 : Int32) (t0 : Int32) (σ : hg_M) (hw : bM_X6_lowerStore_33 P x5 t0 σ) : hg_G hg_FM 9 X 33 [(0, .ref (hg_ad X 0)), (5, .int x5)] [.int t0] σ hg_rM := by
  unfold bM_X6_lowerStore_33 at hw
  refine hg_istore hC (L1 := [(4, .int t0), (0, .ref (hg_ad X 0)), (5, .int x5)]) dX6_lowerStore_33 (by decide) rfl (n := 35) rfl ?_
  refine hg_aload_n hC dX6_lowerStore_35 rfl 1 rfl (n := 36) rfl ?_
  refine hg_cVi hC (tM_X6_fresh1 (hg_Eof hC) X.2.1 (d + 2) _ _ hw) sv_RX6_205 dX6_lowerStore_36 qM_0 kM_0 c_6 rfl (rest := []) rfl (Nat.le_of_ble_eq_true rfl) (n := 39) rfl (fun r8 σ7 hw => ?_)
  refine hg_istore hC (L1 := [(7, .int r8), (4, .int t0), (0, .ref (hg_ad X 0)), (5, .int x5)]) dX6_lowerStore_39 (by decide) rfl (n := 41) rfl ?_
  refine hg_aload_n hC dX6_lowerStore_41 rfl 2 rfl (n := 42) rfl ?_
  refine hg_bipush hC dX6_lowerStore_42 hl_b14 (n := 44) rfl ?_
  refine hg_iload hC dX6_lowerStore_44 0 rfl (n := 46) rfl ?_
  refine hg_iload hC dX6_lowerStore_46 1 rfl (n := 48) rfl ?_
  refine hg_iconst hC dX6_lowerStore_48 hl_i0 (n := 49) rfl ?_
  refine hg_iconst hC dX6_lowerStore_49 hl_i0 (n := 50) rfl ?_
  refine hg_cVi hC (tM_X6_emit (hg_Eof hC) X.2.1 (d + 2) _ _ _ _ _ _ _ hw) sv_RX6_208 dX6_lowerStore_50 qM_0 kM_0 c_6 rfl (rest := []) rfl (Nat.le_of_ble_eq_true rfl) (n := 53) rfl (fun r10 σ9 hw => ?_)
  refine hg_istore hC (L1 := [(6, .int r10), (7, .int r8), (4, .int t0), (0, .ref (hg_ad X 0)), (5, .int x5)]) dX6_lowerStore_53 (by decide) rfl (n := 55) rfl ?_
  refine hg_aload_n hC dX6_lowerStore_55 rfl 3 rfl (n := 56) rfl ?_
  refine hg_cVi hC (tM_X6_fresh1 (hg_Eof hC) X.2.1 (d + 2) _ _ hw) sv_RX6_205 dX6_lowerStore_56 qM_0 kM_0 c_6 rfl (rest := []) rfl (Nat.le_of_ble_eq_true rfl) (n := 59) rfl (fun r12 σ11 hw => ?_)
  refine hg_istore hC (L1 := [(8, .int r12), (6, .int r10), (7, .int r8), (4, .int t0), (0, .ref (hg_ad X 0)), (5, .int x5)]) dX6_lowerStore_59 (by decide) rfl (n := 61) rfl ?_
  refine hg_aload_n hC dX6_lowerStore_61 rfl 4 rfl (n := 62) rfl ?_
  refine hg_bipush hC dX6_lowerStore_62 hl_b13 (n := 64) rfl ?_
  refine hg_iload hC dX6_lowerStore_64 0 rfl (n := 66) rfl ?_
  refine hg_aload_n hC dX6_lowerStore_66 rfl 4 rfl (n := 67) rfl ?_
  refine hg_getr hC fl_RX6_69 dX6_lowerStore_67 qM_0 kM_0 fM_6_31 rM_0_31 (n := 70) rfl ?_
  refine hg_aload_n hC dX6_lowerStore_70 rfl 4 rfl (n := 71) rfl ?_
  refine hg_geti hC fl_RX6_219 dX6_lowerStore_71 qM_0 kM_0 fM_6_26 (n := 74) rfl ?_
  refine hg_iconst hC dX6_lowerStore_74 hl_i1 (n := 75) rfl ?_
  refine hg_isub hC dX6_lowerStore_75 (n := 76) rfl ?_
  obtain ⟨h9, hw⟩ := hw
  refine hg_iald hC dX6_lowerStore_76 qM_19 kM_19 h9 (n := 77) rfl ?_
  refine hg_iload hC dX6_lowerStore_77 5 rfl (n := 79) rfl ?_
  refine hg_iload hC dX6_lowerStore_79 2 rfl (n := 81) rfl ?_
  refine hg_cVi hC (tM_X6_emit (hg_Eof hC) X.2.1 (d + 2) _ _ _ _ _ _ _ hw) sv_RX6_208 dX6_lowerStore_81 qM_0 kM_0 c_6 rfl (rest := []) rfl (Nat.le_of_ble_eq_true rfl) (n := 84) rfl (fun r14 σ13 hw => ?_)
  refine hg_istore hC (L1 := [(6, .int r14), (8, .int r12), (7, .int r8), (4, .int t0), (0, .ref (hg_ad X 0)), (5, .int x5)]) dX6_lowerStore_84 (by decide) rfl (n := 86) rfl ?_
  refine hg_iload hC dX6_lowerStore_86 1 rfl (n := 88) rfl ?_
  refine hg_istore hC (L1 := [(5, .int r12), (6, .int r14), (8, .int r12), (7, .int r8), (4, .int t0), (0, .ref (hg_ad X 0))]) dX6_lowerStore_88 (by decide) rfl (n := 90) rfl ?_
  exact hg_sub [5, 4, 0] rfl (tbM_X6_lowerStore_90 hC hR  t0 r12 σ13 hw)
set_option maxRecDepth 4000 in
theorem tM_X6_lowerStore {E : hg_Et} (hE : hg_Eok E) (l : Launch) (d : Nat) (x1 : Int32) (x2 : Int32) (x3 : Int32) (σ : hg_M) (P : hg_M → Prop) (hw : wM_X6_lowerStore x1 x2 x3 σ P) : hg_Nv hg_FM E l yX6_lowerStore cX6_lowerStore 9 (d + 4) (fun ad => [.ref (ad 0), .int x1, .int x2, .int x3]) hg_rM σ P := by
  refine hg_nv hE (by decide) (fun _ => Nat.le_of_ble_eq_true rfl) (fun X hC hR hl => ?_)
  subst hl
  have hC : hg_C hg_FM 9 (d + 4) E cX6_lowerStore RX6 X := hC
  show hg_G hg_FM 9 X 0 [(0, .ref (hg_ad X 0)), (1, .int x1), (2, .int x2), (3, .int x3)] [] σ hg_rM
  unfold wM_X6_lowerStore at hw
  refine hg_iload_n hC dX6_lowerStore_0 rfl 2 rfl (n := 1) rfl ?_
  refine hg_istore hC (L1 := [(4, .int x2), (0, .ref (hg_ad X 0)), (1, .int x1), (2, .int x2), (3, .int x3)]) dX6_lowerStore_1 (by decide) rfl (n := 3) rfl ?_
  refine hg_iload_n hC dX6_lowerStore_3 rfl 4 rfl (n := 4) rfl ?_
  refine hg_istore hC (L1 := [(5, .int x3), (4, .int x2), (0, .ref (hg_ad X 0)), (1, .int x1), (2, .int x2), (3, .int x3)]) dX6_lowerStore_4 (by decide) rfl (n := 6) rfl ?_
  refine hg_aload_n hC dX6_lowerStore_6 rfl 2 rfl (n := 7) rfl ?_
  refine hg_cVi hC (tM_X6_isOnSide (hg_Eof hC) X.2.1 (d + 2) _ _ hw) sv_RX6_228 dX6_lowerStore_7 qM_0 kM_0 c_6 rfl (rest := []) rfl (Nat.le_of_ble_eq_true rfl) (n := 10) rfl (fun r2 σ1 hw => ?_)
  refine hg_if_eq hC dX6_lowerStore_10 (tg := 90) rfl (n := 13) rfl (fun h9 => ?_) (fun h9 => ?_)
  · have hw := hw.1 h9
    exact hg_sub [2, 1, 0] rfl (tbM_X6_lowerStore_90 hC hR  x2 x3 σ1 hw)
  · have hw := hw.2 h9
    refine hg_aload_n hC dX6_lowerStore_13 rfl 2 rfl (n := 14) rfl ?_
    refine hg_iload_n hC dX6_lowerStore_14 rfl 3 rfl (n := 15) rfl ?_
    refine hg_cVi hC (tM_X6_isPlainIndex (hg_Eof hC) X.2.1 (d + 1) _ _ _ hw) sv_RX6_241 dX6_lowerStore_15 qM_0 kM_0 c_6 rfl (rest := []) rfl (Nat.le_of_ble_eq_true rfl) (n := 18) rfl (fun r4 σ3 hw => ?_)
    refine hg_if_eq hC dX6_lowerStore_18 (tg := 26) rfl (n := 21) rfl (fun h9 => ?_) (fun h9 => ?_)
    · have hw := hw.1 h9
      refine hg_aload_n hC dX6_lowerStore_26 rfl 2 rfl (n := 27) rfl ?_
      refine hg_iload hC dX6_lowerStore_27 1 rfl (n := 29) rfl ?_
      refine hg_iconst hC dX6_lowerStore_29 hl_i0 (n := 30) rfl ?_
      refine hg_cVi hC (tM_X6_harmless (hg_Eof hC) X.2.1 (d + 0) _ _ _ _ hw) sv_RX6_238 dX6_lowerStore_30 qM_0 kM_0 c_6 rfl (rest := []) rfl (Nat.le_of_ble_eq_true rfl) (n := 33) rfl (fun r6 σ5 hw => ?_)
      exact hg_sub [2, 0] rfl (tbM_X6_lowerStore_33 hC hR  x3 r6 σ5 hw)
    · have hw := hw.2 h9
      refine hg_iload hC dX6_lowerStore_21 1 rfl (n := 23) rfl ?_
      refine hg_goto hC dX6_lowerStore_23 (tg := 33) rfl ?_
      exact hg_sub [2, 0] rfl (tbM_X6_lowerStore_33 hC hR  x3 x2 σ3 hw)
def bM_X6_names_243 (P : Int32 → hg_M → Prop)  (t0 : Int32) (σ : hg_M) : Prop := ((t0 = 0 ∨ t0 = 1) ∧ P t0 σ)
def bM_X6_names_238 (P : Int32 → hg_M → Prop)   (σ : hg_M) : Prop := bM_X6_names_243 P (1 : Int32) σ
def bM_X6_names_213 (P : Int32 → hg_M → Prop)  (t0 : Int32) (σ : hg_M) : Prop := ((t0 = 0 ∨ t0 = 1) ∧ P t0 σ)
def bM_X6_names_208 (P : Int32 → hg_M → Prop)   (σ : hg_M) : Prop := bM_X6_names_213 P (1 : Int32) σ
def bM_X6_names_171 (P : Int32 → hg_M → Prop)  (t0 : Int32) (σ : hg_M) : Prop := ((t0 = 0 ∨ t0 = 1) ∧ P t0 σ)
def bM_X6_names_153 (P : Int32 → hg_M → Prop)  (t0 : Int32) (σ : hg_M) : Prop := ((t0 = 0 ∨ t0 = 1) ∧ P t0 σ)
def bM_X6_names_148 (P : Int32 → hg_M → Prop)   (σ : hg_M) : Prop := bM_X6_names_153 P (1 : Int32) σ
def bM_X6_names_123 (P : Int32 → hg_M → Prop)  (t0 : Int32) (σ : hg_M) : Prop := ((t0 = 0 ∨ t0 = 1) ∧ P t0 σ)
def wM_X6_names (x1 : Int32) (x2 : Int32) (σ : hg_M) (P : Int32 → hg_M → Prop) : Prop := ∀ v1 : Int32, v1 = ((6 : Int32) * x1) → vp_in v1 24000 ∧ (∀ v2 : Int32, v2 = (σ 12 (v1).toNatClampNeg) → ((((v2).toInt < 0 ∨ 18 < (v2).toInt) → vp_in (v1 + (2 : Int32)) 24000 ∧ ((((σ 12 ((v1 + (2 : Int32))).toNatClampNeg) = x2 → bM_X6_names_238 P σ) ∧ (¬ ((σ 12 ((v1 + (2 : Int32))).toNatClampNeg) = x2) → vp_in (v1 + (3 : Int32)) 24000 ∧ ((((σ 12 ((v1 + (3 : Int32))).toNatClampNeg) ≠ x2 → bM_X6_names_243 P (0 : Int32) σ) ∧ ((σ 12 ((v1 + (3 : Int32))).toNatClampNeg) = x2 → bM_X6_names_238 P σ))))))) ∧ ((v2).toInt = 0 → (((0 : Int32) = 0 ∨ (0 : Int32) = 1) ∧ P (0 : Int32) σ)) ∧ ((v2).toInt = 1 → vp_in (v1 + (2 : Int32)) 24000 ∧ ((((σ 12 ((v1 + (2 : Int32))).toNatClampNeg) ≠ x2 → bM_X6_names_171 P (0 : Int32) σ) ∧ ((σ 12 ((v1 + (2 : Int32))).toNatClampNeg) = x2 → bM_X6_names_171 P (1 : Int32) σ)))) ∧ ((v2).toInt = 2 → vp_in (v1 + (2 : Int32)) 24000 ∧ ((((σ 12 ((v1 + (2 : Int32))).toNatClampNeg) = x2 → bM_X6_names_238 P σ) ∧ (¬ ((σ 12 ((v1 + (2 : Int32))).toNatClampNeg) = x2) → vp_in (v1 + (3 : Int32)) 24000 ∧ ((((σ 12 ((v1 + (3 : Int32))).toNatClampNeg) ≠ x2 → bM_X6_names_243 P (0 : Int32) σ) ∧ ((σ 12 ((v1 + (3 : Int32))).toNatClampNeg) = x2 → bM_X6_names_238 P σ))))))) ∧ ((v2).toInt = 3 → vp_in (v1 + (2 : Int32)) 24000 ∧ ((((σ 12 ((v1 + (2 : Int32))).toNatClampNeg) = x2 → bM_X6_names_238 P σ) ∧ (¬ ((σ 12 ((v1 + (2 : Int32))).toNatClampNeg) = x2) → vp_in (v1 + (3 : Int32)) 24000 ∧ ((((σ 12 ((v1 + (3 : Int32))).toNatClampNeg) ≠ x2 → bM_X6_names_243 P (0 : Int32) σ) ∧ ((σ 12 ((v1 + (3 : Int32))).toNatClampNeg) = x2 → bM_X6_names_238 P σ))))))) ∧ ((v2).toInt = 4 → vp_in (v1 + (2 : Int32)) 24000 ∧ ((((σ 12 ((v1 + (2 : Int32))).toNatClampNeg) = x2 → bM_X6_names_238 P σ) ∧ (¬ ((σ 12 ((v1 + (2 : Int32))).toNatClampNeg) = x2) → vp_in (v1 + (3 : Int32)) 24000 ∧ ((((σ 12 ((v1 + (3 : Int32))).toNatClampNeg) ≠ x2 → bM_X6_names_243 P (0 : Int32) σ) ∧ ((σ 12 ((v1 + (3 : Int32))).toNatClampNeg) = x2 → bM_X6_names_238 P σ))))))) ∧ ((v2).toInt = 5 → vp_in (v1 + (2 : Int32)) 24000 ∧ ((((σ 12 ((v1 + (2 : Int32))).toNatClampNeg) = x2 → bM_X6_names_238 P σ) ∧ (¬ ((σ 12 ((v1 + (2 : Int32))).toNatClampNeg) = x2) → vp_in (v1 + (3 : Int32)) 24000 ∧ ((((σ 12 ((v1 + (3 : Int32))).toNatClampNeg) ≠ x2 → bM_X6_names_243 P (0 : Int32) σ) ∧ ((σ 12 ((v1 + (3 : Int32))).toNatClampNeg) = x2 → bM_X6_names_238 P σ))))))) ∧ ((v2).toInt = 6 → vp_in (v1 + (2 : Int32)) 24000 ∧ ((((σ 12 ((v1 + (2 : Int32))).toNatClampNeg) = x2 → bM_X6_names_238 P σ) ∧ (¬ ((σ 12 ((v1 + (2 : Int32))).toNatClampNeg) = x2) → vp_in (v1 + (3 : Int32)) 24000 ∧ ((((σ 12 ((v1 + (3 : Int32))).toNatClampNeg) ≠ x2 → bM_X6_names_243 P (0 : Int32) σ) ∧ ((σ 12 ((v1 + (3 : Int32))).toNatClampNeg) = x2 → bM_X6_names_238 P σ))))))) ∧ ((v2).toInt = 7 → vp_in (v1 + (2 : Int32)) 24000 ∧ ((((σ 12 ((v1 + (2 : Int32))).toNatClampNeg) = x2 → bM_X6_names_238 P σ) ∧ (¬ ((σ 12 ((v1 + (2 : Int32))).toNatClampNeg) = x2) → vp_in (v1 + (3 : Int32)) 24000 ∧ ((((σ 12 ((v1 + (3 : Int32))).toNatClampNeg) ≠ x2 → bM_X6_names_243 P (0 : Int32) σ) ∧ ((σ 12 ((v1 + (3 : Int32))).toNatClampNeg) = x2 → bM_X6_names_238 P σ))))))) ∧ ((v2).toInt = 8 → vp_in (v1 + (2 : Int32)) 24000 ∧ ((((σ 12 ((v1 + (2 : Int32))).toNatClampNeg) = x2 → bM_X6_names_238 P σ) ∧ (¬ ((σ 12 ((v1 + (2 : Int32))).toNatClampNeg) = x2) → vp_in (v1 + (3 : Int32)) 24000 ∧ ((((σ 12 ((v1 + (3 : Int32))).toNatClampNeg) ≠ x2 → bM_X6_names_243 P (0 : Int32) σ) ∧ ((σ 12 ((v1 + (3 : Int32))).toNatClampNeg) = x2 → bM_X6_names_238 P σ))))))) ∧ ((v2).toInt = 9 → vp_in (v1 + (2 : Int32)) 24000 ∧ ((((σ 12 ((v1 + (2 : Int32))).toNatClampNeg) = x2 → bM_X6_names_238 P σ) ∧ (¬ ((σ 12 ((v1 + (2 : Int32))).toNatClampNeg) = x2) → vp_in (v1 + (3 : Int32)) 24000 ∧ ((((σ 12 ((v1 + (3 : Int32))).toNatClampNeg) ≠ x2 → bM_X6_names_243 P (0 : Int32) σ) ∧ ((σ 12 ((v1 + (3 : Int32))).toNatClampNeg) = x2 → bM_X6_names_238 P σ))))))) ∧ ((v2).toInt = 10 → vp_in (v1 + (2 : Int32)) 24000 ∧ ((((σ 12 ((v1 + (2 : Int32))).toNatClampNeg) = x2 → bM_X6_names_238 P σ) ∧ (¬ ((σ 12 ((v1 + (2 : Int32))).toNatClampNeg) = x2) → vp_in (v1 + (3 : Int32)) 24000 ∧ ((((σ 12 ((v1 + (3 : Int32))).toNatClampNeg) ≠ x2 → bM_X6_names_243 P (0 : Int32) σ) ∧ ((σ 12 ((v1 + (3 : Int32))).toNatClampNeg) = x2 → bM_X6_names_238 P σ))))))) ∧ ((v2).toInt = 11 → vp_in (v1 + (2 : Int32)) 24000 ∧ ((((σ 12 ((v1 + (2 : Int32))).toNatClampNeg) = x2 → bM_X6_names_238 P σ) ∧ (¬ ((σ 12 ((v1 + (2 : Int32))).toNatClampNeg) = x2) → vp_in (v1 + (3 : Int32)) 24000 ∧ ((((σ 12 ((v1 + (3 : Int32))).toNatClampNeg) ≠ x2 → bM_X6_names_243 P (0 : Int32) σ) ∧ ((σ 12 ((v1 + (3 : Int32))).toNatClampNeg) = x2 → bM_X6_names_238 P σ))))))) ∧ ((v2).toInt = 12 → vp_in (v1 + (2 : Int32)) 24000 ∧ ((((σ 12 ((v1 + (2 : Int32))).toNatClampNeg) = x2 → bM_X6_names_238 P σ) ∧ (¬ ((σ 12 ((v1 + (2 : Int32))).toNatClampNeg) = x2) → vp_in (v1 + (3 : Int32)) 24000 ∧ ((((σ 12 ((v1 + (3 : Int32))).toNatClampNeg) ≠ x2 → bM_X6_names_243 P (0 : Int32) σ) ∧ ((σ 12 ((v1 + (3 : Int32))).toNatClampNeg) = x2 → bM_X6_names_238 P σ))))))) ∧ ((v2).toInt = 13 → vp_in (v1 + (2 : Int32)) 24000 ∧ ((((σ 12 ((v1 + (2 : Int32))).toNatClampNeg) = x2 → bM_X6_names_208 P σ) ∧ (¬ ((σ 12 ((v1 + (2 : Int32))).toNatClampNeg) = x2) → vp_in (v1 + (3 : Int32)) 24000 ∧ ((((σ 12 ((v1 + (3 : Int32))).toNatClampNeg) = x2 → bM_X6_names_208 P σ) ∧ (¬ ((σ 12 ((v1 + (3 : Int32))).toNatClampNeg) = x2) → vp_in (v1 + (4 : Int32)) 24000 ∧ ((((σ 12 ((v1 + (4 : Int32))).toNatClampNeg) ≠ x2 → bM_X6_names_213 P (0 : Int32) σ) ∧ ((σ 12 ((v1 + (4 : Int32))).toNatClampNeg) = x2 → bM_X6_names_208 P σ)))))))))) ∧ ((v2).toInt = 14 → vp_in (v1 + (2 : Int32)) 24000 ∧ ((((σ 12 ((v1 + (2 : Int32))).toNatClampNeg) ≠ x2 → bM_X6_names_171 P (0 : Int32) σ) ∧ ((σ 12 ((v1 + (2 : Int32))).toNatClampNeg) = x2 → bM_X6_names_171 P (1 : Int32) σ)))) ∧ ((v2).toInt = 15 → vp_in (v1 + (1 : Int32)) 24000 ∧ ((((σ 12 ((v1 + (1 : Int32))).toNatClampNeg) = x2 → bM_X6_names_148 P σ) ∧ (¬ ((σ 12 ((v1 + (1 : Int32))).toNatClampNeg) = x2) → vp_in (v1 + (2 : Int32)) 24000 ∧ ((((σ 12 ((v1 + (2 : Int32))).toNatClampNeg) ≠ x2 → bM_X6_names_153 P (0 : Int32) σ) ∧ ((σ 12 ((v1 + (2 : Int32))).toNatClampNeg) = x2 → bM_X6_names_148 P σ))))))) ∧ ((v2).toInt = 16 → (((0 : Int32) = 0 ∨ (0 : Int32) = 1) ∧ P (0 : Int32) σ)) ∧ ((v2).toInt = 17 → vp_in (v1 + (1 : Int32)) 24000 ∧ ((((σ 12 ((v1 + (1 : Int32))).toNatClampNeg) ≠ x2 → bM_X6_names_123 P (0 : Int32) σ) ∧ ((σ 12 ((v1 + (1 : Int32))).toNatClampNeg) = x2 → bM_X6_names_123 P (1 : Int32) σ)))) ∧ ((v2).toInt = 18 → vp_in (v1 + (1 : Int32)) 24000 ∧ ((((σ 12 ((v1 + (1 : Int32))).toNatClampNeg) ≠ x2 → bM_X6_names_123 P (0 : Int32) σ) ∧ ((σ 12 ((v1 + (1 : Int32))).toNatClampNeg) = x2 → bM_X6_names_123 P (1 : Int32) σ))))))
set_option maxRecDepth 4000 in
theorem tbM_X6_names_243 {d : Nat} {E : hg_Et} {X : hg_X} {P : Int32 → hg_M → Prop}  (hC : hg_C hg_FM 5 (d + 1) E cX6_names RX6 X) (hR : hg_Rni hg_FM (some .boolean) hg_rM P X)  (t0 : Int32) (σ : hg_M) (hw : bM_X6_names_243 P t0 σ) : hg_G hg_FM 5 X 243 [] [.int t0] σ hg_rM := by
  unfold bM_X6_names_243 at hw
  exact hg_retz hC hR dX6_names_243 hw
set_option maxRecDepth 4000 in
theorem tbM_X6_names_238 {d : Nat} {E : hg_Et} {X : hg_X} {P : Int32 → hg_M → Prop}  (hC : hg_C hg_FM 5 (d + 1) E cX6_names RX6 X) (hR : hg_Rni hg_FM (some .boolean) hg_rM P X)   (σ : hg_M) (hw : bM_X6_names_238 P  σ) : hg_G hg_FM 5 X 238 [] [] σ hg_rM := by
  unfold bM_X6_names_238 at hw
  refine hg_iconst hC dX6_names_238 hl_i1 (n := 239) rfl ?_
  refine hg_goto hC dX6_names_239 (tg := 243) rfl ?_
  exact tbM_X6_names_243 hC hR  (1 : Int32) σ hw
set_option maxRecDepth 4000 in
theorem tbM_X6_names_213 {d : Nat} {E : hg_Et} {X : hg_X} {P : Int32 → hg_M → Prop}  (hC : hg_C hg_FM 5 (d + 1) E cX6_names RX6 X) (hR : hg_Rni hg_FM (some .boolean) hg_rM P X)  (t0 : Int32) (σ : hg_M) (hw : bM_X6_names_213 P t0 σ) : hg_G hg_FM 5 X 213 [] [.int t0] σ hg_rM := by
  unfold bM_X6_names_213 at hw
  exact hg_retz hC hR dX6_names_213 hw
set_option maxRecDepth 4000 in
theorem tbM_X6_names_208 {d : Nat} {E : hg_Et} {X : hg_X} {P : Int32 → hg_M → Prop}  (hC : hg_C hg_FM 5 (d + 1) E cX6_names RX6 X) (hR : hg_Rni hg_FM (some .boolean) hg_rM P X)   (σ : hg_M) (hw : bM_X6_names_208 P  σ) : hg_G hg_FM 5 X 208 [] [] σ hg_rM := by
  unfold bM_X6_names_208 at hw
  refine hg_iconst hC dX6_names_208 hl_i1 (n := 209) rfl ?_
  refine hg_goto hC dX6_names_209 (tg := 213) rfl ?_
  exact tbM_X6_names_213 hC hR  (1 : Int32) σ hw
set_option maxRecDepth 4000 in
theorem tbM_X6_names_171 {d : Nat} {E : hg_Et} {X : hg_X} {P : Int32 → hg_M → Prop}  (hC : hg_C hg_FM 5 (d + 1) E cX6_names RX6 X) (hR : hg_Rni hg_FM (some .boolean) hg_rM P X)  (t0 : Int32) (σ : hg_M) (hw : bM_X6_names_171 P t0 σ) : hg_G hg_FM 5 X 171 [] [.int t0] σ hg_rM := by
  unfold bM_X6_names_171 at hw
  exact hg_retz hC hR dX6_names_171 hw
set_option maxRecDepth 4000 in
theorem tbM_X6_names_153 {d : Nat} {E : hg_Et} {X : hg_X} {P : Int32 → hg_M → Prop}  (hC : hg_C hg_FM 5 (d + 1) E cX6_names RX6 X) (hR : hg_Rni hg_FM (some .boolean) hg_rM P X)  (t0 : Int32) (σ : hg_M) (hw : bM_X6_names_153 P t0 σ) : hg_G hg_FM 5 X 153 [] [.int t0] σ hg_rM := by
  unfold bM_X6_names_153 at hw
  exact hg_retz hC hR dX6_names_153 hw
set_option maxRecDepth 4000 in
theorem tbM_X6_names_148 {d : Nat} {E : hg_Et} {X : hg_X} {P : Int32 → hg_M → Prop}  (hC : hg_C hg_FM 5 (d + 1) E cX6_names RX6 X) (hR : hg_Rni hg_FM (some .boolean) hg_rM P X)   (σ : hg_M) (hw : bM_X6_names_148 P  σ) : hg_G hg_FM 5 X 148 [] [] σ hg_rM := by
  unfold bM_X6_names_148 at hw
  refine hg_iconst hC dX6_names_148 hl_i1 (n := 149) rfl ?_
  refine hg_goto hC dX6_names_149 (tg := 153) rfl ?_
  exact tbM_X6_names_153 hC hR  (1 : Int32) σ hw
set_option maxRecDepth 4000 in
theorem tbM_X6_names_123 {d : Nat} {E : hg_Et} {X : hg_X} {P : Int32 → hg_M → Prop}  (hC : hg_C hg_FM 5 (d + 1) E cX6_names RX6 X) (hR : hg_Rni hg_FM (some .boolean) hg_rM P X)  (t0 : Int32) (σ : hg_M) (hw : bM_X6_names_123 P t0 σ) : hg_G hg_FM 5 X 123 [] [.int t0] σ hg_rM := by
  unfold bM_X6_names_123 at hw
  exact hg_retz hC hR dX6_names_123 hw
set_option maxRecDepth 4000 in
theorem tM_X6_names {E : hg_Et} (hE : hg_Eok E) (l : Launch) (d : Nat) (x1 : Int32) (x2 : Int32) (σ : hg_M) (P : Int32 → hg_M → Prop) (hw : wM_X6_names x1 x2 σ P) : hg_Ni hg_FM E l yX6_names cX6_names 5 (some .boolean) (d + 1) (fun ad => [.ref (ad 0), .int x1, .int x2]) hg_rM σ P := by
  refine hg_ni hE (by decide) (fun _ => Nat.le_of_ble_eq_true rfl) (fun X hC hR hl => ?_)
  subst hl
  have hC : hg_C hg_FM 5 (d + 1) E cX6_names RX6 X := hC
  show hg_G hg_FM 5 X 0 [(0, .ref (hg_ad X 0)), (1, .int x1), (2, .int x2)] [] σ hg_rM
  unfold wM_X6_names at hw
  refine hg_bipush hC dX6_names_0 hl_b6 (n := 2) rfl ?_
  refine hg_iload_n hC dX6_names_2 rfl 1 rfl (n := 3) rfl ?_
  refine hg_imul hC dX6_names_3 (n := 4) rfl ?_
  refine hg_topi (fun v1 ev1 => ?_)
  have hw := hw v1 ev1
  refine hg_istore_n hC (L1 := [(3, .int v1), (0, .ref (hg_ad X 0)), (1, .int x1), (2, .int x2)]) dX6_names_4 rfl (by decide) rfl (n := 5) rfl ?_
  refine hg_aload_n hC dX6_names_5 rfl 1 rfl (n := 6) rfl ?_
  refine hg_getr hC fl_RX6_44 dX6_names_6 qM_0 kM_0 fM_6_19 rM_0_19 (n := 9) rfl ?_
  refine hg_iload_n hC dX6_names_9 rfl 0 rfl (n := 10) rfl ?_
  obtain ⟨h9, hw⟩ := hw
  refine hg_iald hC dX6_names_10 qM_12 kM_12 h9 (n := 11) rfl ?_
  refine hg_topi (fun v2 ev2 => ?_)
  have hw := hw v2 ev2
  refine hg_istore hC (L1 := [(4, .int v2), (3, .int v1), (0, .ref (hg_ad X 0)), (1, .int x1), (2, .int x2)]) dX6_names_11 (by decide) rfl (n := 13) rfl ?_
  refine hg_iload hC dX6_names_13 0 rfl (n := 15) rfl ?_
  by_cases hsw : (v2).toInt < 0 ∨ 18 < (v2).toInt
  · have hw := hw.1 hsw
    refine hg_tout hC dX6_names_15 hsw (tg := 214) rfl ?_
    refine hg_aload_n hC dX6_names_214 rfl 2 rfl (n := 215) rfl ?_
    refine hg_getr hC fl_RX6_44 dX6_names_215 qM_0 kM_0 fM_6_19 rM_0_19 (n := 218) rfl ?_
    refine hg_iload_n hC dX6_names_218 rfl 1 rfl (n := 219) rfl ?_
    refine hg_iconst hC dX6_names_219 hl_i2 (n := 220) rfl ?_
    refine hg_iadd hC dX6_names_220 (n := 221) rfl ?_
    obtain ⟨h9, hw⟩ := hw
    refine hg_iald hC dX6_names_221 qM_12 kM_12 h9 (n := 222) rfl ?_
    refine hg_iload_n hC dX6_names_222 rfl 4 rfl (n := 223) rfl ?_
    refine hg_icmp_eq hC dX6_names_223 (tg := 238) rfl (n := 226) rfl (fun h9 => ?_) (fun h9 => ?_)
    · have hw := hw.1 h9
      exact hg_sub [] rfl (tbM_X6_names_238 hC hR  σ hw)
    · have hw := hw.2 h9
      refine hg_aload_n hC dX6_names_226 rfl 2 rfl (n := 227) rfl ?_
      refine hg_getr hC fl_RX6_44 dX6_names_227 qM_0 kM_0 fM_6_19 rM_0_19 (n := 230) rfl ?_
      refine hg_iload_n hC dX6_names_230 rfl 1 rfl (n := 231) rfl ?_
      refine hg_iconst hC dX6_names_231 hl_i3 (n := 232) rfl ?_
      refine hg_iadd hC dX6_names_232 (n := 233) rfl ?_
      obtain ⟨h9, hw⟩ := hw
      refine hg_iald hC dX6_names_233 qM_12 kM_12 h9 (n := 234) rfl ?_
      refine hg_iload_n hC dX6_names_234 rfl 4 rfl (n := 235) rfl ?_
      refine hg_icmp_ne hC dX6_names_235 (tg := 242) rfl (n := 238) rfl (fun h9 => ?_) (fun h9 => ?_)
      · have hw := hw.1 h9
        refine hg_iconst hC dX6_names_242 hl_i0 (n := 243) rfl ?_
        exact hg_sub [] rfl (tbM_X6_names_243 hC hR  (0 : Int32) σ hw)
      · have hw := hw.2 h9
        exact hg_sub [] rfl (tbM_X6_names_238 hC hR  σ hw)
  · rcases (show (v2).toInt = 0 ∨ (v2).toInt = 1 ∨ (v2).toInt = 2 ∨ (v2).toInt = 3 ∨ (v2).toInt = 4 ∨ (v2).toInt = 5 ∨ (v2).toInt = 6 ∨ (v2).toInt = 7 ∨ (v2).toInt = 8 ∨ (v2).toInt = 9 ∨ (v2).toInt = 10 ∨ (v2).toInt = 11 ∨ (v2).toInt = 12 ∨ (v2).toInt = 13 ∨ (v2).toInt = 14 ∨ (v2).toInt = 15 ∨ (v2).toInt = 16 ∨ (v2).toInt = 17 ∨ (v2).toInt = 18 by omega) with hsx | hsx | hsx | hsx | hsx | hsx | hsx | hsx | hsx | hsx | hsx | hsx | hsx | hsx | hsx | hsx | hsx | hsx | hsx
    · have hw := hw.2.1 hsx
      refine hg_tin hC dX6_names_15 hsx (by decide) (by decide) (by rfl) (tg := 104) rfl ?_
      refine hg_iconst hC dX6_names_104 hl_i0 (n := 105) rfl ?_
      exact hg_retz hC hR dX6_names_105 hw
    · have hw := hw.2.2.1 hsx
      refine hg_tin hC dX6_names_15 hsx (by decide) (by decide) (by rfl) (tg := 154) rfl ?_
      refine hg_aload_n hC dX6_names_154 rfl 2 rfl (n := 155) rfl ?_
      refine hg_getr hC fl_RX6_44 dX6_names_155 qM_0 kM_0 fM_6_19 rM_0_19 (n := 158) rfl ?_
      refine hg_iload_n hC dX6_names_158 rfl 1 rfl (n := 159) rfl ?_
      refine hg_iconst hC dX6_names_159 hl_i2 (n := 160) rfl ?_
      refine hg_iadd hC dX6_names_160 (n := 161) rfl ?_
      obtain ⟨h9, hw⟩ := hw
      refine hg_iald hC dX6_names_161 qM_12 kM_12 h9 (n := 162) rfl ?_
      refine hg_iload_n hC dX6_names_162 rfl 4 rfl (n := 163) rfl ?_
      refine hg_icmp_ne hC dX6_names_163 (tg := 170) rfl (n := 166) rfl (fun h9 => ?_) (fun h9 => ?_)
      · have hw := hw.1 h9
        refine hg_iconst hC dX6_names_170 hl_i0 (n := 171) rfl ?_
        exact hg_sub [] rfl (tbM_X6_names_171 hC hR  (0 : Int32) σ hw)
      · have hw := hw.2 h9
        refine hg_iconst hC dX6_names_166 hl_i1 (n := 167) rfl ?_
        refine hg_goto hC dX6_names_167 (tg := 171) rfl ?_
        exact hg_sub [] rfl (tbM_X6_names_171 hC hR  (1 : Int32) σ hw)
    · have hw := hw.2.2.2.1 hsx
      refine hg_tin hC dX6_names_15 hsx (by decide) (by decide) (by rfl) (tg := 214) rfl ?_
      refine hg_aload_n hC dX6_names_214 rfl 2 rfl (n := 215) rfl ?_
      refine hg_getr hC fl_RX6_44 dX6_names_215 qM_0 kM_0 fM_6_19 rM_0_19 (n := 218) rfl ?_
      refine hg_iload_n hC dX6_names_218 rfl 1 rfl (n := 219) rfl ?_
      refine hg_iconst hC dX6_names_219 hl_i2 (n := 220) rfl ?_
      refine hg_iadd hC dX6_names_220 (n := 221) rfl ?_
      obtain ⟨h9, hw⟩ := hw
      refine hg_iald hC dX6_names_221 qM_12 kM_12 h9 (n := 222) rfl ?_
      refine hg_iload_n hC dX6_names_222 rfl 4 rfl (n := 223) rfl ?_
      refine hg_icmp_eq hC dX6_names_223 (tg := 238) rfl (n := 226) rfl (fun h9 => ?_) (fun h9 => ?_)
      · have hw := hw.1 h9
        exact hg_sub [] rfl (tbM_X6_names_238 hC hR  σ hw)
      · have hw := hw.2 h9
        refine hg_aload_n hC dX6_names_226 rfl 2 rfl (n := 227) rfl ?_
        refine hg_getr hC fl_RX6_44 dX6_names_227 qM_0 kM_0 fM_6_19 rM_0_19 (n := 230) rfl ?_
        refine hg_iload_n hC dX6_names_230 rfl 1 rfl (n := 231) rfl ?_
        refine hg_iconst hC dX6_names_231 hl_i3 (n := 232) rfl ?_
        refine hg_iadd hC dX6_names_232 (n := 233) rfl ?_
        obtain ⟨h9, hw⟩ := hw
        refine hg_iald hC dX6_names_233 qM_12 kM_12 h9 (n := 234) rfl ?_
        refine hg_iload_n hC dX6_names_234 rfl 4 rfl (n := 235) rfl ?_
        refine hg_icmp_ne hC dX6_names_235 (tg := 242) rfl (n := 238) rfl (fun h9 => ?_) (fun h9 => ?_)
        · have hw := hw.1 h9
          refine hg_iconst hC dX6_names_242 hl_i0 (n := 243) rfl ?_
          exact hg_sub [] rfl (tbM_X6_names_243 hC hR  (0 : Int32) σ hw)
        · have hw := hw.2 h9
          exact hg_sub [] rfl (tbM_X6_names_238 hC hR  σ hw)
    · have hw := hw.2.2.2.2.1 hsx
      refine hg_tin hC dX6_names_15 hsx (by decide) (by decide) (by rfl) (tg := 214) rfl ?_
      refine hg_aload_n hC dX6_names_214 rfl 2 rfl (n := 215) rfl ?_
      refine hg_getr hC fl_RX6_44 dX6_names_215 qM_0 kM_0 fM_6_19 rM_0_19 (n := 218) rfl ?_
      refine hg_iload_n hC dX6_names_218 rfl 1 rfl (n := 219) rfl ?_
      refine hg_iconst hC dX6_names_219 hl_i2 (n := 220) rfl ?_
      refine hg_iadd hC dX6_names_220 (n := 221) rfl ?_
      obtain ⟨h9, hw⟩ := hw
      refine hg_iald hC dX6_names_221 qM_12 kM_12 h9 (n := 222) rfl ?_
      refine hg_iload_n hC dX6_names_222 rfl 4 rfl (n := 223) rfl ?_
      refine hg_icmp_eq hC dX6_names_223 (tg := 238) rfl (n := 226) rfl (fun h9 => ?_) (fun h9 => ?_)
      · have hw := hw.1 h9
        exact hg_sub [] rfl (tbM_X6_names_238 hC hR  σ hw)
      · have hw := hw.2 h9
        refine hg_aload_n hC dX6_names_226 rfl 2 rfl (n := 227) rfl ?_
        refine hg_getr hC fl_RX6_44 dX6_names_227 qM_0 kM_0 fM_6_19 rM_0_19 (n := 230) rfl ?_
        refine hg_iload_n hC dX6_names_230 rfl 1 rfl (n := 231) rfl ?_
        refine hg_iconst hC dX6_names_231 hl_i3 (n := 232) rfl ?_
        refine hg_iadd hC dX6_names_232 (n := 233) rfl ?_
        obtain ⟨h9, hw⟩ := hw
        refine hg_iald hC dX6_names_233 qM_12 kM_12 h9 (n := 234) rfl ?_
        refine hg_iload_n hC dX6_names_234 rfl 4 rfl (n := 235) rfl ?_
        refine hg_icmp_ne hC dX6_names_235 (tg := 242) rfl (n := 238) rfl (fun h9 => ?_) (fun h9 => ?_)
        · have hw := hw.1 h9
          refine hg_iconst hC dX6_names_242 hl_i0 (n := 243) rfl ?_
          exact hg_sub [] rfl (tbM_X6_names_243 hC hR  (0 : Int32) σ hw)
        · have hw := hw.2 h9
          exact hg_sub [] rfl (tbM_X6_names_238 hC hR  σ hw)
    · have hw := hw.2.2.2.2.2.1 hsx
      refine hg_tin hC dX6_names_15 hsx (by decide) (by decide) (by rfl) (tg := 214) rfl ?_
      refine hg_aload_n hC dX6_names_214 rfl 2 rfl (n := 215) rfl ?_
      refine hg_getr hC fl_RX6_44 dX6_names_215 qM_0 kM_0 fM_6_19 rM_0_19 (n := 218) rfl ?_
      refine hg_iload_n hC dX6_names_218 rfl 1 rfl (n := 219) rfl ?_
      refine hg_iconst hC dX6_names_219 hl_i2 (n := 220) rfl ?_
      refine hg_iadd hC dX6_names_220 (n := 221) rfl ?_
      obtain ⟨h9, hw⟩ := hw
      refine hg_iald hC dX6_names_221 qM_12 kM_12 h9 (n := 222) rfl ?_
      refine hg_iload_n hC dX6_names_222 rfl 4 rfl (n := 223) rfl ?_
      refine hg_icmp_eq hC dX6_names_223 (tg := 238) rfl (n := 226) rfl (fun h9 => ?_) (fun h9 => ?_)
      · have hw := hw.1 h9
        exact hg_sub [] rfl (tbM_X6_names_238 hC hR  σ hw)
      · have hw := hw.2 h9
        refine hg_aload_n hC dX6_names_226 rfl 2 rfl (n := 227) rfl ?_
        refine hg_getr hC fl_RX6_44 dX6_names_227 qM_0 kM_0 fM_6_19 rM_0_19 (n := 230) rfl ?_
        refine hg_iload_n hC dX6_names_230 rfl 1 rfl (n := 231) rfl ?_
        refine hg_iconst hC dX6_names_231 hl_i3 (n := 232) rfl ?_
        refine hg_iadd hC dX6_names_232 (n := 233) rfl ?_
        obtain ⟨h9, hw⟩ := hw
        refine hg_iald hC dX6_names_233 qM_12 kM_12 h9 (n := 234) rfl ?_
        refine hg_iload_n hC dX6_names_234 rfl 4 rfl (n := 235) rfl ?_
        refine hg_icmp_ne hC dX6_names_235 (tg := 242) rfl (n := 238) rfl (fun h9 => ?_) (fun h9 => ?_)
        · have hw := hw.1 h9
          refine hg_iconst hC dX6_names_242 hl_i0 (n := 243) rfl ?_
          exact hg_sub [] rfl (tbM_X6_names_243 hC hR  (0 : Int32) σ hw)
        · have hw := hw.2 h9
          exact hg_sub [] rfl (tbM_X6_names_238 hC hR  σ hw)
    · have hw := hw.2.2.2.2.2.2.1 hsx
      refine hg_tin hC dX6_names_15 hsx (by decide) (by decide) (by rfl) (tg := 214) rfl ?_
      refine hg_aload_n hC dX6_names_214 rfl 2 rfl (n := 215) rfl ?_
      refine hg_getr hC fl_RX6_44 dX6_names_215 qM_0 kM_0 fM_6_19 rM_0_19 (n := 218) rfl ?_
      refine hg_iload_n hC dX6_names_218 rfl 1 rfl (n := 219) rfl ?_
      refine hg_iconst hC dX6_names_219 hl_i2 (n := 220) rfl ?_
      refine hg_iadd hC dX6_names_220 (n := 221) rfl ?_
      obtain ⟨h9, hw⟩ := hw
      refine hg_iald hC dX6_names_221 qM_12 kM_12 h9 (n := 222) rfl ?_
      refine hg_iload_n hC dX6_names_222 rfl 4 rfl (n := 223) rfl ?_
      refine hg_icmp_eq hC dX6_names_223 (tg := 238) rfl (n := 226) rfl (fun h9 => ?_) (fun h9 => ?_)
      · have hw := hw.1 h9
        exact hg_sub [] rfl (tbM_X6_names_238 hC hR  σ hw)
      · have hw := hw.2 h9
        refine hg_aload_n hC dX6_names_226 rfl 2 rfl (n := 227) rfl ?_
        refine hg_getr hC fl_RX6_44 dX6_names_227 qM_0 kM_0 fM_6_19 rM_0_19 (n := 230) rfl ?_
        refine hg_iload_n hC dX6_names_230 rfl 1 rfl (n := 231) rfl ?_
        refine hg_iconst hC dX6_names_231 hl_i3 (n := 232) rfl ?_
        refine hg_iadd hC dX6_names_232 (n := 233) rfl ?_
        obtain ⟨h9, hw⟩ := hw
        refine hg_iald hC dX6_names_233 qM_12 kM_12 h9 (n := 234) rfl ?_
        refine hg_iload_n hC dX6_names_234 rfl 4 rfl (n := 235) rfl ?_
        refine hg_icmp_ne hC dX6_names_235 (tg := 242) rfl (n := 238) rfl (fun h9 => ?_) (fun h9 => ?_)
        · have hw := hw.1 h9
          refine hg_iconst hC dX6_names_242 hl_i0 (n := 243) rfl ?_
          exact hg_sub [] rfl (tbM_X6_names_243 hC hR  (0 : Int32) σ hw)
        · have hw := hw.2 h9
          exact hg_sub [] rfl (tbM_X6_names_238 hC hR  σ hw)
    · have hw := hw.2.2.2.2.2.2.2.1 hsx
      refine hg_tin hC dX6_names_15 hsx (by decide) (by decide) (by rfl) (tg := 214) rfl ?_
      refine hg_aload_n hC dX6_names_214 rfl 2 rfl (n := 215) rfl ?_
      refine hg_getr hC fl_RX6_44 dX6_names_215 qM_0 kM_0 fM_6_19 rM_0_19 (n := 218) rfl ?_
      refine hg_iload_n hC dX6_names_218 rfl 1 rfl (n := 219) rfl ?_
      refine hg_iconst hC dX6_names_219 hl_i2 (n := 220) rfl ?_
      refine hg_iadd hC dX6_names_220 (n := 221) rfl ?_
      obtain ⟨h9, hw⟩ := hw
      refine hg_iald hC dX6_names_221 qM_12 kM_12 h9 (n := 222) rfl ?_
      refine hg_iload_n hC dX6_names_222 rfl 4 rfl (n := 223) rfl ?_
      refine hg_icmp_eq hC dX6_names_223 (tg := 238) rfl (n := 226) rfl (fun h9 => ?_) (fun h9 => ?_)
      · have hw := hw.1 h9
        exact hg_sub [] rfl (tbM_X6_names_238 hC hR  σ hw)
      · have hw := hw.2 h9
        refine hg_aload_n hC dX6_names_226 rfl 2 rfl (n := 227) rfl ?_
        refine hg_getr hC fl_RX6_44 dX6_names_227 qM_0 kM_0 fM_6_19 rM_0_19 (n := 230) rfl ?_
        refine hg_iload_n hC dX6_names_230 rfl 1 rfl (n := 231) rfl ?_
        refine hg_iconst hC dX6_names_231 hl_i3 (n := 232) rfl ?_
        refine hg_iadd hC dX6_names_232 (n := 233) rfl ?_
        obtain ⟨h9, hw⟩ := hw
        refine hg_iald hC dX6_names_233 qM_12 kM_12 h9 (n := 234) rfl ?_
        refine hg_iload_n hC dX6_names_234 rfl 4 rfl (n := 235) rfl ?_
        refine hg_icmp_ne hC dX6_names_235 (tg := 242) rfl (n := 238) rfl (fun h9 => ?_) (fun h9 => ?_)
        · have hw := hw.1 h9
          refine hg_iconst hC dX6_names_242 hl_i0 (n := 243) rfl ?_
          exact hg_sub [] rfl (tbM_X6_names_243 hC hR  (0 : Int32) σ hw)
        · have hw := hw.2 h9
          exact hg_sub [] rfl (tbM_X6_names_238 hC hR  σ hw)
    · have hw := hw.2.2.2.2.2.2.2.2.1 hsx
      refine hg_tin hC dX6_names_15 hsx (by decide) (by decide) (by rfl) (tg := 214) rfl ?_
      refine hg_aload_n hC dX6_names_214 rfl 2 rfl (n := 215) rfl ?_
      refine hg_getr hC fl_RX6_44 dX6_names_215 qM_0 kM_0 fM_6_19 rM_0_19 (n := 218) rfl ?_
      refine hg_iload_n hC dX6_names_218 rfl 1 rfl (n := 219) rfl ?_
      refine hg_iconst hC dX6_names_219 hl_i2 (n := 220) rfl ?_
      refine hg_iadd hC dX6_names_220 (n := 221) rfl ?_
      obtain ⟨h9, hw⟩ := hw
      refine hg_iald hC dX6_names_221 qM_12 kM_12 h9 (n := 222) rfl ?_
      refine hg_iload_n hC dX6_names_222 rfl 4 rfl (n := 223) rfl ?_
      refine hg_icmp_eq hC dX6_names_223 (tg := 238) rfl (n := 226) rfl (fun h9 => ?_) (fun h9 => ?_)
      · have hw := hw.1 h9
        exact hg_sub [] rfl (tbM_X6_names_238 hC hR  σ hw)
      · have hw := hw.2 h9
        refine hg_aload_n hC dX6_names_226 rfl 2 rfl (n := 227) rfl ?_
        refine hg_getr hC fl_RX6_44 dX6_names_227 qM_0 kM_0 fM_6_19 rM_0_19 (n := 230) rfl ?_
        refine hg_iload_n hC dX6_names_230 rfl 1 rfl (n := 231) rfl ?_
        refine hg_iconst hC dX6_names_231 hl_i3 (n := 232) rfl ?_
        refine hg_iadd hC dX6_names_232 (n := 233) rfl ?_
        obtain ⟨h9, hw⟩ := hw
        refine hg_iald hC dX6_names_233 qM_12 kM_12 h9 (n := 234) rfl ?_
        refine hg_iload_n hC dX6_names_234 rfl 4 rfl (n := 235) rfl ?_
        refine hg_icmp_ne hC dX6_names_235 (tg := 242) rfl (n := 238) rfl (fun h9 => ?_) (fun h9 => ?_)
        · have hw := hw.1 h9
          refine hg_iconst hC dX6_names_242 hl_i0 (n := 243) rfl ?_
          exact hg_sub [] rfl (tbM_X6_names_243 hC hR  (0 : Int32) σ hw)
        · have hw := hw.2 h9
          exact hg_sub [] rfl (tbM_X6_names_238 hC hR  σ hw)
    · have hw := hw.2.2.2.2.2.2.2.2.2.1 hsx
      refine hg_tin hC dX6_names_15 hsx (by decide) (by decide) (by rfl) (tg := 214) rfl ?_
      refine hg_aload_n hC dX6_names_214 rfl 2 rfl (n := 215) rfl ?_
      refine hg_getr hC fl_RX6_44 dX6_names_215 qM_0 kM_0 fM_6_19 rM_0_19 (n := 218) rfl ?_
      refine hg_iload_n hC dX6_names_218 rfl 1 rfl (n := 219) rfl ?_
      refine hg_iconst hC dX6_names_219 hl_i2 (n := 220) rfl ?_
      refine hg_iadd hC dX6_names_220 (n := 221) rfl ?_
      obtain ⟨h9, hw⟩ := hw
      refine hg_iald hC dX6_names_221 qM_12 kM_12 h9 (n := 222) rfl ?_
      refine hg_iload_n hC dX6_names_222 rfl 4 rfl (n := 223) rfl ?_
      refine hg_icmp_eq hC dX6_names_223 (tg := 238) rfl (n := 226) rfl (fun h9 => ?_) (fun h9 => ?_)
      · have hw := hw.1 h9
        exact hg_sub [] rfl (tbM_X6_names_238 hC hR  σ hw)
      · have hw := hw.2 h9
        refine hg_aload_n hC dX6_names_226 rfl 2 rfl (n := 227) rfl ?_
        refine hg_getr hC fl_RX6_44 dX6_names_227 qM_0 kM_0 fM_6_19 rM_0_19 (n := 230) rfl ?_
        refine hg_iload_n hC dX6_names_230 rfl 1 rfl (n := 231) rfl ?_
        refine hg_iconst hC dX6_names_231 hl_i3 (n := 232) rfl ?_
        refine hg_iadd hC dX6_names_232 (n := 233) rfl ?_
        obtain ⟨h9, hw⟩ := hw
        refine hg_iald hC dX6_names_233 qM_12 kM_12 h9 (n := 234) rfl ?_
        refine hg_iload_n hC dX6_names_234 rfl 4 rfl (n := 235) rfl ?_
        refine hg_icmp_ne hC dX6_names_235 (tg := 242) rfl (n := 238) rfl (fun h9 => ?_) (fun h9 => ?_)
        · have hw := hw.1 h9
          refine hg_iconst hC dX6_names_242 hl_i0 (n := 243) rfl ?_
          exact hg_sub [] rfl (tbM_X6_names_243 hC hR  (0 : Int32) σ hw)
        · have hw := hw.2 h9
          exact hg_sub [] rfl (tbM_X6_names_238 hC hR  σ hw)
    · have hw := hw.2.2.2.2.2.2.2.2.2.2.1 hsx
      refine hg_tin hC dX6_names_15 hsx (by decide) (by decide) (by rfl) (tg := 214) rfl ?_
      refine hg_aload_n hC dX6_names_214 rfl 2 rfl (n := 215) rfl ?_
      refine hg_getr hC fl_RX6_44 dX6_names_215 qM_0 kM_0 fM_6_19 rM_0_19 (n := 218) rfl ?_
      refine hg_iload_n hC dX6_names_218 rfl 1 rfl (n := 219) rfl ?_
      refine hg_iconst hC dX6_names_219 hl_i2 (n := 220) rfl ?_
      refine hg_iadd hC dX6_names_220 (n := 221) rfl ?_
      obtain ⟨h9, hw⟩ := hw
      refine hg_iald hC dX6_names_221 qM_12 kM_12 h9 (n := 222) rfl ?_
      refine hg_iload_n hC dX6_names_222 rfl 4 rfl (n := 223) rfl ?_
      refine hg_icmp_eq hC dX6_names_223 (tg := 238) rfl (n := 226) rfl (fun h9 => ?_) (fun h9 => ?_)
      · have hw := hw.1 h9
        exact hg_sub [] rfl (tbM_X6_names_238 hC hR  σ hw)
      · have hw := hw.2 h9
        refine hg_aload_n hC dX6_names_226 rfl 2 rfl (n := 227) rfl ?_
        refine hg_getr hC fl_RX6_44 dX6_names_227 qM_0 kM_0 fM_6_19 rM_0_19 (n := 230) rfl ?_
        refine hg_iload_n hC dX6_names_230 rfl 1 rfl (n := 231) rfl ?_
        refine hg_iconst hC dX6_names_231 hl_i3 (n := 232) rfl ?_
        refine hg_iadd hC dX6_names_232 (n := 233) rfl ?_
        obtain ⟨h9, hw⟩ := hw
        refine hg_iald hC dX6_names_233 qM_12 kM_12 h9 (n := 234) rfl ?_
        refine hg_iload_n hC dX6_names_234 rfl 4 rfl (n := 235) rfl ?_
        refine hg_icmp_ne hC dX6_names_235 (tg := 242) rfl (n := 238) rfl (fun h9 => ?_) (fun h9 => ?_)
        · have hw := hw.1 h9
          refine hg_iconst hC dX6_names_242 hl_i0 (n := 243) rfl ?_
          exact hg_sub [] rfl (tbM_X6_names_243 hC hR  (0 : Int32) σ hw)
        · have hw := hw.2 h9
          exact hg_sub [] rfl (tbM_X6_names_238 hC hR  σ hw)
    · have hw := hw.2.2.2.2.2.2.2.2.2.2.2.1 hsx
      refine hg_tin hC dX6_names_15 hsx (by decide) (by decide) (by rfl) (tg := 214) rfl ?_
      refine hg_aload_n hC dX6_names_214 rfl 2 rfl (n := 215) rfl ?_
      refine hg_getr hC fl_RX6_44 dX6_names_215 qM_0 kM_0 fM_6_19 rM_0_19 (n := 218) rfl ?_
      refine hg_iload_n hC dX6_names_218 rfl 1 rfl (n := 219) rfl ?_
      refine hg_iconst hC dX6_names_219 hl_i2 (n := 220) rfl ?_
      refine hg_iadd hC dX6_names_220 (n := 221) rfl ?_
      obtain ⟨h9, hw⟩ := hw
      refine hg_iald hC dX6_names_221 qM_12 kM_12 h9 (n := 222) rfl ?_
      refine hg_iload_n hC dX6_names_222 rfl 4 rfl (n := 223) rfl ?_
      refine hg_icmp_eq hC dX6_names_223 (tg := 238) rfl (n := 226) rfl (fun h9 => ?_) (fun h9 => ?_)
      · have hw := hw.1 h9
        exact hg_sub [] rfl (tbM_X6_names_238 hC hR  σ hw)
      · have hw := hw.2 h9
        refine hg_aload_n hC dX6_names_226 rfl 2 rfl (n := 227) rfl ?_
        refine hg_getr hC fl_RX6_44 dX6_names_227 qM_0 kM_0 fM_6_19 rM_0_19 (n := 230) rfl ?_
        refine hg_iload_n hC dX6_names_230 rfl 1 rfl (n := 231) rfl ?_
        refine hg_iconst hC dX6_names_231 hl_i3 (n := 232) rfl ?_
        refine hg_iadd hC dX6_names_232 (n := 233) rfl ?_
        obtain ⟨h9, hw⟩ := hw
        refine hg_iald hC dX6_names_233 qM_12 kM_12 h9 (n := 234) rfl ?_
        refine hg_iload_n hC dX6_names_234 rfl 4 rfl (n := 235) rfl ?_
        refine hg_icmp_ne hC dX6_names_235 (tg := 242) rfl (n := 238) rfl (fun h9 => ?_) (fun h9 => ?_)
        · have hw := hw.1 h9
          refine hg_iconst hC dX6_names_242 hl_i0 (n := 243) rfl ?_
          exact hg_sub [] rfl (tbM_X6_names_243 hC hR  (0 : Int32) σ hw)
        · have hw := hw.2 h9
          exact hg_sub [] rfl (tbM_X6_names_238 hC hR  σ hw)
    · have hw := hw.2.2.2.2.2.2.2.2.2.2.2.2.1 hsx
      refine hg_tin hC dX6_names_15 hsx (by decide) (by decide) (by rfl) (tg := 214) rfl ?_
      refine hg_aload_n hC dX6_names_214 rfl 2 rfl (n := 215) rfl ?_
      refine hg_getr hC fl_RX6_44 dX6_names_215 qM_0 kM_0 fM_6_19 rM_0_19 (n := 218) rfl ?_
      refine hg_iload_n hC dX6_names_218 rfl 1 rfl (n := 219) rfl ?_
      refine hg_iconst hC dX6_names_219 hl_i2 (n := 220) rfl ?_
      refine hg_iadd hC dX6_names_220 (n := 221) rfl ?_
      obtain ⟨h9, hw⟩ := hw
      refine hg_iald hC dX6_names_221 qM_12 kM_12 h9 (n := 222) rfl ?_
      refine hg_iload_n hC dX6_names_222 rfl 4 rfl (n := 223) rfl ?_
      refine hg_icmp_eq hC dX6_names_223 (tg := 238) rfl (n := 226) rfl (fun h9 => ?_) (fun h9 => ?_)
      · have hw := hw.1 h9
        exact hg_sub [] rfl (tbM_X6_names_238 hC hR  σ hw)
      · have hw := hw.2 h9
        refine hg_aload_n hC dX6_names_226 rfl 2 rfl (n := 227) rfl ?_
        refine hg_getr hC fl_RX6_44 dX6_names_227 qM_0 kM_0 fM_6_19 rM_0_19 (n := 230) rfl ?_
        refine hg_iload_n hC dX6_names_230 rfl 1 rfl (n := 231) rfl ?_
        refine hg_iconst hC dX6_names_231 hl_i3 (n := 232) rfl ?_
        refine hg_iadd hC dX6_names_232 (n := 233) rfl ?_
        obtain ⟨h9, hw⟩ := hw
        refine hg_iald hC dX6_names_233 qM_12 kM_12 h9 (n := 234) rfl ?_
        refine hg_iload_n hC dX6_names_234 rfl 4 rfl (n := 235) rfl ?_
        refine hg_icmp_ne hC dX6_names_235 (tg := 242) rfl (n := 238) rfl (fun h9 => ?_) (fun h9 => ?_)
        · have hw := hw.1 h9
          refine hg_iconst hC dX6_names_242 hl_i0 (n := 243) rfl ?_
          exact hg_sub [] rfl (tbM_X6_names_243 hC hR  (0 : Int32) σ hw)
        · have hw := hw.2 h9
          exact hg_sub [] rfl (tbM_X6_names_238 hC hR  σ hw)
    · have hw := hw.2.2.2.2.2.2.2.2.2.2.2.2.2.1 hsx
      refine hg_tin hC dX6_names_15 hsx (by decide) (by decide) (by rfl) (tg := 214) rfl ?_
      refine hg_aload_n hC dX6_names_214 rfl 2 rfl (n := 215) rfl ?_
      refine hg_getr hC fl_RX6_44 dX6_names_215 qM_0 kM_0 fM_6_19 rM_0_19 (n := 218) rfl ?_
      refine hg_iload_n hC dX6_names_218 rfl 1 rfl (n := 219) rfl ?_
      refine hg_iconst hC dX6_names_219 hl_i2 (n := 220) rfl ?_
      refine hg_iadd hC dX6_names_220 (n := 221) rfl ?_
      obtain ⟨h9, hw⟩ := hw
      refine hg_iald hC dX6_names_221 qM_12 kM_12 h9 (n := 222) rfl ?_
      refine hg_iload_n hC dX6_names_222 rfl 4 rfl (n := 223) rfl ?_
      refine hg_icmp_eq hC dX6_names_223 (tg := 238) rfl (n := 226) rfl (fun h9 => ?_) (fun h9 => ?_)
      · have hw := hw.1 h9
        exact hg_sub [] rfl (tbM_X6_names_238 hC hR  σ hw)
      · have hw := hw.2 h9
        refine hg_aload_n hC dX6_names_226 rfl 2 rfl (n := 227) rfl ?_
        refine hg_getr hC fl_RX6_44 dX6_names_227 qM_0 kM_0 fM_6_19 rM_0_19 (n := 230) rfl ?_
        refine hg_iload_n hC dX6_names_230 rfl 1 rfl (n := 231) rfl ?_
        refine hg_iconst hC dX6_names_231 hl_i3 (n := 232) rfl ?_
        refine hg_iadd hC dX6_names_232 (n := 233) rfl ?_
        obtain ⟨h9, hw⟩ := hw
        refine hg_iald hC dX6_names_233 qM_12 kM_12 h9 (n := 234) rfl ?_
        refine hg_iload_n hC dX6_names_234 rfl 4 rfl (n := 235) rfl ?_
        refine hg_icmp_ne hC dX6_names_235 (tg := 242) rfl (n := 238) rfl (fun h9 => ?_) (fun h9 => ?_)
        · have hw := hw.1 h9
          refine hg_iconst hC dX6_names_242 hl_i0 (n := 243) rfl ?_
          exact hg_sub [] rfl (tbM_X6_names_243 hC hR  (0 : Int32) σ hw)
        · have hw := hw.2 h9
          exact hg_sub [] rfl (tbM_X6_names_238 hC hR  σ hw)
    · have hw := hw.2.2.2.2.2.2.2.2.2.2.2.2.2.2.1 hsx
      refine hg_tin hC dX6_names_15 hsx (by decide) (by decide) (by rfl) (tg := 172) rfl ?_
      refine hg_aload_n hC dX6_names_172 rfl 2 rfl (n := 173) rfl ?_
      refine hg_getr hC fl_RX6_44 dX6_names_173 qM_0 kM_0 fM_6_19 rM_0_19 (n := 176) rfl ?_
      refine hg_iload_n hC dX6_names_176 rfl 1 rfl (n := 177) rfl ?_
      refine hg_iconst hC dX6_names_177 hl_i2 (n := 178) rfl ?_
      refine hg_iadd hC dX6_names_178 (n := 179) rfl ?_
      obtain ⟨h9, hw⟩ := hw
      refine hg_iald hC dX6_names_179 qM_12 kM_12 h9 (n := 180) rfl ?_
      refine hg_iload_n hC dX6_names_180 rfl 4 rfl (n := 181) rfl ?_
      refine hg_icmp_eq hC dX6_names_181 (tg := 208) rfl (n := 184) rfl (fun h9 => ?_) (fun h9 => ?_)
      · have hw := hw.1 h9
        exact hg_sub [] rfl (tbM_X6_names_208 hC hR  σ hw)
      · have hw := hw.2 h9
        refine hg_aload_n hC dX6_names_184 rfl 2 rfl (n := 185) rfl ?_
        refine hg_getr hC fl_RX6_44 dX6_names_185 qM_0 kM_0 fM_6_19 rM_0_19 (n := 188) rfl ?_
        refine hg_iload_n hC dX6_names_188 rfl 1 rfl (n := 189) rfl ?_
        refine hg_iconst hC dX6_names_189 hl_i3 (n := 190) rfl ?_
        refine hg_iadd hC dX6_names_190 (n := 191) rfl ?_
        obtain ⟨h9, hw⟩ := hw
        refine hg_iald hC dX6_names_191 qM_12 kM_12 h9 (n := 192) rfl ?_
        refine hg_iload_n hC dX6_names_192 rfl 4 rfl (n := 193) rfl ?_
        refine hg_icmp_eq hC dX6_names_193 (tg := 208) rfl (n := 196) rfl (fun h9 => ?_) (fun h9 => ?_)
        · have hw := hw.1 h9
          exact hg_sub [] rfl (tbM_X6_names_208 hC hR  σ hw)
        · have hw := hw.2 h9
          refine hg_aload_n hC dX6_names_196 rfl 2 rfl (n := 197) rfl ?_
          refine hg_getr hC fl_RX6_44 dX6_names_197 qM_0 kM_0 fM_6_19 rM_0_19 (n := 200) rfl ?_
          refine hg_iload_n hC dX6_names_200 rfl 1 rfl (n := 201) rfl ?_
          refine hg_iconst hC dX6_names_201 hl_i4 (n := 202) rfl ?_
          refine hg_iadd hC dX6_names_202 (n := 203) rfl ?_
          obtain ⟨h9, hw⟩ := hw
          refine hg_iald hC dX6_names_203 qM_12 kM_12 h9 (n := 204) rfl ?_
          refine hg_iload_n hC dX6_names_204 rfl 4 rfl (n := 205) rfl ?_
          refine hg_icmp_ne hC dX6_names_205 (tg := 212) rfl (n := 208) rfl (fun h9 => ?_) (fun h9 => ?_)
          · have hw := hw.1 h9
            refine hg_iconst hC dX6_names_212 hl_i0 (n := 213) rfl ?_
            exact hg_sub [] rfl (tbM_X6_names_213 hC hR  (0 : Int32) σ hw)
          · have hw := hw.2 h9
            exact hg_sub [] rfl (tbM_X6_names_208 hC hR  σ hw)
    · have hw := hw.2.2.2.2.2.2.2.2.2.2.2.2.2.2.2.1 hsx
      refine hg_tin hC dX6_names_15 hsx (by decide) (by decide) (by rfl) (tg := 154) rfl ?_
      refine hg_aload_n hC dX6_names_154 rfl 2 rfl (n := 155) rfl ?_
      refine hg_getr hC fl_RX6_44 dX6_names_155 qM_0 kM_0 fM_6_19 rM_0_19 (n := 158) rfl ?_
      refine hg_iload_n hC dX6_names_158 rfl 1 rfl (n := 159) rfl ?_
      refine hg_iconst hC dX6_names_159 hl_i2 (n := 160) rfl ?_
      refine hg_iadd hC dX6_names_160 (n := 161) rfl ?_
      obtain ⟨h9, hw⟩ := hw
      refine hg_iald hC dX6_names_161 qM_12 kM_12 h9 (n := 162) rfl ?_
      refine hg_iload_n hC dX6_names_162 rfl 4 rfl (n := 163) rfl ?_
      refine hg_icmp_ne hC dX6_names_163 (tg := 170) rfl (n := 166) rfl (fun h9 => ?_) (fun h9 => ?_)
      · have hw := hw.1 h9
        refine hg_iconst hC dX6_names_170 hl_i0 (n := 171) rfl ?_
        exact hg_sub [] rfl (tbM_X6_names_171 hC hR  (0 : Int32) σ hw)
      · have hw := hw.2 h9
        refine hg_iconst hC dX6_names_166 hl_i1 (n := 167) rfl ?_
        refine hg_goto hC dX6_names_167 (tg := 171) rfl ?_
        exact hg_sub [] rfl (tbM_X6_names_171 hC hR  (1 : Int32) σ hw)
    · have hw := hw.2.2.2.2.2.2.2.2.2.2.2.2.2.2.2.2.1 hsx
      refine hg_tin hC dX6_names_15 hsx (by decide) (by decide) (by rfl) (tg := 124) rfl ?_
      refine hg_aload_n hC dX6_names_124 rfl 2 rfl (n := 125) rfl ?_
      refine hg_getr hC fl_RX6_44 dX6_names_125 qM_0 kM_0 fM_6_19 rM_0_19 (n := 128) rfl ?_
      refine hg_iload_n hC dX6_names_128 rfl 1 rfl (n := 129) rfl ?_
      refine hg_iconst hC dX6_names_129 hl_i1 (n := 130) rfl ?_
      refine hg_iadd hC dX6_names_130 (n := 131) rfl ?_
      obtain ⟨h9, hw⟩ := hw
      refine hg_iald hC dX6_names_131 qM_12 kM_12 h9 (n := 132) rfl ?_
      refine hg_iload_n hC dX6_names_132 rfl 4 rfl (n := 133) rfl ?_
      refine hg_icmp_eq hC dX6_names_133 (tg := 148) rfl (n := 136) rfl (fun h9 => ?_) (fun h9 => ?_)
      · have hw := hw.1 h9
        exact hg_sub [] rfl (tbM_X6_names_148 hC hR  σ hw)
      · have hw := hw.2 h9
        refine hg_aload_n hC dX6_names_136 rfl 2 rfl (n := 137) rfl ?_
        refine hg_getr hC fl_RX6_44 dX6_names_137 qM_0 kM_0 fM_6_19 rM_0_19 (n := 140) rfl ?_
        refine hg_iload_n hC dX6_names_140 rfl 1 rfl (n := 141) rfl ?_
        refine hg_iconst hC dX6_names_141 hl_i2 (n := 142) rfl ?_
        refine hg_iadd hC dX6_names_142 (n := 143) rfl ?_
        obtain ⟨h9, hw⟩ := hw
        refine hg_iald hC dX6_names_143 qM_12 kM_12 h9 (n := 144) rfl ?_
        refine hg_iload_n hC dX6_names_144 rfl 4 rfl (n := 145) rfl ?_
        refine hg_icmp_ne hC dX6_names_145 (tg := 152) rfl (n := 148) rfl (fun h9 => ?_) (fun h9 => ?_)
        · have hw := hw.1 h9
          refine hg_iconst hC dX6_names_152 hl_i0 (n := 153) rfl ?_
          exact hg_sub [] rfl (tbM_X6_names_153 hC hR  (0 : Int32) σ hw)
        · have hw := hw.2 h9
          exact hg_sub [] rfl (tbM_X6_names_148 hC hR  σ hw)
    · have hw := hw.2.2.2.2.2.2.2.2.2.2.2.2.2.2.2.2.2.1 hsx
      refine hg_tin hC dX6_names_15 hsx (by decide) (by decide) (by rfl) (tg := 104) rfl ?_
      refine hg_iconst hC dX6_names_104 hl_i0 (n := 105) rfl ?_
      exact hg_retz hC hR dX6_names_105 hw
    · have hw := hw.2.2.2.2.2.2.2.2.2.2.2.2.2.2.2.2.2.2.1 hsx
      refine hg_tin hC dX6_names_15 hsx (by decide) (by decide) (by rfl) (tg := 106) rfl ?_
      refine hg_aload_n hC dX6_names_106 rfl 2 rfl (n := 107) rfl ?_
      refine hg_getr hC fl_RX6_44 dX6_names_107 qM_0 kM_0 fM_6_19 rM_0_19 (n := 110) rfl ?_
      refine hg_iload_n hC dX6_names_110 rfl 1 rfl (n := 111) rfl ?_
      refine hg_iconst hC dX6_names_111 hl_i1 (n := 112) rfl ?_
      refine hg_iadd hC dX6_names_112 (n := 113) rfl ?_
      obtain ⟨h9, hw⟩ := hw
      refine hg_iald hC dX6_names_113 qM_12 kM_12 h9 (n := 114) rfl ?_
      refine hg_iload_n hC dX6_names_114 rfl 4 rfl (n := 115) rfl ?_
      refine hg_icmp_ne hC dX6_names_115 (tg := 122) rfl (n := 118) rfl (fun h9 => ?_) (fun h9 => ?_)
      · have hw := hw.1 h9
        refine hg_iconst hC dX6_names_122 hl_i0 (n := 123) rfl ?_
        exact hg_sub [] rfl (tbM_X6_names_123 hC hR  (0 : Int32) σ hw)
      · have hw := hw.2 h9
        refine hg_iconst hC dX6_names_118 hl_i1 (n := 119) rfl ?_
        refine hg_goto hC dX6_names_119 (tg := 123) rfl ?_
        exact hg_sub [] rfl (tbM_X6_names_123 hC hR  (1 : Int32) σ hw)
    · have hw := hw.2.2.2.2.2.2.2.2.2.2.2.2.2.2.2.2.2.2.2 hsx
      refine hg_tin hC dX6_names_15 hsx (by decide) (by decide) (by rfl) (tg := 106) rfl ?_
      refine hg_aload_n hC dX6_names_106 rfl 2 rfl (n := 107) rfl ?_
      refine hg_getr hC fl_RX6_44 dX6_names_107 qM_0 kM_0 fM_6_19 rM_0_19 (n := 110) rfl ?_
      refine hg_iload_n hC dX6_names_110 rfl 1 rfl (n := 111) rfl ?_
      refine hg_iconst hC dX6_names_111 hl_i1 (n := 112) rfl ?_
      refine hg_iadd hC dX6_names_112 (n := 113) rfl ?_
      obtain ⟨h9, hw⟩ := hw
      refine hg_iald hC dX6_names_113 qM_12 kM_12 h9 (n := 114) rfl ?_
      refine hg_iload_n hC dX6_names_114 rfl 4 rfl (n := 115) rfl ?_
      refine hg_icmp_ne hC dX6_names_115 (tg := 122) rfl (n := 118) rfl (fun h9 => ?_) (fun h9 => ?_)
      · have hw := hw.1 h9
        refine hg_iconst hC dX6_names_122 hl_i0 (n := 123) rfl ?_
        exact hg_sub [] rfl (tbM_X6_names_123 hC hR  (0 : Int32) σ hw)
      · have hw := hw.2 h9
        refine hg_iconst hC dX6_names_118 hl_i1 (n := 119) rfl ?_
        refine hg_goto hC dX6_names_119 (tg := 123) rfl ?_
        exact hg_sub [] rfl (tbM_X6_names_123 hC hR  (1 : Int32) σ hw)
def bM_X6_isUseless_132 (P : Int32 → hg_M → Prop) (J95 : Int32 → Int32 → Int32 → hg_M → Prop) (x1 : Int32) (x3 : Int32) (x5 : Int32) (σ : hg_M) : Prop := ∀ v5 : Int32, v5 = x5 + (1 : Int32) → J95 x1 x3 v5 σ
def lM_X6_isUseless_95 (P : Int32 → hg_M → Prop)  : Nat → Int32 → Int32 → Int32 → hg_M → Prop
  | 0, _, _, _, _ => False
  | n + 1, x1, x3, x5, σ => (((σ 0 20) ≤ x5 → (((1 : Int32) = 0 ∨ (1 : Int32) = 1) ∧ P (1 : Int32) σ)) ∧ (¬ ((σ 0 20) ≤ x5) → ((x5 = x1 → bM_X6_isUseless_132 P (fun k0 k1 k2 k3 => lM_X6_isUseless_95 P n k0 k1 k2 k3) x1 x3 x5 σ) ∧ (¬ (x5 = x1) → vp_in x5 4000 ∧ ((((σ 23 (x5).toNatClampNeg) ≠ 0 → bM_X6_isUseless_132 P (fun k0 k1 k2 k3 => lM_X6_isUseless_95 P n k0 k1 k2 k3) x1 x3 x5 σ) ∧ ((σ 23 (x5).toNatClampNeg) = 0 → wM_X6_names x5 x3 σ (fun r4 σ3 => ((r4 = 0 → bM_X6_isUseless_132 P (fun k0 k1 k2 k3 => lM_X6_isUseless_95 P n k0 k1 k2 k3) x1 x3 x5 σ3) ∧ (¬ r4 = 0 → (((0 : Int32) = 0 ∨ (0 : Int32) = 1) ∧ P (0 : Int32) σ3)))))))))))
def bM_X6_isUseless_90 (P : Int32 → hg_M → Prop)   (σ : hg_M) : Prop := (((0 : Int32) = 0 ∨ (0 : Int32) = 1) ∧ P (0 : Int32) σ)
def bM_X6_isUseless_68 (P : Int32 → hg_M → Prop)  (x1 : Int32) (x3 : Int32) (t0 : Int32) (σ : hg_M) : Prop := vp_in x1 4000 ∧ ((((σ 23 (x1).toNatClampNeg) ≠ 0 → bM_X6_isUseless_90 P σ) ∧ ((σ 23 (x1).toNatClampNeg) = 0 → ((t0 ≠ 0 → bM_X6_isUseless_90 P σ) ∧ (t0 = 0 → (((16 : Int32) ≤ x3 → (∃ f9, lM_X6_isUseless_95 P f9 x1 x3 (0 : Int32) σ)) ∧ (¬ ((16 : Int32) ≤ x3) → bM_X6_isUseless_90 P σ)))))))
def bM_X6_isUseless_63 (P : Int32 → hg_M → Prop)  (x1 : Int32) (x3 : Int32) (σ : hg_M) : Prop := bM_X6_isUseless_68 P x1 x3 (1 : Int32) σ
def wM_X6_isUseless (x1 : Int32) (σ : hg_M) (P : Int32 → hg_M → Prop) : Prop := vp_in ((6 : Int32) * x1) 24000 ∧ (∀ v1 : Int32, v1 = (σ 12 (((6 : Int32) * x1)).toNatClampNeg) → vp_in (((6 : Int32) * x1) + (1 : Int32)) 24000 ∧ (∀ v2 : Int32, v2 = (σ 12 ((((6 : Int32) * x1) + (1 : Int32))).toNatClampNeg) → ((v1 = (15 : Int32) → bM_X6_isUseless_63 P x1 v2 σ) ∧ (¬ (v1 = (15 : Int32)) → ((v1 = (16 : Int32) → bM_X6_isUseless_63 P x1 v2 σ) ∧ (¬ (v1 = (16 : Int32)) → ((v1 = (17 : Int32) → bM_X6_isUseless_63 P x1 v2 σ) ∧ (¬ (v1 = (17 : Int32)) → ((v1 = (18 : Int32) → bM_X6_isUseless_63 P x1 v2 σ) ∧ (¬ (v1 = (18 : Int32)) → ((v1 = (5 : Int32) → bM_X6_isUseless_63 P x1 v2 σ) ∧ (¬ (v1 = (5 : Int32)) → ((v1 = (6 : Int32) → bM_X6_isUseless_63 P x1 v2 σ) ∧ (¬ (v1 = (6 : Int32)) → ((v1 ≠ (14 : Int32) → bM_X6_isUseless_68 P x1 v2 (0 : Int32) σ) ∧ (v1 = (14 : Int32) → bM_X6_isUseless_63 P x1 v2 σ))))))))))))))))
set_option maxRecDepth 4000 in
theorem tbM_X6_isUseless_132 {d : Nat} {E : hg_Et} {X : hg_X} {P : Int32 → hg_M → Prop} {J95 : Int32 → Int32 → Int32 → hg_M → Prop} (hC : hg_C hg_FM 6 (d + 2) E cX6_isUseless RX6 X) (hR : hg_Rni hg_FM (some .boolean) hg_rM P X) (hJ95 : ∀ (x1 : Int32) (x3 : Int32) (x5 : Int32) (σ : hg_M), J95 x1 x3 x5 σ → hg_G hg_FM 6 X 95 [(0, .ref (hg_ad X 0)), (1, .int x1), (3, .int x3), (5, .int x5)] [] σ hg_rM) (x1 : Int32) (x3 : Int32) (x5 : Int32) (σ : hg_M) (hw : bM_X6_isUseless_132 P J95 x1 x3 x5 σ) : hg_G hg_FM 6 X 132 [(0, .ref (hg_ad X 0)), (1, .int x1), (3, .int x3), (5, .int x5)] [] σ hg_rM := by
  unfold bM_X6_isUseless_132 at hw
  obtain ⟨v5, ev5⟩ : ∃ z, z = x5 + (1 : Int32) := ⟨_, rfl⟩
  have hw := hw v5 ev5
  refine hg_iinc hC (v := v5) (L1 := [(5, .int v5), (0, .ref (hg_ad X 0)), (1, .int x1), (3, .int x3)]) dX6_isUseless_132 3 rfl (by rw [hl_i1, ev5]) (by decide) rfl (n := 135) rfl ?_
  refine hg_goto hC dX6_isUseless_135 (tg := 95) rfl ?_
  exact hg_sub [1, 2, 3, 0] rfl (hJ95 x1 x3 v5 σ hw)
set_option maxRecDepth 4000 in
theorem tlM_X6_isUseless_95 {d : Nat} {E : hg_Et} {X : hg_X} {P : Int32 → hg_M → Prop}  (hC : hg_C hg_FM 6 (d + 2) E cX6_isUseless RX6 X) (hR : hg_Rni hg_FM (some .boolean) hg_rM P X)  (n : Nat) : ∀ (x1 : Int32) (x3 : Int32) (x5 : Int32) (σ : hg_M), lM_X6_isUseless_95 P n x1 x3 x5 σ → hg_G hg_FM 6 X 95 [(0, .ref (hg_ad X 0)), (1, .int x1), (3, .int x3), (5, .int x5)] [] σ hg_rM := by
  induction n with
  | zero =>
    intro x1 x3 x5 σ hw
    rw [lM_X6_isUseless_95] at hw
    exact hw.elim
  | succ n ih =>
    intro x1 x3 x5 σ hw
    rw [lM_X6_isUseless_95] at hw
    refine hg_iload hC dX6_isUseless_95 3 rfl (n := 97) rfl ?_
    refine hg_aload_n hC dX6_isUseless_97 rfl 0 rfl (n := 98) rfl ?_
    refine hg_geti hC fl_RX6_199 dX6_isUseless_98 qM_0 kM_0 fM_6_20 (n := 101) rfl ?_
    refine hg_icmp_ge hC dX6_isUseless_101 (tg := 138) rfl (n := 104) rfl (fun h9 => ?_) (fun h9 => ?_)
    · have hw := hw.1 h9
      refine hg_iconst hC dX6_isUseless_138 hl_i1 (n := 139) rfl ?_
      exact hg_retz hC hR dX6_isUseless_139 hw
    · have hw := hw.2 h9
      refine hg_iload hC dX6_isUseless_104 3 rfl (n := 106) rfl ?_
      refine hg_iload_n hC dX6_isUseless_106 rfl 1 rfl (n := 107) rfl ?_
      refine hg_icmp_eq hC dX6_isUseless_107 (tg := 132) rfl (n := 110) rfl (fun h9 => ?_) (fun h9 => ?_)
      · have hw := hw.1 h9
        exact tbM_X6_isUseless_132 hC hR ih x1 x3 x5 σ hw
      · have hw := hw.2 h9
        refine hg_aload_n hC dX6_isUseless_110 rfl 0 rfl (n := 111) rfl ?_
        refine hg_getr hC fl_RX6_81 dX6_isUseless_111 qM_0 kM_0 fM_6_35 rM_0_35 (n := 114) rfl ?_
        refine hg_iload hC dX6_isUseless_114 3 rfl (n := 116) rfl ?_
        obtain ⟨h9, hw⟩ := hw
        refine hg_zald hC dX6_isUseless_116 qM_23 kM_23 h9 (n := 117) rfl ?_
        refine hg_if_ne hC dX6_isUseless_117 (tg := 132) rfl (n := 120) rfl (fun h9 => ?_) (fun h9 => ?_)
        · have hw := hw.1 h9
          exact tbM_X6_isUseless_132 hC hR ih x1 x3 x5 σ hw
        · have hw := hw.2 h9
          refine hg_aload_n hC dX6_isUseless_120 rfl 0 rfl (n := 121) rfl ?_
          refine hg_iload hC dX6_isUseless_121 3 rfl (n := 123) rfl ?_
          refine hg_iload_n hC dX6_isUseless_123 rfl 2 rfl (n := 124) rfl ?_
          refine hg_cVi hC (tM_X6_names (hg_Eof hC) X.2.1 (d + 0) _ _ _ _ hw) sv_RX6_269 dX6_isUseless_124 qM_0 kM_0 c_6 rfl (rest := []) rfl (Nat.le_of_ble_eq_true rfl) (n := 127) rfl (fun r4 σ3 hw => ?_)
          refine hg_if_eq hC dX6_isUseless_127 (tg := 132) rfl (n := 130) rfl (fun h9 => ?_) (fun h9 => ?_)
          · have hw := hw.1 h9
            exact tbM_X6_isUseless_132 hC hR ih x1 x3 x5 σ3 hw
          · have hw := hw.2 h9
            refine hg_iconst hC dX6_isUseless_130 hl_i0 (n := 131) rfl ?_
            exact hg_retz hC hR dX6_isUseless_131 hw
set_option maxRecDepth 4000 in
theorem tbM_X6_isUseless_90 {d : Nat} {E : hg_Et} {X : hg_X} {P : Int32 → hg_M → Prop}  (hC : hg_C hg_FM 6 (d + 2) E cX6_isUseless RX6 X) (hR : hg_Rni hg_FM (some .boolean) hg_rM P X)   (σ : hg_M) (hw : bM_X6_isUseless_90 P  σ) : hg_G hg_FM 6 X 90 [] [] σ hg_rM := by
  unfold bM_X6_isUseless_90 at hw
  refine hg_iconst hC dX6_isUseless_90 hl_i0 (n := 91) rfl ?_
  exact hg_retz hC hR dX6_isUseless_91 hw
set_option maxRecDepth 4000 in
theorem tbM_X6_isUseless_68 {d : Nat} {E : hg_Et} {X : hg_X} {P : Int32 → hg_M → Prop}  (hC : hg_C hg_FM 6 (d + 2) E cX6_isUseless RX6 X) (hR : hg_Rni hg_FM (some .boolean) hg_rM P X)  (x1 : Int32) (x3 : Int32) (t0 : Int32) (σ : hg_M) (hw : bM_X6_isUseless_68 P x1 x3 t0 σ) : hg_G hg_FM 6 X 68 [(0, .ref (hg_ad X 0)), (1, .int x1), (3, .int x3)] [.int t0] σ hg_rM := by
  unfold bM_X6_isUseless_68 at hw
  refine hg_istore hC (L1 := [(4, .int t0), (0, .ref (hg_ad X 0)), (1, .int x1), (3, .int x3)]) dX6_isUseless_68 (by decide) rfl (n := 70) rfl ?_
  refine hg_aload_n hC dX6_isUseless_70 rfl 1 rfl (n := 71) rfl ?_
  refine hg_getr hC fl_RX6_81 dX6_isUseless_71 qM_0 kM_0 fM_6_35 rM_0_35 (n := 74) rfl ?_
  refine hg_iload_n hC dX6_isUseless_74 rfl 2 rfl (n := 75) rfl ?_
  obtain ⟨h9, hw⟩ := hw
  refine hg_zald hC dX6_isUseless_75 qM_23 kM_23 h9 (n := 76) rfl ?_
  refine hg_if_ne hC dX6_isUseless_76 (tg := 90) rfl (n := 79) rfl (fun h9 => ?_) (fun h9 => ?_)
  · have hw := hw.1 h9
    exact hg_sub [] rfl (tbM_X6_isUseless_90 hC hR  σ hw)
  · have hw := hw.2 h9
    refine hg_iload hC dX6_isUseless_79 0 rfl (n := 81) rfl ?_
    refine hg_if_ne hC dX6_isUseless_81 (tg := 90) rfl (n := 84) rfl (fun h9 => ?_) (fun h9 => ?_)
    · have hw := hw.1 h9
      exact hg_sub [] rfl (tbM_X6_isUseless_90 hC hR  σ hw)
    · have hw := hw.2 h9
      refine hg_iload_n hC dX6_isUseless_84 rfl 3 rfl (n := 85) rfl ?_
      refine hg_bipush hC dX6_isUseless_85 hl_b16 (n := 87) rfl ?_
      refine hg_icmp_ge hC dX6_isUseless_87 (tg := 92) rfl (n := 90) rfl (fun h9 => ?_) (fun h9 => ?_)
      · have hw := hw.1 h9
        refine hg_iconst hC dX6_isUseless_92 hl_i0 (n := 93) rfl ?_
        refine hg_istore hC (L1 := [(5, .int (0 : Int32)), (4, .int t0), (0, .ref (hg_ad X 0)), (1, .int x1), (3, .int x3)]) dX6_isUseless_93 (by decide) rfl (n := 95) rfl ?_
        obtain ⟨n9, hw⟩ := hw
        exact hg_sub [2, 3, 4, 0] rfl (tlM_X6_isUseless_95 hC hR  n9 x1 x3 (0 : Int32) σ hw)
      · have hw := hw.2 h9
        exact hg_sub [] rfl (tbM_X6_isUseless_90 hC hR  σ hw)
set_option maxRecDepth 4000 in
theorem tbM_X6_isUseless_63 {d : Nat} {E : hg_Et} {X : hg_X} {P : Int32 → hg_M → Prop}  (hC : hg_C hg_FM 6 (d + 2) E cX6_isUseless RX6 X) (hR : hg_Rni hg_FM (some .boolean) hg_rM P X)  (x1 : Int32) (x3 : Int32) (σ : hg_M) (hw : bM_X6_isUseless_63 P x1 x3 σ) : hg_G hg_FM 6 X 63 [(0, .ref (hg_ad X 0)), (1, .int x1), (3, .int x3)] [] σ hg_rM := by
  unfold bM_X6_isUseless_63 at hw
  refine hg_iconst hC dX6_isUseless_63 hl_i1 (n := 64) rfl ?_
  refine hg_goto hC dX6_isUseless_64 (tg := 68) rfl ?_
  exact tbM_X6_isUseless_68 hC hR  x1 x3 (1 : Int32) σ hw
set_option maxRecDepth 4000 in
theorem tM_X6_isUseless {E : hg_Et} (hE : hg_Eok E) (l : Launch) (d : Nat) (x1 : Int32) (σ : hg_M) (P : Int32 → hg_M → Prop) (hw : wM_X6_isUseless x1 σ P) : hg_Ni hg_FM E l yX6_isUseless cX6_isUseless 6 (some .boolean) (d + 2) (fun ad => [.ref (ad 0), .int x1]) hg_rM σ P := by
  refine hg_ni hE (by decide) (fun _ => Nat.le_of_ble_eq_true rfl) (fun X hC hR hl => ?_)
  subst hl
  have hC : hg_C hg_FM 6 (d + 2) E cX6_isUseless RX6 X := hC
  show hg_G hg_FM 6 X 0 [(0, .ref (hg_ad X 0)), (1, .int x1)] [] σ hg_rM
  unfold wM_X6_isUseless at hw
  refine hg_aload_n hC dX6_isUseless_0 rfl 0 rfl (n := 1) rfl ?_
  refine hg_getr hC fl_RX6_44 dX6_isUseless_1 qM_0 kM_0 fM_6_19 rM_0_19 (n := 4) rfl ?_
  refine hg_bipush hC dX6_isUseless_4 hl_b6 (n := 6) rfl ?_
  refine hg_iload_n hC dX6_isUseless_6 rfl 1 rfl (n := 7) rfl ?_
  refine hg_imul hC dX6_isUseless_7 (n := 8) rfl ?_
  obtain ⟨h9, hw⟩ := hw
  refine hg_iald hC dX6_isUseless_8 qM_12 kM_12 h9 (n := 9) rfl ?_
  refine hg_topi (fun v1 ev1 => ?_)
  have hw := hw v1 ev1
  refine hg_istore_n hC (L1 := [(2, .int v1), (0, .ref (hg_ad X 0)), (1, .int x1)]) dX6_isUseless_9 rfl (by decide) rfl (n := 10) rfl ?_
  refine hg_aload_n hC dX6_isUseless_10 rfl 1 rfl (n := 11) rfl ?_
  refine hg_getr hC fl_RX6_44 dX6_isUseless_11 qM_0 kM_0 fM_6_19 rM_0_19 (n := 14) rfl ?_
  refine hg_bipush hC dX6_isUseless_14 hl_b6 (n := 16) rfl ?_
  refine hg_iload_n hC dX6_isUseless_16 rfl 2 rfl (n := 17) rfl ?_
  refine hg_imul hC dX6_isUseless_17 (n := 18) rfl ?_
  refine hg_iconst hC dX6_isUseless_18 hl_i1 (n := 19) rfl ?_
  refine hg_iadd hC dX6_isUseless_19 (n := 20) rfl ?_
  obtain ⟨h9, hw⟩ := hw
  refine hg_iald hC dX6_isUseless_20 qM_12 kM_12 h9 (n := 21) rfl ?_
  refine hg_topi (fun v2 ev2 => ?_)
  have hw := hw v2 ev2
  refine hg_istore_n hC (L1 := [(3, .int v2), (2, .int v1), (0, .ref (hg_ad X 0)), (1, .int x1)]) dX6_isUseless_21 rfl (by decide) rfl (n := 22) rfl ?_
  refine hg_iload_n hC dX6_isUseless_22 rfl 1 rfl (n := 23) rfl ?_
  refine hg_bipush hC dX6_isUseless_23 hl_b15 (n := 25) rfl ?_
  refine hg_icmp_eq hC dX6_isUseless_25 (tg := 63) rfl (n := 28) rfl (fun h9 => ?_) (fun h9 => ?_)
  · have hw := hw.1 h9
    exact hg_sub [2, 3, 0] rfl (tbM_X6_isUseless_63 hC hR  x1 v2 σ hw)
  · have hw := hw.2 h9
    refine hg_iload_n hC dX6_isUseless_28 rfl 1 rfl (n := 29) rfl ?_
    refine hg_bipush hC dX6_isUseless_29 hl_b16 (n := 31) rfl ?_
    refine hg_icmp_eq hC dX6_isUseless_31 (tg := 63) rfl (n := 34) rfl (fun h9 => ?_) (fun h9 => ?_)
    · have hw := hw.1 h9
      exact hg_sub [2, 3, 0] rfl (tbM_X6_isUseless_63 hC hR  x1 v2 σ hw)
    · have hw := hw.2 h9
      refine hg_iload_n hC dX6_isUseless_34 rfl 1 rfl (n := 35) rfl ?_
      refine hg_bipush hC dX6_isUseless_35 hl_b17 (n := 37) rfl ?_
      refine hg_icmp_eq hC dX6_isUseless_37 (tg := 63) rfl (n := 40) rfl (fun h9 => ?_) (fun h9 => ?_)
      · have hw := hw.1 h9
        exact hg_sub [2, 3, 0] rfl (tbM_X6_isUseless_63 hC hR  x1 v2 σ hw)
      · have hw := hw.2 h9
        refine hg_iload_n hC dX6_isUseless_40 rfl 1 rfl (n := 41) rfl ?_
        refine hg_bipush hC dX6_isUseless_41 hl_b18 (n := 43) rfl ?_
        refine hg_icmp_eq hC dX6_isUseless_43 (tg := 63) rfl (n := 46) rfl (fun h9 => ?_) (fun h9 => ?_)
        · have hw := hw.1 h9
          exact hg_sub [2, 3, 0] rfl (tbM_X6_isUseless_63 hC hR  x1 v2 σ hw)
        · have hw := hw.2 h9
          refine hg_iload_n hC dX6_isUseless_46 rfl 1 rfl (n := 47) rfl ?_
          refine hg_iconst hC dX6_isUseless_47 hl_i5 (n := 48) rfl ?_
          refine hg_icmp_eq hC dX6_isUseless_48 (tg := 63) rfl (n := 51) rfl (fun h9 => ?_) (fun h9 => ?_)
          · have hw := hw.1 h9
            exact hg_sub [2, 3, 0] rfl (tbM_X6_isUseless_63 hC hR  x1 v2 σ hw)
          · have hw := hw.2 h9
            refine hg_iload_n hC dX6_isUseless_51 rfl 1 rfl (n := 52) rfl ?_
            refine hg_bipush hC dX6_isUseless_52 hl_b6 (n := 54) rfl ?_
            refine hg_icmp_eq hC dX6_isUseless_54 (tg := 63) rfl (n := 57) rfl (fun h9 => ?_) (fun h9 => ?_)
            · have hw := hw.1 h9
              exact hg_sub [2, 3, 0] rfl (tbM_X6_isUseless_63 hC hR  x1 v2 σ hw)
            · have hw := hw.2 h9
              refine hg_iload_n hC dX6_isUseless_57 rfl 1 rfl (n := 58) rfl ?_
              refine hg_bipush hC dX6_isUseless_58 hl_b14 (n := 60) rfl ?_
              refine hg_icmp_ne hC dX6_isUseless_60 (tg := 67) rfl (n := 63) rfl (fun h9 => ?_) (fun h9 => ?_)
              · have hw := hw.1 h9
                refine hg_iconst hC dX6_isUseless_67 hl_i0 (n := 68) rfl ?_
                exact hg_sub [2, 3, 0] rfl (tbM_X6_isUseless_68 hC hR  x1 v2 (0 : Int32) σ hw)
              · have hw := hw.2 h9
                exact hg_sub [2, 3, 0] rfl (tbM_X6_isUseless_63 hC hR  x1 v2 σ hw)
def bM_X6_goneBefore_24 (P : Int32 → hg_M → Prop) (J4 : Int32 → Int32 → Int32 → hg_M → Prop) (x1 : Int32) (x3 : Int32) (t0 : Int32) (t1 : Int32) (σ : hg_M) : Prop := ∀ v1 : Int32, v1 = (t0 + t1) → ∀ v2 : Int32, v2 = x3 + (1 : Int32) → J4 x1 v1 v2 σ
def lM_X6_goneBefore_4 (P : Int32 → hg_M → Prop)  : Nat → Int32 → Int32 → Int32 → hg_M → Prop
  | 0, _, _, _, _ => False
  | n + 1, x1, x2, x3, σ => ((x1 ≤ x3 → P x2 σ) ∧ (¬ (x1 ≤ x3) → vp_in x3 4000 ∧ ((((σ 23 (x3).toNatClampNeg) = 0 → bM_X6_goneBefore_24 P (fun k0 k1 k2 k3 => lM_X6_goneBefore_4 P n k0 k1 k2 k3) x1 x3 x2 (0 : Int32) σ) ∧ (¬ (σ 23 (x3).toNatClampNeg) = 0 → bM_X6_goneBefore_24 P (fun k0 k1 k2 k3 => lM_X6_goneBefore_4 P n k0 k1 k2 k3) x1 x3 x2 (1 : Int32) σ)))))
def wM_X6_goneBefore (x1 : Int32) (σ : hg_M) (P : Int32 → hg_M → Prop) : Prop := (∃ f9, lM_X6_goneBefore_4 P f9 x1 (0 : Int32) (0 : Int32) σ)
set_option maxRecDepth 4000 in
theorem tbM_X6_goneBefore_24 {d : Nat} {E : hg_Et} {X : hg_X} {P : Int32 → hg_M → Prop} {J4 : Int32 → Int32 → Int32 → hg_M → Prop} (hC : hg_C hg_FM 4 (d + 1) E cX6_goneBefore RX6 X) (hR : hg_Rni hg_FM (some .int) hg_rM P X) (hJ4 : ∀ (x1 : Int32) (x2 : Int32) (x3 : Int32) (σ : hg_M), J4 x1 x2 x3 σ → hg_G hg_FM 4 X 4 [(0, .ref (hg_ad X 0)), (1, .int x1), (2, .int x2), (3, .int x3)] [] σ hg_rM) (x1 : Int32) (x3 : Int32) (t0 : Int32) (t1 : Int32) (σ : hg_M) (hw : bM_X6_goneBefore_24 P J4 x1 x3 t0 t1 σ) : hg_G hg_FM 4 X 24 [(0, .ref (hg_ad X 0)), (1, .int x1), (3, .int x3)] [.int t1, .int t0] σ hg_rM := by
  unfold bM_X6_goneBefore_24 at hw
  refine hg_iadd hC dX6_goneBefore_24 (n := 25) rfl ?_
  refine hg_topi (fun v1 ev1 => ?_)
  have hw := hw v1 ev1
  refine hg_istore_n hC (L1 := [(2, .int v1), (0, .ref (hg_ad X 0)), (1, .int x1), (3, .int x3)]) dX6_goneBefore_25 rfl (by decide) rfl (n := 26) rfl ?_
  obtain ⟨v2, ev2⟩ : ∃ z, z = x3 + (1 : Int32) := ⟨_, rfl⟩
  have hw := hw v2 ev2
  refine hg_iinc hC (v := v2) (L1 := [(3, .int v2), (2, .int v1), (0, .ref (hg_ad X 0)), (1, .int x1)]) dX6_goneBefore_26 3 rfl (by rw [hl_i1, ev2]) (by decide) rfl (n := 29) rfl ?_
  refine hg_goto hC dX6_goneBefore_29 (tg := 4) rfl ?_
  exact hg_sub [2, 3, 1, 0] rfl (hJ4 x1 v1 v2 σ hw)
set_option maxRecDepth 4000 in
theorem tlM_X6_goneBefore_4 {d : Nat} {E : hg_Et} {X : hg_X} {P : Int32 → hg_M → Prop}  (hC : hg_C hg_FM 4 (d + 1) E cX6_goneBefore RX6 X) (hR : hg_Rni hg_FM (some .int) hg_rM P X)  (n : Nat) : ∀ (x1 : Int32) (x2 : Int32) (x3 : Int32) (σ : hg_M), lM_X6_goneBefore_4 P n x1 x2 x3 σ → hg_G hg_FM 4 X 4 [(0, .ref (hg_ad X 0)), (1, .int x1), (2, .int x2), (3, .int x3)] [] σ hg_rM := by
  induction n with
  | zero =>
    intro x1 x2 x3 σ hw
    rw [lM_X6_goneBefore_4] at hw
    exact hw.elim
  | succ n ih =>
    intro x1 x2 x3 σ hw
    rw [lM_X6_goneBefore_4] at hw
    refine hg_iload_n hC dX6_goneBefore_4 rfl 3 rfl (n := 5) rfl ?_
    refine hg_iload_n hC dX6_goneBefore_5 rfl 1 rfl (n := 6) rfl ?_
    refine hg_icmp_ge hC dX6_goneBefore_6 (tg := 32) rfl (n := 9) rfl (fun h9 => ?_) (fun h9 => ?_)
    · have hw := hw.1 h9
      refine hg_iload_n hC dX6_goneBefore_32 rfl 2 rfl (n := 33) rfl ?_
      exact hg_reti hC hR dX6_goneBefore_33 hw
    · have hw := hw.2 h9
      refine hg_iload_n hC dX6_goneBefore_9 rfl 2 rfl (n := 10) rfl ?_
      refine hg_aload_n hC dX6_goneBefore_10 rfl 0 rfl (n := 11) rfl ?_
      refine hg_getr hC fl_RX6_81 dX6_goneBefore_11 qM_0 kM_0 fM_6_35 rM_0_35 (n := 14) rfl ?_
      refine hg_iload_n hC dX6_goneBefore_14 rfl 3 rfl (n := 15) rfl ?_
      obtain ⟨h9, hw⟩ := hw
      refine hg_zald hC dX6_goneBefore_15 qM_23 kM_23 h9 (n := 16) rfl ?_
      refine hg_if_eq hC dX6_goneBefore_16 (tg := 23) rfl (n := 19) rfl (fun h9 => ?_) (fun h9 => ?_)
      · have hw := hw.1 h9
        refine hg_iconst hC dX6_goneBefore_23 hl_i0 (n := 24) rfl ?_
        exact hg_sub [0, 1, 3] rfl (tbM_X6_goneBefore_24 hC hR ih x1 x3 x2 (0 : Int32) σ hw)
      · have hw := hw.2 h9
        refine hg_iconst hC dX6_goneBefore_19 hl_i1 (n := 20) rfl ?_
        refine hg_goto hC dX6_goneBefore_20 (tg := 24) rfl ?_
        exact hg_sub [0, 1, 3] rfl (tbM_X6_goneBefore_24 hC hR ih x1 x3 x2 (1 : Int32) σ hw)
set_option maxRecDepth 4000 in
theorem tM_X6_goneBefore {E : hg_Et} (hE : hg_Eok E) (l : Launch) (d : Nat) (x1 : Int32) (σ : hg_M) (P : Int32 → hg_M → Prop) (hw : wM_X6_goneBefore x1 σ P) : hg_Ni hg_FM E l yX6_goneBefore cX6_goneBefore 4 (some .int) (d + 1) (fun ad => [.ref (ad 0), .int x1]) hg_rM σ P := by
  refine hg_ni hE (by decide) (fun _ => Nat.le_of_ble_eq_true rfl) (fun X hC hR hl => ?_)
  subst hl
  have hC : hg_C hg_FM 4 (d + 1) E cX6_goneBefore RX6 X := hC
  show hg_G hg_FM 4 X 0 [(0, .ref (hg_ad X 0)), (1, .int x1)] [] σ hg_rM
  unfold wM_X6_goneBefore at hw
  refine hg_iconst hC dX6_goneBefore_0 hl_i0 (n := 1) rfl ?_
  refine hg_istore_n hC (L1 := [(2, .int (0 : Int32)), (0, .ref (hg_ad X 0)), (1, .int x1)]) dX6_goneBefore_1 rfl (by decide) rfl (n := 2) rfl ?_
  refine hg_iconst hC dX6_goneBefore_2 hl_i0 (n := 3) rfl ?_
  refine hg_istore_n hC (L1 := [(3, .int (0 : Int32)), (2, .int (0 : Int32)), (0, .ref (hg_ad X 0)), (1, .int x1)]) dX6_goneBefore_3 rfl (by decide) rfl (n := 4) rfl ?_
  obtain ⟨n9, hw⟩ := hw
  exact hg_sub [2, 3, 1, 0] rfl (tlM_X6_goneBefore_4 hC hR  n9 x1 (0 : Int32) (0 : Int32) σ hw)
def wM_X6_step (x1 : Int32) (x2 : Int32) (σ : hg_M) (P : Int32 → hg_M → Prop) : Prop := wM_X6_isIn (x1).toInt64 (0 : Int64) (((σ 0 20) - (1 : Int32))).toInt64 σ (fun r2 σ1 => wM_X6_isIn (x2).toInt64 (0 : Int64) (5 : Int64) σ1 (fun r4 σ3 => wM_X6_may r2 r4 σ3 (fun r6 σ5 => ((r6 ≠ 0 → vp_in (((6 : Int32) * x1) + x2) 24000 ∧ (P (σ5 12 ((((6 : Int32) * x1) + x2)).toNatClampNeg) σ5)) ∧ (r6 = 0 → P (0 : Int32) σ5)))))
set_option maxRecDepth 4000 in
theorem tM_X6_step {E : hg_Et} (hE : hg_Eok E) (l : Launch) (d : Nat) (x1 : Int32) (x2 : Int32) (σ : hg_M) (P : Int32 → hg_M → Prop) (hw : wM_X6_step x1 x2 σ P) : hg_Ni hg_FM E l yX6_step cX6_step 3 (some .int) (d + 2) (fun ad => [.ref (ad 0), .int x1, .int x2]) hg_rM σ P := by
  refine hg_ni hE (by decide) (fun _ => Nat.le_of_ble_eq_true rfl) (fun X hC hR hl => ?_)
  subst hl
  have hC : hg_C hg_FM 3 (d + 2) E cX6_step RX6 X := hC
  show hg_G hg_FM 3 X 0 [(0, .ref (hg_ad X 0)), (1, .int x1), (2, .int x2)] [] σ hg_rM
  unfold wM_X6_step at hw
  refine hg_aload_n hC dX6_step_0 rfl 0 rfl (n := 1) rfl ?_
  refine hg_iload_n hC dX6_step_1 rfl 1 rfl (n := 2) rfl ?_
  refine hg_i2l hC dX6_step_2 rfl (n := 3) rfl ?_
  refine hg_lconst hC dX6_step_3 hl_l0 (n := 4) rfl ?_
  refine hg_aload_n hC dX6_step_4 rfl 0 rfl (n := 5) rfl ?_
  refine hg_geti hC fl_RX6_199 dX6_step_5 qM_0 kM_0 fM_6_20 (n := 8) rfl ?_
  refine hg_iconst hC dX6_step_8 hl_i1 (n := 9) rfl ?_
  refine hg_isub hC dX6_step_9 (n := 10) rfl ?_
  refine hg_i2l hC dX6_step_10 rfl (n := 11) rfl ?_
  refine hg_cSi hC (tM_X6_isIn (hg_Eof hC) X.2.1 (d + 0) _ _ _ _ _ hw) ss_RX6_107 dX6_step_11 rfl (rest := [.ref (hg_ad X 0)]) rfl (Nat.le_of_ble_eq_true rfl) (n := 14) rfl (fun r2 σ1 hw => ?_)
  refine hg_iload_n hC dX6_step_14 rfl 2 rfl (n := 15) rfl ?_
  refine hg_i2l hC dX6_step_15 rfl (n := 16) rfl ?_
  refine hg_lconst hC dX6_step_16 hl_l0 (n := 17) rfl ?_
  refine hg_ldc2 hC dX6_step_17 kl_RX6_278 (n := 20) rfl ?_
  refine hg_cSi hC (tM_X6_isIn (hg_Eof hC) X.2.1 (d + 0) _ _ _ _ _ hw) ss_RX6_107 dX6_step_20 rfl (rest := [.int r2, .ref (hg_ad X 0)]) rfl (Nat.le_of_ble_eq_true rfl) (n := 23) rfl (fun r4 σ3 hw => ?_)
  refine hg_cVi hC (tM_X6_may (hg_Eof hC) X.2.1 (d + 0) _ _ _ _ hw) sv_RX6_111 dX6_step_23 qM_0 kM_0 c_6 rfl (rest := []) rfl (Nat.le_of_ble_eq_true rfl) (n := 26) rfl (fun r6 σ5 hw => ?_)
  refine hg_if_ne hC dX6_step_26 (tg := 31) rfl (n := 29) rfl (fun h9 => ?_) (fun h9 => ?_)
  · have hw := hw.1 h9
    refine hg_aload_n hC dX6_step_31 rfl 0 rfl (n := 32) rfl ?_
    refine hg_getr hC fl_RX6_44 dX6_step_32 qM_0 kM_0 fM_6_19 rM_0_19 (n := 35) rfl ?_
    refine hg_bipush hC dX6_step_35 hl_b6 (n := 37) rfl ?_
    refine hg_iload_n hC dX6_step_37 rfl 1 rfl (n := 38) rfl ?_
    refine hg_imul hC dX6_step_38 (n := 39) rfl ?_
    refine hg_iload_n hC dX6_step_39 rfl 2 rfl (n := 40) rfl ?_
    refine hg_iadd hC dX6_step_40 (n := 41) rfl ?_
    obtain ⟨h9, hw⟩ := hw
    refine hg_iald hC dX6_step_41 qM_12 kM_12 h9 (n := 42) rfl ?_
    exact hg_reti hC hR dX6_step_42 hw
  · have hw := hw.2 h9
    refine hg_iconst hC dX6_step_29 hl_i0 (n := 30) rfl ?_
    exact hg_reti hC hR dX6_step_30 hw
def bM_X6_statement_111 (P : Int32 → hg_M → Prop) (J80 : Int32 → Int32 → Int32 → hg_M → Prop) (x1 : Int32) (x4 : Int32) (t0 : Int32) (t1 : Int32) (σ : hg_M) : Prop := ∀ v11 : Int32, v11 = (t0 + t1) → ∀ v12 : Int32, v12 = x4 + (1 : Int32) → J80 x1 v11 v12 σ
def lM_X6_statement_80 (P : Int32 → hg_M → Prop)  : Nat → Int32 → Int32 → Int32 → hg_M → Prop
  | 0, _, _, _, _ => False
  | n + 1, x1, x3, x4, σ => (((σ 0 20) ≤ x4 → P x3 σ) ∧ (¬ ((σ 0 20) ≤ x4) → vp_in (((6 : Int32) * x4) + (5 : Int32)) 24000 ∧ ((((σ 12 ((((6 : Int32) * x4) + (5 : Int32))).toNatClampNeg) ≠ x1 → bM_X6_statement_111 P (fun k0 k1 k2 k3 => lM_X6_statement_80 P n k0 k1 k2 k3) x1 x4 x3 (0 : Int32) σ) ∧ ((σ 12 ((((6 : Int32) * x4) + (5 : Int32))).toNatClampNeg) = x1 → bM_X6_statement_111 P (fun k0 k1 k2 k3 => lM_X6_statement_80 P n k0 k1 k2 k3) x1 x4 x3 (1 : Int32) σ)))))
def bM_X6_statement_74 (P : Int32 → hg_M → Prop)  (t0 : Int32) (σ : hg_M) : Prop := P t0 σ
def wM_X6_statement (x1 : Int32) (x2 : Int32) (σ : hg_M) (P : Int32 → hg_M → Prop) : Prop := wM_X6_isIn (x1).toInt64 (0 : Int64) (((σ 0 9) - (1 : Int32))).toInt64 σ (fun r2 σ1 => wM_X6_isIn (x2).toInt64 (0 : Int64) (3 : Int64) σ1 (fun r4 σ3 => wM_X6_may r2 r4 σ3 (fun r6 σ5 => ((r6 ≠ 0 → ((x2 ≠ 0 → ((x2 ≠ (1 : Int32) → ((x2 ≠ (2 : Int32) → (∃ f9, lM_X6_statement_80 P f9 x1 (0 : Int32) (0 : Int32) σ5)) ∧ (x2 = (2 : Int32) → vp_in x1 60 ∧ ((((σ5 13 (x1).toNatClampNeg) = 0 → bM_X6_statement_74 P (0 : Int32) σ5) ∧ (¬ (σ5 13 (x1).toNatClampNeg) = 0 → bM_X6_statement_74 P (1 : Int32) σ5)))))) ∧ (x2 = (1 : Int32) → wM_X6_of x1 (7 : Int32) σ5 (fun r8 σ7 => P r8 σ7)))) ∧ (x2 = 0 → wM_X6_of x1 (0 : Int32) σ5 (fun r10 σ9 => P r10 σ9)))) ∧ (r6 = 0 → P (0 : Int32) σ5)))))
set_option maxRecDepth 4000 in
theorem tbM_X6_statement_111 {d : Nat} {E : hg_Et} {X : hg_X} {P : Int32 → hg_M → Prop} {J80 : Int32 → Int32 → Int32 → hg_M → Prop} (hC : hg_C hg_FM 5 (d + 2) E cX6_statement RX6 X) (hR : hg_Rni hg_FM (some .int) hg_rM P X) (hJ80 : ∀ (x1 : Int32) (x3 : Int32) (x4 : Int32) (σ : hg_M), J80 x1 x3 x4 σ → hg_G hg_FM 5 X 80 [(0, .ref (hg_ad X 0)), (1, .int x1), (3, .int x3), (4, .int x4)] [] σ hg_rM) (x1 : Int32) (x4 : Int32) (t0 : Int32) (t1 : Int32) (σ : hg_M) (hw : bM_X6_statement_111 P J80 x1 x4 t0 t1 σ) : hg_G hg_FM 5 X 111 [(0, .ref (hg_ad X 0)), (1, .int x1), (4, .int x4)] [.int t1, .int t0] σ hg_rM := by
  unfold bM_X6_statement_111 at hw
  refine hg_iadd hC dX6_statement_111 (n := 112) rfl ?_
  refine hg_topi (fun v11 ev11 => ?_)
  have hw := hw v11 ev11
  refine hg_istore_n hC (L1 := [(3, .int v11), (0, .ref (hg_ad X 0)), (1, .int x1), (4, .int x4)]) dX6_statement_112 rfl (by decide) rfl (n := 113) rfl ?_
  obtain ⟨v12, ev12⟩ : ∃ z, z = x4 + (1 : Int32) := ⟨_, rfl⟩
  have hw := hw v12 ev12
  refine hg_iinc hC (v := v12) (L1 := [(4, .int v12), (3, .int v11), (0, .ref (hg_ad X 0)), (1, .int x1)]) dX6_statement_113 3 rfl (by rw [hl_i1, ev12]) (by decide) rfl (n := 116) rfl ?_
  refine hg_goto hC dX6_statement_116 (tg := 80) rfl ?_
  exact hg_sub [2, 3, 1, 0] rfl (hJ80 x1 v11 v12 σ hw)
set_option maxRecDepth 4000 in
theorem tlM_X6_statement_80 {d : Nat} {E : hg_Et} {X : hg_X} {P : Int32 → hg_M → Prop}  (hC : hg_C hg_FM 5 (d + 2) E cX6_statement RX6 X) (hR : hg_Rni hg_FM (some .int) hg_rM P X)  (n : Nat) : ∀ (x1 : Int32) (x3 : Int32) (x4 : Int32) (σ : hg_M), lM_X6_statement_80 P n x1 x3 x4 σ → hg_G hg_FM 5 X 80 [(0, .ref (hg_ad X 0)), (1, .int x1), (3, .int x3), (4, .int x4)] [] σ hg_rM := by
  induction n with
  | zero =>
    intro x1 x3 x4 σ hw
    rw [lM_X6_statement_80] at hw
    exact hw.elim
  | succ n ih =>
    intro x1 x3 x4 σ hw
    rw [lM_X6_statement_80] at hw
    refine hg_iload hC dX6_statement_80 3 rfl (n := 82) rfl ?_
    refine hg_aload_n hC dX6_statement_82 rfl 0 rfl (n := 83) rfl ?_
    refine hg_geti hC fl_RX6_199 dX6_statement_83 qM_0 kM_0 fM_6_20 (n := 86) rfl ?_
    refine hg_icmp_ge hC dX6_statement_86 (tg := 119) rfl (n := 89) rfl (fun h9 => ?_) (fun h9 => ?_)
    · have hw := hw.1 h9
      refine hg_iload_n hC dX6_statement_119 rfl 2 rfl (n := 120) rfl ?_
      exact hg_reti hC hR dX6_statement_120 hw
    · have hw := hw.2 h9
      refine hg_iload_n hC dX6_statement_89 rfl 2 rfl (n := 90) rfl ?_
      refine hg_aload_n hC dX6_statement_90 rfl 0 rfl (n := 91) rfl ?_
      refine hg_getr hC fl_RX6_44 dX6_statement_91 qM_0 kM_0 fM_6_19 rM_0_19 (n := 94) rfl ?_
      refine hg_bipush hC dX6_statement_94 hl_b6 (n := 96) rfl ?_
      refine hg_iload hC dX6_statement_96 3 rfl (n := 98) rfl ?_
      refine hg_imul hC dX6_statement_98 (n := 99) rfl ?_
      refine hg_iconst hC dX6_statement_99 hl_i5 (n := 100) rfl ?_
      refine hg_iadd hC dX6_statement_100 (n := 101) rfl ?_
      obtain ⟨h9, hw⟩ := hw
      refine hg_iald hC dX6_statement_101 qM_12 kM_12 h9 (n := 102) rfl ?_
      refine hg_iload_n hC dX6_statement_102 rfl 1 rfl (n := 103) rfl ?_
      refine hg_icmp_ne hC dX6_statement_103 (tg := 110) rfl (n := 106) rfl (fun h9 => ?_) (fun h9 => ?_)
      · have hw := hw.1 h9
        refine hg_iconst hC dX6_statement_110 hl_i0 (n := 111) rfl ?_
        exact hg_sub [0, 1, 3] rfl (tbM_X6_statement_111 hC hR ih x1 x4 x3 (0 : Int32) σ hw)
      · have hw := hw.2 h9
        refine hg_iconst hC dX6_statement_106 hl_i1 (n := 107) rfl ?_
        refine hg_goto hC dX6_statement_107 (tg := 111) rfl ?_
        exact hg_sub [0, 1, 3] rfl (tbM_X6_statement_111 hC hR ih x1 x4 x3 (1 : Int32) σ hw)
set_option maxRecDepth 4000 in
theorem tbM_X6_statement_74 {d : Nat} {E : hg_Et} {X : hg_X} {P : Int32 → hg_M → Prop}  (hC : hg_C hg_FM 5 (d + 2) E cX6_statement RX6 X) (hR : hg_Rni hg_FM (some .int) hg_rM P X)  (t0 : Int32) (σ : hg_M) (hw : bM_X6_statement_74 P t0 σ) : hg_G hg_FM 5 X 74 [] [.int t0] σ hg_rM := by
  unfold bM_X6_statement_74 at hw
  exact hg_reti hC hR dX6_statement_74 hw
set_option maxRecDepth 4000 in
theorem tM_X6_statement {E : hg_Et} (hE : hg_Eok E) (l : Launch) (d : Nat) (x1 : Int32) (x2 : Int32) (σ : hg_M) (P : Int32 → hg_M → Prop) (hw : wM_X6_statement x1 x2 σ P) : hg_Ni hg_FM E l yX6_statement cX6_statement 5 (some .int) (d + 2) (fun ad => [.ref (ad 0), .int x1, .int x2]) hg_rM σ P := by
  refine hg_ni hE (by decide) (fun _ => Nat.le_of_ble_eq_true rfl) (fun X hC hR hl => ?_)
  subst hl
  have hC : hg_C hg_FM 5 (d + 2) E cX6_statement RX6 X := hC
  show hg_G hg_FM 5 X 0 [(0, .ref (hg_ad X 0)), (1, .int x1), (2, .int x2)] [] σ hg_rM
  unfold wM_X6_statement at hw
  refine hg_aload_n hC dX6_statement_0 rfl 0 rfl (n := 1) rfl ?_
  refine hg_iload_n hC dX6_statement_1 rfl 1 rfl (n := 2) rfl ?_
  refine hg_i2l hC dX6_statement_2 rfl (n := 3) rfl ?_
  refine hg_lconst hC dX6_statement_3 hl_l0 (n := 4) rfl ?_
  refine hg_aload_n hC dX6_statement_4 rfl 0 rfl (n := 5) rfl ?_
  refine hg_geti hC fl_RX6_192 dX6_statement_5 qM_0 kM_0 fM_6_9 (n := 8) rfl ?_
  refine hg_iconst hC dX6_statement_8 hl_i1 (n := 9) rfl ?_
  refine hg_isub hC dX6_statement_9 (n := 10) rfl ?_
  refine hg_i2l hC dX6_statement_10 rfl (n := 11) rfl ?_
  refine hg_cSi hC (tM_X6_isIn (hg_Eof hC) X.2.1 (d + 0) _ _ _ _ _ hw) ss_RX6_107 dX6_statement_11 rfl (rest := [.ref (hg_ad X 0)]) rfl (Nat.le_of_ble_eq_true rfl) (n := 14) rfl (fun r2 σ1 hw => ?_)
  refine hg_iload_n hC dX6_statement_14 rfl 2 rfl (n := 15) rfl ?_
  refine hg_i2l hC dX6_statement_15 rfl (n := 16) rfl ?_
  refine hg_lconst hC dX6_statement_16 hl_l0 (n := 17) rfl ?_
  refine hg_ldc2 hC dX6_statement_17 kl_RX6_280 (n := 20) rfl ?_
  refine hg_cSi hC (tM_X6_isIn (hg_Eof hC) X.2.1 (d + 0) _ _ _ _ _ hw) ss_RX6_107 dX6_statement_20 rfl (rest := [.int r2, .ref (hg_ad X 0)]) rfl (Nat.le_of_ble_eq_true rfl) (n := 23) rfl (fun r4 σ3 hw => ?_)
  refine hg_cVi hC (tM_X6_may (hg_Eof hC) X.2.1 (d + 0) _ _ _ _ hw) sv_RX6_111 dX6_statement_23 qM_0 kM_0 c_6 rfl (rest := []) rfl (Nat.le_of_ble_eq_true rfl) (n := 26) rfl (fun r6 σ5 hw => ?_)
  refine hg_if_ne hC dX6_statement_26 (tg := 31) rfl (n := 29) rfl (fun h9 => ?_) (fun h9 => ?_)
  · have hw := hw.1 h9
    refine hg_iload_n hC dX6_statement_31 rfl 2 rfl (n := 32) rfl ?_
    refine hg_if_ne hC dX6_statement_32 (tg := 42) rfl (n := 35) rfl (fun h9 => ?_) (fun h9 => ?_)
    · have hw := hw.1 h9
      refine hg_iload_n hC dX6_statement_42 rfl 2 rfl (n := 43) rfl ?_
      refine hg_iconst hC dX6_statement_43 hl_i1 (n := 44) rfl ?_
      refine hg_icmp_ne hC dX6_statement_44 (tg := 55) rfl (n := 47) rfl (fun h9 => ?_) (fun h9 => ?_)
      · have hw := hw.1 h9
        refine hg_iload_n hC dX6_statement_55 rfl 2 rfl (n := 56) rfl ?_
        refine hg_iconst hC dX6_statement_56 hl_i2 (n := 57) rfl ?_
        refine hg_icmp_ne hC dX6_statement_57 (tg := 75) rfl (n := 60) rfl (fun h9 => ?_) (fun h9 => ?_)
        · have hw := hw.1 h9
          refine hg_iconst hC dX6_statement_75 hl_i0 (n := 76) rfl ?_
          refine hg_istore_n hC (L1 := [(3, .int (0 : Int32)), (0, .ref (hg_ad X 0)), (1, .int x1), (2, .int x2)]) dX6_statement_76 rfl (by decide) rfl (n := 77) rfl ?_
          refine hg_iconst hC dX6_statement_77 hl_i0 (n := 78) rfl ?_
          refine hg_istore hC (L1 := [(4, .int (0 : Int32)), (3, .int (0 : Int32)), (0, .ref (hg_ad X 0)), (1, .int x1), (2, .int x2)]) dX6_statement_78 (by decide) rfl (n := 80) rfl ?_
          obtain ⟨n9, hw⟩ := hw
          exact hg_sub [2, 3, 1, 0] rfl (tlM_X6_statement_80 hC hR  n9 x1 (0 : Int32) (0 : Int32) σ5 hw)
        · have hw := hw.2 h9
          refine hg_aload_n hC dX6_statement_60 rfl 0 rfl (n := 61) rfl ?_
          refine hg_getr hC fl_RX6_51 dX6_statement_61 qM_0 kM_0 fM_6_23 rM_0_23 (n := 64) rfl ?_
          refine hg_iload_n hC dX6_statement_64 rfl 1 rfl (n := 65) rfl ?_
          obtain ⟨h9, hw⟩ := hw
          refine hg_zald hC dX6_statement_65 qM_13 kM_13 h9 (n := 66) rfl ?_
          refine hg_if_eq hC dX6_statement_66 (tg := 73) rfl (n := 69) rfl (fun h9 => ?_) (fun h9 => ?_)
          · have hw := hw.1 h9
            refine hg_iconst hC dX6_statement_73 hl_i0 (n := 74) rfl ?_
            exact hg_sub [] rfl (tbM_X6_statement_74 hC hR  (0 : Int32) σ5 hw)
          · have hw := hw.2 h9
            refine hg_iconst hC dX6_statement_69 hl_i1 (n := 70) rfl ?_
            refine hg_goto hC dX6_statement_70 (tg := 74) rfl ?_
            exact hg_sub [] rfl (tbM_X6_statement_74 hC hR  (1 : Int32) σ5 hw)
      · have hw := hw.2 h9
        refine hg_aload_n hC dX6_statement_47 rfl 0 rfl (n := 48) rfl ?_
        refine hg_iload_n hC dX6_statement_48 rfl 1 rfl (n := 49) rfl ?_
        refine hg_bipush hC dX6_statement_49 hl_b7 (n := 51) rfl ?_
        refine hg_cVi hC (tM_X6_of (hg_Eof hC) X.2.1 (d + 0) _ _ _ _ hw) sv_RX6_212 dX6_statement_51 qM_0 kM_0 c_6 rfl (rest := []) rfl (Nat.le_of_ble_eq_true rfl) (n := 54) rfl (fun r8 σ7 hw => ?_)
        exact hg_reti hC hR dX6_statement_54 hw
    · have hw := hw.2 h9
      refine hg_aload_n hC dX6_statement_35 rfl 0 rfl (n := 36) rfl ?_
      refine hg_iload_n hC dX6_statement_36 rfl 1 rfl (n := 37) rfl ?_
      refine hg_iconst hC dX6_statement_37 hl_i0 (n := 38) rfl ?_
      refine hg_cVi hC (tM_X6_of (hg_Eof hC) X.2.1 (d + 0) _ _ _ _ hw) sv_RX6_212 dX6_statement_38 qM_0 kM_0 c_6 rfl (rest := []) rfl (Nat.le_of_ble_eq_true rfl) (n := 41) rfl (fun r10 σ9 hw => ?_)
      exact hg_reti hC hR dX6_statement_41 hw
  · have hw := hw.2 h9
    refine hg_iconst hC dX6_statement_29 hl_i0 (n := 30) rfl ?_
    exact hg_reti hC hR dX6_statement_30 hw
def lM_X6_begin_28 (P : hg_M → Prop)  : Nat → Int32 → hg_M → Prop
  | 0, _, _ => False
  | n + 1, x1, σ => (((32 : Int32) ≤ x1 → ∀ σ3 : hg_M, σ3 = hg_set σ 0 39 (0 : Int32) → ∀ σ4 : hg_M, σ4 = hg_set σ3 0 40 (-1 : Int32) → ∀ σ5 : hg_M, σ5 = hg_set σ4 0 41 (0 : Int32) → ∀ σ6 : hg_M, σ6 = hg_set σ5 0 42 (0 : Int32) → P σ6) ∧ (¬ ((32 : Int32) ≤ x1) → vp_in x1 32 ∧ (vp_in x1 32 ∧ (∀ σ7 : hg_M, σ7 = hg_set σ 25 (x1).toNatClampNeg (σ 2 (x1).toNatClampNeg) → ∀ v8 : Int32, v8 = x1 + (1 : Int32) → lM_X6_begin_28 P n v8 σ7))))
def lM_X6_begin_2 (P : hg_M → Prop)  : Nat → Int32 → hg_M → Prop
  | 0, _, _ => False
  | n + 1, x1, σ => (((16 : Int32) ≤ x1 → (∃ f9, lM_X6_begin_28 P f9 (0 : Int32) σ)) ∧ (¬ ((16 : Int32) ≤ x1) → vp_in x1 16 ∧ (vp_in x1 4100 ∧ (∀ σ1 : hg_M, σ1 = hg_set σ 27 (x1).toNatClampNeg (σ 1 (x1).toNatClampNeg) → ∀ v2 : Int32, v2 = x1 + (1 : Int32) → lM_X6_begin_2 P n v2 σ1))))
def wM_X6_begin  (σ : hg_M) (P : hg_M → Prop) : Prop := (∃ f9, lM_X6_begin_2 P f9 (0 : Int32) σ)
set_option maxRecDepth 4000 in
theorem tlM_X6_begin_28 {d : Nat} {E : hg_Et} {X : hg_X} {P : hg_M → Prop}  (hC : hg_C hg_FM 2 (d + 1) E cX6_begin RX6 X) (hR : hg_Rnv hg_FM hg_rM P X)  (n : Nat) : ∀ (x1 : Int32) (σ : hg_M), lM_X6_begin_28 P n x1 σ → hg_G hg_FM 2 X 28 [(0, .ref (hg_ad X 0)), (1, .int x1)] [] σ hg_rM := by
  induction n with
  | zero =>
    intro x1 σ hw
    rw [lM_X6_begin_28] at hw
    exact hw.elim
  | succ n ih =>
    intro x1 σ hw
    rw [lM_X6_begin_28] at hw
    refine hg_iload_n hC dX6_begin_28 rfl 1 rfl (n := 29) rfl ?_
    refine hg_bipush hC dX6_begin_29 hl_b32 (n := 31) rfl ?_
    refine hg_icmp_ge hC dX6_begin_31 (tg := 52) rfl (n := 34) rfl (fun h9 => ?_) (fun h9 => ?_)
    · have hw := hw.1 h9
      refine hg_aload_n hC dX6_begin_52 rfl 0 rfl (n := 53) rfl ?_
      refine hg_iconst hC dX6_begin_53 hl_i0 (n := 54) rfl ?_
      refine hg_puti hC fp_RX6_282 dX6_begin_54 qM_0 kM_0 fM_6_39 rfl rfl (n := 57) rfl (fun σ3 eσ3 => ?_)
      have hw := hw σ3 eσ3
      refine hg_aload_n hC dX6_begin_57 rfl 0 rfl (n := 58) rfl ?_
      refine hg_iconst hC dX6_begin_58 hl_im1 (n := 59) rfl ?_
      refine hg_puti hC fp_RX6_93 dX6_begin_59 qM_0 kM_0 fM_6_40 rfl rfl (n := 62) rfl (fun σ4 eσ4 => ?_)
      have hw := hw σ4 eσ4
      refine hg_aload_n hC dX6_begin_62 rfl 0 rfl (n := 63) rfl ?_
      refine hg_iconst hC dX6_begin_63 hl_i0 (n := 64) rfl ?_
      refine hg_puti hC fp_RX6_285 dX6_begin_64 qM_0 kM_0 fM_6_41 rfl rfl (n := 67) rfl (fun σ5 eσ5 => ?_)
      have hw := hw σ5 eσ5
      refine hg_aload_n hC dX6_begin_67 rfl 0 rfl (n := 68) rfl ?_
      refine hg_iconst hC dX6_begin_68 hl_i0 (n := 69) rfl ?_
      refine hg_puti hC fp_RX6_288 dX6_begin_69 qM_0 kM_0 fM_6_42 rfl rfl (n := 72) rfl (fun σ6 eσ6 => ?_)
      have hw := hw σ6 eσ6
      exact hg_retv hC hR dX6_begin_72 hw
    · have hw := hw.2 h9
      refine hg_aload_n hC dX6_begin_34 rfl 0 rfl (n := 35) rfl ?_
      refine hg_getr hC fl_RX6_87 dX6_begin_35 qM_0 kM_0 fM_6_37 rM_0_37 (n := 38) rfl ?_
      refine hg_iload_n hC dX6_begin_38 rfl 1 rfl (n := 39) rfl ?_
      refine hg_aload_n hC dX6_begin_39 rfl 0 rfl (n := 40) rfl ?_
      refine hg_getr hC fl_RX6_13 dX6_begin_40 qM_0 kM_0 fM_6_2 rM_0_2 (n := 43) rfl ?_
      refine hg_iload_n hC dX6_begin_43 rfl 1 rfl (n := 44) rfl ?_
      obtain ⟨h9, hw⟩ := hw
      refine hg_iald hC dX6_begin_44 qM_2 kM_2 h9 (n := 45) rfl ?_
      obtain ⟨h9, hw⟩ := hw
      refine hg_iast hC dX6_begin_45 qM_25 kM_25 h9 (n := 46) rfl (fun σ7 eσ7 => ?_)
      have hw := hw σ7 eσ7
      obtain ⟨v8, ev8⟩ : ∃ z, z = x1 + (1 : Int32) := ⟨_, rfl⟩
      have hw := hw v8 ev8
      refine hg_iinc hC (v := v8) (L1 := [(1, .int v8), (0, .ref (hg_ad X 0))]) dX6_begin_46 1 rfl (by rw [hl_i1, ev8]) (by decide) rfl (n := 49) rfl ?_
      refine hg_goto hC dX6_begin_49 (tg := 28) rfl ?_
      exact hg_sub [1, 0] rfl (ih v8 σ7 hw)
set_option maxRecDepth 4000 in
theorem tlM_X6_begin_2 {d : Nat} {E : hg_Et} {X : hg_X} {P : hg_M → Prop}  (hC : hg_C hg_FM 2 (d + 1) E cX6_begin RX6 X) (hR : hg_Rnv hg_FM hg_rM P X)  (n : Nat) : ∀ (x1 : Int32) (σ : hg_M), lM_X6_begin_2 P n x1 σ → hg_G hg_FM 2 X 2 [(0, .ref (hg_ad X 0)), (1, .int x1)] [] σ hg_rM := by
  induction n with
  | zero =>
    intro x1 σ hw
    rw [lM_X6_begin_2] at hw
    exact hw.elim
  | succ n ih =>
    intro x1 σ hw
    rw [lM_X6_begin_2] at hw
    refine hg_iload_n hC dX6_begin_2 rfl 1 rfl (n := 3) rfl ?_
    refine hg_bipush hC dX6_begin_3 hl_b16 (n := 5) rfl ?_
    refine hg_icmp_ge hC dX6_begin_5 (tg := 26) rfl (n := 8) rfl (fun h9 => ?_) (fun h9 => ?_)
    · have hw := hw.1 h9
      refine hg_iconst hC dX6_begin_26 hl_i0 (n := 27) rfl ?_
      refine hg_istore_n hC (L1 := [(1, .int (0 : Int32)), (0, .ref (hg_ad X 0))]) dX6_begin_27 rfl (by decide) rfl (n := 28) rfl ?_
      obtain ⟨n9, hw⟩ := hw
      exact hg_sub [1, 0] rfl (tlM_X6_begin_28 hC hR  n9 (0 : Int32) σ hw)
    · have hw := hw.2 h9
      refine hg_aload_n hC dX6_begin_8 rfl 0 rfl (n := 9) rfl ?_
      refine hg_getr hC fl_RX6_96 dX6_begin_9 qM_0 kM_0 fM_6_43 rM_0_43 (n := 12) rfl ?_
      refine hg_iload_n hC dX6_begin_12 rfl 1 rfl (n := 13) rfl ?_
      refine hg_aload_n hC dX6_begin_13 rfl 0 rfl (n := 14) rfl ?_
      refine hg_getr hC fl_RX6_7 dX6_begin_14 qM_0 kM_0 fM_6_1 rM_0_1 (n := 17) rfl ?_
      refine hg_iload_n hC dX6_begin_17 rfl 1 rfl (n := 18) rfl ?_
      obtain ⟨h9, hw⟩ := hw
      refine hg_iald hC dX6_begin_18 qM_1 kM_1 h9 (n := 19) rfl ?_
      obtain ⟨h9, hw⟩ := hw
      refine hg_iast hC dX6_begin_19 qM_27 kM_27 h9 (n := 20) rfl (fun σ1 eσ1 => ?_)
      have hw := hw σ1 eσ1
      obtain ⟨v2, ev2⟩ : ∃ z, z = x1 + (1 : Int32) := ⟨_, rfl⟩
      have hw := hw v2 ev2
      refine hg_iinc hC (v := v2) (L1 := [(1, .int v2), (0, .ref (hg_ad X 0))]) dX6_begin_20 1 rfl (by rw [hl_i1, ev2]) (by decide) rfl (n := 23) rfl ?_
      refine hg_goto hC dX6_begin_23 (tg := 2) rfl ?_
      exact hg_sub [1, 0] rfl (ih v2 σ1 hw)
set_option maxRecDepth 4000 in
theorem tM_X6_begin {E : hg_Et} (hE : hg_Eok E) (l : Launch) (d : Nat)  (σ : hg_M) (P : hg_M → Prop) (hw : wM_X6_begin  σ P) : hg_Nv hg_FM E l yX6_begin cX6_begin 2 (d + 1) (fun ad => [.ref (ad 0)]) hg_rM σ P := by
  refine hg_nv hE (by decide) (fun _ => Nat.le_of_ble_eq_true rfl) (fun X hC hR hl => ?_)
  subst hl
  have hC : hg_C hg_FM 2 (d + 1) E cX6_begin RX6 X := hC
  show hg_G hg_FM 2 X 0 [(0, .ref (hg_ad X 0))] [] σ hg_rM
  unfold wM_X6_begin at hw
  refine hg_iconst hC dX6_begin_0 hl_i0 (n := 1) rfl ?_
  refine hg_istore_n hC (L1 := [(1, .int (0 : Int32)), (0, .ref (hg_ad X 0))]) dX6_begin_1 rfl (by decide) rfl (n := 2) rfl ?_
  obtain ⟨n9, hw⟩ := hw
  exact hg_sub [1, 0] rfl (tlM_X6_begin_2 hC hR  n9 (0 : Int32) σ hw)
def lM_X6_leave_2 (P : hg_M → Prop)  : Nat → Int32 → hg_M → Prop
  | 0, _, _ => False
  | n + 1, x1, σ => (((16 : Int32) ≤ x1 → P σ) ∧ (¬ ((16 : Int32) ≤ x1) → vp_in x1 4100 ∧ (vp_in x1 16 ∧ (∀ σ1 : hg_M, σ1 = hg_set σ 24 (x1).toNatClampNeg (σ 27 (x1).toNatClampNeg) → ∀ v2 : Int32, v2 = x1 + (1 : Int32) → lM_X6_leave_2 P n v2 σ1))))
def wM_X6_leave  (σ : hg_M) (P : hg_M → Prop) : Prop := (∃ f9, lM_X6_leave_2 P f9 (0 : Int32) σ)
set_option maxRecDepth 4000 in
theorem tlM_X6_leave_2 {d : Nat} {E : hg_Et} {X : hg_X} {P : hg_M → Prop}  (hC : hg_C hg_FM 2 (d + 1) E cX6_leave RX6 X) (hR : hg_Rnv hg_FM hg_rM P X)  (n : Nat) : ∀ (x1 : Int32) (σ : hg_M), lM_X6_leave_2 P n x1 σ → hg_G hg_FM 2 X 2 [(0, .ref (hg_ad X 0)), (1, .int x1)] [] σ hg_rM := by
  induction n with
  | zero =>
    intro x1 σ hw
    rw [lM_X6_leave_2] at hw
    exact hw.elim
  | succ n ih =>
    intro x1 σ hw
    rw [lM_X6_leave_2] at hw
    refine hg_iload_n hC dX6_leave_2 rfl 1 rfl (n := 3) rfl ?_
    refine hg_bipush hC dX6_leave_3 hl_b16 (n := 5) rfl ?_
    refine hg_icmp_ge hC dX6_leave_5 (tg := 26) rfl (n := 8) rfl (fun h9 => ?_) (fun h9 => ?_)
    · have hw := hw.1 h9
      exact hg_retv hC hR dX6_leave_26 hw
    · have hw := hw.2 h9
      refine hg_aload_n hC dX6_leave_8 rfl 0 rfl (n := 9) rfl ?_
      refine hg_getr hC fl_RX6_84 dX6_leave_9 qM_0 kM_0 fM_6_36 rM_0_36 (n := 12) rfl ?_
      refine hg_iload_n hC dX6_leave_12 rfl 1 rfl (n := 13) rfl ?_
      refine hg_aload_n hC dX6_leave_13 rfl 0 rfl (n := 14) rfl ?_
      refine hg_getr hC fl_RX6_96 dX6_leave_14 qM_0 kM_0 fM_6_43 rM_0_43 (n := 17) rfl ?_
      refine hg_iload_n hC dX6_leave_17 rfl 1 rfl (n := 18) rfl ?_
      obtain ⟨h9, hw⟩ := hw
      refine hg_iald hC dX6_leave_18 qM_27 kM_27 h9 (n := 19) rfl ?_
      obtain ⟨h9, hw⟩ := hw
      refine hg_iast hC dX6_leave_19 qM_24 kM_24 h9 (n := 20) rfl (fun σ1 eσ1 => ?_)
      have hw := hw σ1 eσ1
      obtain ⟨v2, ev2⟩ : ∃ z, z = x1 + (1 : Int32) := ⟨_, rfl⟩
      have hw := hw v2 ev2
      refine hg_iinc hC (v := v2) (L1 := [(1, .int v2), (0, .ref (hg_ad X 0))]) dX6_leave_20 1 rfl (by rw [hl_i1, ev2]) (by decide) rfl (n := 23) rfl ?_
      refine hg_goto hC dX6_leave_23 (tg := 2) rfl ?_
      exact hg_sub [1, 0] rfl (ih v2 σ1 hw)
set_option maxRecDepth 4000 in
theorem tM_X6_leave {E : hg_Et} (hE : hg_Eok E) (l : Launch) (d : Nat)  (σ : hg_M) (P : hg_M → Prop) (hw : wM_X6_leave  σ P) : hg_Nv hg_FM E l yX6_leave cX6_leave 2 (d + 1) (fun ad => [.ref (ad 0)]) hg_rM σ P := by
  refine hg_nv hE (by decide) (fun _ => Nat.le_of_ble_eq_true rfl) (fun X hC hR hl => ?_)
  subst hl
  have hC : hg_C hg_FM 2 (d + 1) E cX6_leave RX6 X := hC
  show hg_G hg_FM 2 X 0 [(0, .ref (hg_ad X 0))] [] σ hg_rM
  unfold wM_X6_leave at hw
  refine hg_iconst hC dX6_leave_0 hl_i0 (n := 1) rfl ?_
  refine hg_istore_n hC (L1 := [(1, .int (0 : Int32)), (0, .ref (hg_ad X 0))]) dX6_leave_1 rfl (by decide) rfl (n := 2) rfl ?_
  obtain ⟨n9, hw⟩ := hw
  exact hg_sub [1, 0] rfl (tlM_X6_leave_2 hC hR  n9 (0 : Int32) σ hw)
def wM_X6_stop (x1 : Int32) (x2 : Int32) (σ : hg_M) (P : hg_M → Prop) : Prop := ∀ σ1 : hg_M, σ1 = hg_set σ 0 42 x1 → ∀ σ2 : hg_M, σ2 = hg_set σ1 0 40 x2 → P σ2
set_option maxRecDepth 4000 in
theorem tM_X6_stop {E : hg_Et} (hE : hg_Eok E) (l : Launch) (d : Nat) (x1 : Int32) (x2 : Int32) (σ : hg_M) (P : hg_M → Prop) (hw : wM_X6_stop x1 x2 σ P) : hg_Nv hg_FM E l yX6_stop cX6_stop 3 (d + 1) (fun ad => [.ref (ad 0), .int x1, .int x2]) hg_rM σ P := by
  refine hg_nv hE (by decide) (fun _ => Nat.le_of_ble_eq_true rfl) (fun X hC hR hl => ?_)
  subst hl
  have hC : hg_C hg_FM 3 (d + 1) E cX6_stop RX6 X := hC
  show hg_G hg_FM 3 X 0 [(0, .ref (hg_ad X 0)), (1, .int x1), (2, .int x2)] [] σ hg_rM
  unfold wM_X6_stop at hw
  refine hg_aload_n hC dX6_stop_0 rfl 0 rfl (n := 1) rfl ?_
  refine hg_iload_n hC dX6_stop_1 rfl 1 rfl (n := 2) rfl ?_
  refine hg_puti hC fp_RX6_288 dX6_stop_2 qM_0 kM_0 fM_6_42 rfl rfl (n := 5) rfl (fun σ1 eσ1 => ?_)
  have hw := hw σ1 eσ1
  refine hg_aload_n hC dX6_stop_5 rfl 0 rfl (n := 6) rfl ?_
  refine hg_iload_n hC dX6_stop_6 rfl 2 rfl (n := 7) rfl ?_
  refine hg_puti hC fp_RX6_93 dX6_stop_7 qM_0 kM_0 fM_6_40 rfl rfl (n := 10) rfl (fun σ2 eσ2 => ?_)
  have hw := hw σ2 eσ2
  exact hg_retv hC hR dX6_stop_10 hw
def bM_X6_reach_152 (P : Int32 → hg_M → Prop)  (t0 : Int32) (σ : hg_M) : Prop := P t0 σ
def bM_X6_reach_141 (P : Int32 → hg_M → Prop)  (t0 : Int32) (σ : hg_M) : Prop := P t0 σ
def bM_X6_reach_130 (P : Int32 → hg_M → Prop)  (t0 : Int32) (σ : hg_M) : Prop := P t0 σ
def bM_X6_reach_106 (P : Int32 → hg_M → Prop)  (t0 : Int64) (σ : hg_M) : Prop := P (t0).toInt32 σ
def wM_X6_reach (x1 : Int32) (x2 : Int32) (x3 : Int32) (x4 : Int32) (σ : hg_M) (P : Int32 → hg_M → Prop) : Prop := ((((x1).toInt < 2 ∨ 11 < (x1).toInt) → ((x3 ≤ x2 → bM_X6_reach_152 P (0 : Int32) σ) ∧ (¬ (x3 ≤ x2) → bM_X6_reach_152 P (1 : Int32) σ))) ∧ ((x1).toInt = 2 → P (x2 + x3) σ) ∧ ((x1).toInt = 3 → P (x2 - x3) σ) ∧ ((x1).toInt = 4 → P (x2 * x3) σ) ∧ ((x1).toInt = 5 → ((x3 ≠ 0 → ¬ (x3).toInt64 = 0 ∧ (∀ v1 : Int64, v1 = ((x2).toInt64 / (x3).toInt64) → ((x1 ≠ (5 : Int32) → bM_X6_reach_106 P ((x2).toInt64 - (v1 * (x3).toInt64)) σ) ∧ (x1 = (5 : Int32) → bM_X6_reach_106 P v1 σ)))) ∧ (x3 = 0 → wM_X6_stop (1 : Int32) x4 σ (fun σ2 => P (0 : Int32) σ2)))) ∧ ((x1).toInt = 6 → ((x3 ≠ 0 → ¬ (x3).toInt64 = 0 ∧ (∀ v3 : Int64, v3 = ((x2).toInt64 / (x3).toInt64) → ((x1 ≠ (5 : Int32) → bM_X6_reach_106 P ((x2).toInt64 - (v3 * (x3).toInt64)) σ) ∧ (x1 = (5 : Int32) → bM_X6_reach_106 P v3 σ)))) ∧ (x3 = 0 → wM_X6_stop (1 : Int32) x4 σ (fun σ4 => P (0 : Int32) σ4)))) ∧ ((x1).toInt = 7 → P (x2 &&& x3) σ) ∧ ((x1).toInt = 8 → P (x2 ||| x3) σ) ∧ ((x1).toInt = 9 → P (x2 ^^^ x3) σ) ∧ ((x1).toInt = 10 → ((x2 ≠ x3 → bM_X6_reach_130 P (0 : Int32) σ) ∧ (x2 = x3 → bM_X6_reach_130 P (1 : Int32) σ))) ∧ ((x1).toInt = 11 → ((x2 = x3 → bM_X6_reach_141 P (0 : Int32) σ) ∧ (¬ (x2 = x3) → bM_X6_reach_141 P (1 : Int32) σ))))
set_option maxRecDepth 4000 in
theorem tbM_X6_reach_152 {d : Nat} {E : hg_Et} {X : hg_X} {P : Int32 → hg_M → Prop}  (hC : hg_C hg_FM 7 (d + 2) E cX6_reach RX6 X) (hR : hg_Rni hg_FM (some .int) hg_rM P X)  (t0 : Int32) (σ : hg_M) (hw : bM_X6_reach_152 P t0 σ) : hg_G hg_FM 7 X 152 [] [.int t0] σ hg_rM := by
  unfold bM_X6_reach_152 at hw
  exact hg_reti hC hR dX6_reach_152 hw
set_option maxRecDepth 4000 in
theorem tbM_X6_reach_141 {d : Nat} {E : hg_Et} {X : hg_X} {P : Int32 → hg_M → Prop}  (hC : hg_C hg_FM 7 (d + 2) E cX6_reach RX6 X) (hR : hg_Rni hg_FM (some .int) hg_rM P X)  (t0 : Int32) (σ : hg_M) (hw : bM_X6_reach_141 P t0 σ) : hg_G hg_FM 7 X 141 [] [.int t0] σ hg_rM := by
  unfold bM_X6_reach_141 at hw
  exact hg_reti hC hR dX6_reach_141 hw
set_option maxRecDepth 4000 in
theorem tbM_X6_reach_130 {d : Nat} {E : hg_Et} {X : hg_X} {P : Int32 → hg_M → Prop}  (hC : hg_C hg_FM 7 (d + 2) E cX6_reach RX6 X) (hR : hg_Rni hg_FM (some .int) hg_rM P X)  (t0 : Int32) (σ : hg_M) (hw : bM_X6_reach_130 P t0 σ) : hg_G hg_FM 7 X 130 [] [.int t0] σ hg_rM := by
  unfold bM_X6_reach_130 at hw
  exact hg_reti hC hR dX6_reach_130 hw
set_option maxRecDepth 4000 in
theorem tbM_X6_reach_106 {d : Nat} {E : hg_Et} {X : hg_X} {P : Int32 → hg_M → Prop}  (hC : hg_C hg_FM 7 (d + 2) E cX6_reach RX6 X) (hR : hg_Rni hg_FM (some .int) hg_rM P X)  (t0 : Int64) (σ : hg_M) (hw : bM_X6_reach_106 P t0 σ) : hg_G hg_FM 7 X 106 [] [.long t0] σ hg_rM := by
  unfold bM_X6_reach_106 at hw
  refine hg_l2i hC dX6_reach_106 rfl (n := 107) rfl ?_
  exact hg_reti hC hR dX6_reach_107 hw
set_option maxRecDepth 4000 in
theorem tM_X6_reach {E : hg_Et} (hE : hg_Eok E) (l : Launch) (d : Nat) (x1 : Int32) (x2 : Int32) (x3 : Int32) (x4 : Int32) (σ : hg_M) (P : Int32 → hg_M → Prop) (hw : wM_X6_reach x1 x2 x3 x4 σ P) : hg_Ni hg_FM E l yX6_reach cX6_reach 7 (some .int) (d + 2) (fun ad => [.ref (ad 0), .int x1, .int x2, .int x3, .int x4]) hg_rM σ P := by
  refine hg_ni hE (by decide) (fun _ => Nat.le_of_ble_eq_true rfl) (fun X hC hR hl => ?_)
  subst hl
  have hC : hg_C hg_FM 7 (d + 2) E cX6_reach RX6 X := hC
  show hg_G hg_FM 7 X 0 [(0, .ref (hg_ad X 0)), (1, .int x1), (2, .int x2), (3, .int x3), (4, .int x4)] [] σ hg_rM
  unfold wM_X6_reach at hw
  refine hg_iload_n hC dX6_reach_0 rfl 1 rfl (n := 1) rfl ?_
  by_cases hsw : (x1).toInt < 2 ∨ 11 < (x1).toInt
  · have hw := hw.1 hsw
    refine hg_tout hC dX6_reach_1 hsw (tg := 142) rfl ?_
    refine hg_iload_n hC dX6_reach_142 rfl 2 rfl (n := 143) rfl ?_
    refine hg_iload_n hC dX6_reach_143 rfl 3 rfl (n := 144) rfl ?_
    refine hg_icmp_ge hC dX6_reach_144 (tg := 151) rfl (n := 147) rfl (fun h9 => ?_) (fun h9 => ?_)
    · have hw := hw.1 h9
      refine hg_iconst hC dX6_reach_151 hl_i0 (n := 152) rfl ?_
      exact hg_sub [] rfl (tbM_X6_reach_152 hC hR  (0 : Int32) σ hw)
    · have hw := hw.2 h9
      refine hg_iconst hC dX6_reach_147 hl_i1 (n := 148) rfl ?_
      refine hg_goto hC dX6_reach_148 (tg := 152) rfl ?_
      exact hg_sub [] rfl (tbM_X6_reach_152 hC hR  (1 : Int32) σ hw)
  · rcases (show (x1).toInt = 2 ∨ (x1).toInt = 3 ∨ (x1).toInt = 4 ∨ (x1).toInt = 5 ∨ (x1).toInt = 6 ∨ (x1).toInt = 7 ∨ (x1).toInt = 8 ∨ (x1).toInt = 9 ∨ (x1).toInt = 10 ∨ (x1).toInt = 11 by omega) with hsx | hsx | hsx | hsx | hsx | hsx | hsx | hsx | hsx | hsx
    · have hw := hw.2.1 hsx
      refine hg_tin hC dX6_reach_1 hsx (by decide) (by decide) (by rfl) (tg := 56) rfl ?_
      refine hg_iload_n hC dX6_reach_56 rfl 2 rfl (n := 57) rfl ?_
      refine hg_iload_n hC dX6_reach_57 rfl 3 rfl (n := 58) rfl ?_
      refine hg_iadd hC dX6_reach_58 (n := 59) rfl ?_
      exact hg_reti hC hR dX6_reach_59 hw
    · have hw := hw.2.2.1 hsx
      refine hg_tin hC dX6_reach_1 hsx (by decide) (by decide) (by rfl) (tg := 60) rfl ?_
      refine hg_iload_n hC dX6_reach_60 rfl 2 rfl (n := 61) rfl ?_
      refine hg_iload_n hC dX6_reach_61 rfl 3 rfl (n := 62) rfl ?_
      refine hg_isub hC dX6_reach_62 (n := 63) rfl ?_
      exact hg_reti hC hR dX6_reach_63 hw
    · have hw := hw.2.2.2.1 hsx
      refine hg_tin hC dX6_reach_1 hsx (by decide) (by decide) (by rfl) (tg := 64) rfl ?_
      refine hg_iload_n hC dX6_reach_64 rfl 2 rfl (n := 65) rfl ?_
      refine hg_iload_n hC dX6_reach_65 rfl 3 rfl (n := 66) rfl ?_
      refine hg_imul hC dX6_reach_66 (n := 67) rfl ?_
      exact hg_reti hC hR dX6_reach_67 hw
    · have hw := hw.2.2.2.2.1 hsx
      refine hg_tin hC dX6_reach_1 hsx (by decide) (by decide) (by rfl) (tg := 68) rfl ?_
      refine hg_iload_n hC dX6_reach_68 rfl 3 rfl (n := 69) rfl ?_
      refine hg_if_ne hC dX6_reach_69 (tg := 81) rfl (n := 72) rfl (fun h9 => ?_) (fun h9 => ?_)
      · have hw := hw.1 h9
        refine hg_iload_n hC dX6_reach_81 rfl 2 rfl (n := 82) rfl ?_
        refine hg_i2l hC dX6_reach_82 rfl (n := 83) rfl ?_
        refine hg_iload_n hC dX6_reach_83 rfl 3 rfl (n := 84) rfl ?_
        refine hg_i2l hC dX6_reach_84 rfl (n := 85) rfl ?_
        obtain ⟨h9, hw⟩ := hw
        refine hg_ldiv hC dX6_reach_85 h9 (n := 86) rfl ?_
        refine hg_topl (fun v1 ev1 => ?_)
        have hw := hw v1 ev1
        refine hg_lstore hC (L1 := [(5, .long v1), (0, .ref (hg_ad X 0)), (1, .int x1), (2, .int x2), (3, .int x3), (4, .int x4)]) dX6_reach_86 (by decide) rfl (n := 88) rfl ?_
        refine hg_iload_n hC dX6_reach_88 rfl 2 rfl (n := 89) rfl ?_
        refine hg_iconst hC dX6_reach_89 hl_i5 (n := 90) rfl ?_
        refine hg_icmp_ne hC dX6_reach_90 (tg := 98) rfl (n := 93) rfl (fun h9 => ?_) (fun h9 => ?_)
        · have hw := hw.1 h9
          refine hg_iload_n hC dX6_reach_98 rfl 3 rfl (n := 99) rfl ?_
          refine hg_i2l hC dX6_reach_99 rfl (n := 100) rfl ?_
          refine hg_lload hC dX6_reach_100 0 rfl (n := 102) rfl ?_
          refine hg_iload_n hC dX6_reach_102 rfl 4 rfl (n := 103) rfl ?_
          refine hg_i2l hC dX6_reach_103 rfl (n := 104) rfl ?_
          refine hg_lmul hC dX6_reach_104 (n := 105) rfl ?_
          refine hg_lsub hC dX6_reach_105 (n := 106) rfl ?_
          exact hg_sub [] rfl (tbM_X6_reach_106 hC hR  ((x2).toInt64 - (v1 * (x3).toInt64)) σ hw)
        · have hw := hw.2 h9
          refine hg_lload hC dX6_reach_93 0 rfl (n := 95) rfl ?_
          refine hg_goto hC dX6_reach_95 (tg := 106) rfl ?_
          exact hg_sub [] rfl (tbM_X6_reach_106 hC hR  v1 σ hw)
      · have hw := hw.2 h9
        refine hg_aload_n hC dX6_reach_72 rfl 0 rfl (n := 73) rfl ?_
        refine hg_iconst hC dX6_reach_73 hl_i1 (n := 74) rfl ?_
        refine hg_iload hC dX6_reach_74 4 rfl (n := 76) rfl ?_
        refine hg_cVv hC (tM_X6_stop (hg_Eof hC) X.2.1 (d + 0) _ _ _ _ hw) sv_RX6_291 dX6_reach_76 qM_0 kM_0 c_6 rfl (rest := []) rfl (Nat.le_of_ble_eq_true rfl) (n := 79) rfl (fun σ2 hw => ?_)
        refine hg_iconst hC dX6_reach_79 hl_i0 (n := 80) rfl ?_
        exact hg_reti hC hR dX6_reach_80 hw
    · have hw := hw.2.2.2.2.2.1 hsx
      refine hg_tin hC dX6_reach_1 hsx (by decide) (by decide) (by rfl) (tg := 68) rfl ?_
      refine hg_iload_n hC dX6_reach_68 rfl 3 rfl (n := 69) rfl ?_
      refine hg_if_ne hC dX6_reach_69 (tg := 81) rfl (n := 72) rfl (fun h9 => ?_) (fun h9 => ?_)
      · have hw := hw.1 h9
        refine hg_iload_n hC dX6_reach_81 rfl 2 rfl (n := 82) rfl ?_
        refine hg_i2l hC dX6_reach_82 rfl (n := 83) rfl ?_
        refine hg_iload_n hC dX6_reach_83 rfl 3 rfl (n := 84) rfl ?_
        refine hg_i2l hC dX6_reach_84 rfl (n := 85) rfl ?_
        obtain ⟨h9, hw⟩ := hw
        refine hg_ldiv hC dX6_reach_85 h9 (n := 86) rfl ?_
        refine hg_topl (fun v3 ev3 => ?_)
        have hw := hw v3 ev3
        refine hg_lstore hC (L1 := [(5, .long v3), (0, .ref (hg_ad X 0)), (1, .int x1), (2, .int x2), (3, .int x3), (4, .int x4)]) dX6_reach_86 (by decide) rfl (n := 88) rfl ?_
        refine hg_iload_n hC dX6_reach_88 rfl 2 rfl (n := 89) rfl ?_
        refine hg_iconst hC dX6_reach_89 hl_i5 (n := 90) rfl ?_
        refine hg_icmp_ne hC dX6_reach_90 (tg := 98) rfl (n := 93) rfl (fun h9 => ?_) (fun h9 => ?_)
        · have hw := hw.1 h9
          refine hg_iload_n hC dX6_reach_98 rfl 3 rfl (n := 99) rfl ?_
          refine hg_i2l hC dX6_reach_99 rfl (n := 100) rfl ?_
          refine hg_lload hC dX6_reach_100 0 rfl (n := 102) rfl ?_
          refine hg_iload_n hC dX6_reach_102 rfl 4 rfl (n := 103) rfl ?_
          refine hg_i2l hC dX6_reach_103 rfl (n := 104) rfl ?_
          refine hg_lmul hC dX6_reach_104 (n := 105) rfl ?_
          refine hg_lsub hC dX6_reach_105 (n := 106) rfl ?_
          exact hg_sub [] rfl (tbM_X6_reach_106 hC hR  ((x2).toInt64 - (v3 * (x3).toInt64)) σ hw)
        · have hw := hw.2 h9
          refine hg_lload hC dX6_reach_93 0 rfl (n := 95) rfl ?_
          refine hg_goto hC dX6_reach_95 (tg := 106) rfl ?_
          exact hg_sub [] rfl (tbM_X6_reach_106 hC hR  v3 σ hw)
      · have hw := hw.2 h9
        refine hg_aload_n hC dX6_reach_72 rfl 0 rfl (n := 73) rfl ?_
        refine hg_iconst hC dX6_reach_73 hl_i1 (n := 74) rfl ?_
        refine hg_iload hC dX6_reach_74 4 rfl (n := 76) rfl ?_
        refine hg_cVv hC (tM_X6_stop (hg_Eof hC) X.2.1 (d + 0) _ _ _ _ hw) sv_RX6_291 dX6_reach_76 qM_0 kM_0 c_6 rfl (rest := []) rfl (Nat.le_of_ble_eq_true rfl) (n := 79) rfl (fun σ4 hw => ?_)
        refine hg_iconst hC dX6_reach_79 hl_i0 (n := 80) rfl ?_
        exact hg_reti hC hR dX6_reach_80 hw
    · have hw := hw.2.2.2.2.2.2.1 hsx
      refine hg_tin hC dX6_reach_1 hsx (by decide) (by decide) (by rfl) (tg := 108) rfl ?_
      refine hg_iload_n hC dX6_reach_108 rfl 2 rfl (n := 109) rfl ?_
      refine hg_iload_n hC dX6_reach_109 rfl 3 rfl (n := 110) rfl ?_
      refine hg_iand hC dX6_reach_110 (n := 111) rfl ?_
      exact hg_reti hC hR dX6_reach_111 hw
    · have hw := hw.2.2.2.2.2.2.2.1 hsx
      refine hg_tin hC dX6_reach_1 hsx (by decide) (by decide) (by rfl) (tg := 112) rfl ?_
      refine hg_iload_n hC dX6_reach_112 rfl 2 rfl (n := 113) rfl ?_
      refine hg_iload_n hC dX6_reach_113 rfl 3 rfl (n := 114) rfl ?_
      refine hg_ior hC dX6_reach_114 (n := 115) rfl ?_
      exact hg_reti hC hR dX6_reach_115 hw
    · have hw := hw.2.2.2.2.2.2.2.2.1 hsx
      refine hg_tin hC dX6_reach_1 hsx (by decide) (by decide) (by rfl) (tg := 116) rfl ?_
      refine hg_iload_n hC dX6_reach_116 rfl 2 rfl (n := 117) rfl ?_
      refine hg_iload_n hC dX6_reach_117 rfl 3 rfl (n := 118) rfl ?_
      refine hg_ixor hC dX6_reach_118 (n := 119) rfl ?_
      exact hg_reti hC hR dX6_reach_119 hw
    · have hw := hw.2.2.2.2.2.2.2.2.2.1 hsx
      refine hg_tin hC dX6_reach_1 hsx (by decide) (by decide) (by rfl) (tg := 120) rfl ?_
      refine hg_iload_n hC dX6_reach_120 rfl 2 rfl (n := 121) rfl ?_
      refine hg_iload_n hC dX6_reach_121 rfl 3 rfl (n := 122) rfl ?_
      refine hg_icmp_ne hC dX6_reach_122 (tg := 129) rfl (n := 125) rfl (fun h9 => ?_) (fun h9 => ?_)
      · have hw := hw.1 h9
        refine hg_iconst hC dX6_reach_129 hl_i0 (n := 130) rfl ?_
        exact hg_sub [] rfl (tbM_X6_reach_130 hC hR  (0 : Int32) σ hw)
      · have hw := hw.2 h9
        refine hg_iconst hC dX6_reach_125 hl_i1 (n := 126) rfl ?_
        refine hg_goto hC dX6_reach_126 (tg := 130) rfl ?_
        exact hg_sub [] rfl (tbM_X6_reach_130 hC hR  (1 : Int32) σ hw)
    · have hw := hw.2.2.2.2.2.2.2.2.2.2 hsx
      refine hg_tin hC dX6_reach_1 hsx (by decide) (by decide) (by rfl) (tg := 131) rfl ?_
      refine hg_iload_n hC dX6_reach_131 rfl 2 rfl (n := 132) rfl ?_
      refine hg_iload_n hC dX6_reach_132 rfl 3 rfl (n := 133) rfl ?_
      refine hg_icmp_eq hC dX6_reach_133 (tg := 140) rfl (n := 136) rfl (fun h9 => ?_) (fun h9 => ?_)
      · have hw := hw.1 h9
        refine hg_iconst hC dX6_reach_140 hl_i0 (n := 141) rfl ?_
        exact hg_sub [] rfl (tbM_X6_reach_141 hC hR  (0 : Int32) σ hw)
      · have hw := hw.2 h9
        refine hg_iconst hC dX6_reach_136 hl_i1 (n := 137) rfl ?_
        refine hg_goto hC dX6_reach_137 (tg := 141) rfl ?_
        exact hg_sub [] rfl (tbM_X6_reach_141 hC hR  (1 : Int32) σ hw)
def bM_X6_isWord_20 (P : Int32 → hg_M → Prop)  (x3 : Int32) (σ : hg_M) : Prop := ((x3 = 0 ∨ x3 = 1) ∧ P x3 σ)
def wM_X6_isWord (x1 : Int32) (x2 : Int32) (σ : hg_M) (P : Int32 → hg_M → Prop) : Prop := wM_X6_isIn (x1).toInt64 (0 : Int64) (31 : Int64) σ (fun r2 σ1 => ((r2 ≠ 0 → bM_X6_isWord_20 P r2 σ1) ∧ (r2 = 0 → wM_X6_stop (2 : Int32) x2 σ1 (fun σ3 => bM_X6_isWord_20 P r2 σ3))))
set_option maxRecDepth 4000 in
theorem tbM_X6_isWord_20 {d : Nat} {E : hg_Et} {X : hg_X} {P : Int32 → hg_M → Prop}  (hC : hg_C hg_FM 4 (d + 2) E cX6_isWord RX6 X) (hR : hg_Rni hg_FM (some .boolean) hg_rM P X)  (x3 : Int32) (σ : hg_M) (hw : bM_X6_isWord_20 P x3 σ) : hg_G hg_FM 4 X 20 [(3, .int x3)] [] σ hg_rM := by
  unfold bM_X6_isWord_20 at hw
  refine hg_iload_n hC dX6_isWord_20 rfl 0 rfl (n := 21) rfl ?_
  exact hg_retz hC hR dX6_isWord_21 hw
set_option maxRecDepth 4000 in
theorem tM_X6_isWord {E : hg_Et} (hE : hg_Eok E) (l : Launch) (d : Nat) (x1 : Int32) (x2 : Int32) (σ : hg_M) (P : Int32 → hg_M → Prop) (hw : wM_X6_isWord x1 x2 σ P) : hg_Ni hg_FM E l yX6_isWord cX6_isWord 4 (some .boolean) (d + 2) (fun ad => [.ref (ad 0), .int x1, .int x2]) hg_rM σ P := by
  refine hg_ni hE (by decide) (fun _ => Nat.le_of_ble_eq_true rfl) (fun X hC hR hl => ?_)
  subst hl
  have hC : hg_C hg_FM 4 (d + 2) E cX6_isWord RX6 X := hC
  show hg_G hg_FM 4 X 0 [(0, .ref (hg_ad X 0)), (1, .int x1), (2, .int x2)] [] σ hg_rM
  unfold wM_X6_isWord at hw
  refine hg_iload_n hC dX6_isWord_0 rfl 1 rfl (n := 1) rfl ?_
  refine hg_i2l hC dX6_isWord_1 rfl (n := 2) rfl ?_
  refine hg_lconst hC dX6_isWord_2 hl_l0 (n := 3) rfl ?_
  refine hg_ldc2 hC dX6_isWord_3 kl_RX6_115 (n := 6) rfl ?_
  refine hg_cSi hC (tM_X6_isIn (hg_Eof hC) X.2.1 (d + 0) _ _ _ _ _ hw) ss_RX6_107 dX6_isWord_6 rfl (rest := []) rfl (Nat.le_of_ble_eq_true rfl) (n := 9) rfl (fun r2 σ1 hw => ?_)
  refine hg_istore_n hC (L1 := [(3, .int r2), (0, .ref (hg_ad X 0)), (1, .int x1), (2, .int x2)]) dX6_isWord_9 rfl (by decide) rfl (n := 10) rfl ?_
  refine hg_iload_n hC dX6_isWord_10 rfl 0 rfl (n := 11) rfl ?_
  refine hg_if_ne hC dX6_isWord_11 (tg := 20) rfl (n := 14) rfl (fun h9 => ?_) (fun h9 => ?_)
  · have hw := hw.1 h9
    exact hg_sub [0] rfl (tbM_X6_isWord_20 hC hR  r2 σ1 hw)
  · have hw := hw.2 h9
    refine hg_aload_n hC dX6_isWord_14 rfl 1 rfl (n := 15) rfl ?_
    refine hg_iconst hC dX6_isWord_15 hl_i2 (n := 16) rfl ?_
    refine hg_iload_n hC dX6_isWord_16 rfl 3 rfl (n := 17) rfl ?_
    refine hg_cVv hC (tM_X6_stop (hg_Eof hC) X.2.1 (d + 0) _ _ _ _ hw) sv_RX6_291 dX6_isWord_17 qM_0 kM_0 c_6 rfl (rest := []) rfl (Nat.le_of_ble_eq_true rfl) (n := 20) rfl (fun σ3 hw => ?_)
    exact hg_sub [0] rfl (tbM_X6_isWord_20 hC hR  r2 σ3 hw)
def bM_X6_toldValue_34 (P : Int32 → hg_M → Prop)  (t0 : Int32) (σ : hg_M) : Prop := P t0 σ
def wM_X6_toldValue (x1 : Int32) (x2 : Int32) (σ : hg_M) (P : Int32 → hg_M → Prop) : Prop := wM_X6_of x1 x2 σ (fun r2 σ1 => ((r2 ≠ (1 : Int32) → wM_X6_of x1 (x2 + (1 : Int32)) σ1 (fun r4 σ3 => bM_X6_toldValue_34 P r4 σ3)) ∧ (r2 = (1 : Int32) → wM_X6_of x1 (x2 + (1 : Int32)) σ1 (fun r6 σ5 => vp_in r6 4100 ∧ (bM_X6_toldValue_34 P (σ5 27 (r6).toNatClampNeg) σ5)))))
set_option maxRecDepth 4000 in
theorem tbM_X6_toldValue_34 {d : Nat} {E : hg_Et} {X : hg_X} {P : Int32 → hg_M → Prop}  (hC : hg_C hg_FM 3 (d + 2) E cX6_toldValue RX6 X) (hR : hg_Rni hg_FM (some .int) hg_rM P X)  (t0 : Int32) (σ : hg_M) (hw : bM_X6_toldValue_34 P t0 σ) : hg_G hg_FM 3 X 34 [] [.int t0] σ hg_rM := by
  unfold bM_X6_toldValue_34 at hw
  exact hg_reti hC hR dX6_toldValue_34 hw
set_option maxRecDepth 4000 in
theorem tM_X6_toldValue {E : hg_Et} (hE : hg_Eok E) (l : Launch) (d : Nat) (x1 : Int32) (x2 : Int32) (σ : hg_M) (P : Int32 → hg_M → Prop) (hw : wM_X6_toldValue x1 x2 σ P) : hg_Ni hg_FM E l yX6_toldValue cX6_toldValue 3 (some .int) (d + 2) (fun ad => [.ref (ad 0), .int x1, .int x2]) hg_rM σ P := by
  refine hg_ni hE (by decide) (fun _ => Nat.le_of_ble_eq_true rfl) (fun X hC hR hl => ?_)
  subst hl
  have hC : hg_C hg_FM 3 (d + 2) E cX6_toldValue RX6 X := hC
  show hg_G hg_FM 3 X 0 [(0, .ref (hg_ad X 0)), (1, .int x1), (2, .int x2)] [] σ hg_rM
  unfold wM_X6_toldValue at hw
  refine hg_aload_n hC dX6_toldValue_0 rfl 0 rfl (n := 1) rfl ?_
  refine hg_iload_n hC dX6_toldValue_1 rfl 1 rfl (n := 2) rfl ?_
  refine hg_iload_n hC dX6_toldValue_2 rfl 2 rfl (n := 3) rfl ?_
  refine hg_cVi hC (tM_X6_of (hg_Eof hC) X.2.1 (d + 0) _ _ _ _ hw) sv_RX6_212 dX6_toldValue_3 qM_0 kM_0 c_6 rfl (rest := []) rfl (Nat.le_of_ble_eq_true rfl) (n := 6) rfl (fun r2 σ1 hw => ?_)
  refine hg_iconst hC dX6_toldValue_6 hl_i1 (n := 7) rfl ?_
  refine hg_icmp_ne hC dX6_toldValue_7 (tg := 26) rfl (n := 10) rfl (fun h9 => ?_) (fun h9 => ?_)
  · have hw := hw.1 h9
    refine hg_aload_n hC dX6_toldValue_26 rfl 0 rfl (n := 27) rfl ?_
    refine hg_iload_n hC dX6_toldValue_27 rfl 1 rfl (n := 28) rfl ?_
    refine hg_iload_n hC dX6_toldValue_28 rfl 2 rfl (n := 29) rfl ?_
    refine hg_iconst hC dX6_toldValue_29 hl_i1 (n := 30) rfl ?_
    refine hg_iadd hC dX6_toldValue_30 (n := 31) rfl ?_
    refine hg_cVi hC (tM_X6_of (hg_Eof hC) X.2.1 (d + 0) _ _ _ _ hw) sv_RX6_212 dX6_toldValue_31 qM_0 kM_0 c_6 rfl (rest := []) rfl (Nat.le_of_ble_eq_true rfl) (n := 34) rfl (fun r4 σ3 hw => ?_)
    exact hg_sub [] rfl (tbM_X6_toldValue_34 hC hR  r4 σ3 hw)
  · have hw := hw.2 h9
    refine hg_aload_n hC dX6_toldValue_10 rfl 0 rfl (n := 11) rfl ?_
    refine hg_getr hC fl_RX6_96 dX6_toldValue_11 qM_0 kM_0 fM_6_43 rM_0_43 (n := 14) rfl ?_
    refine hg_aload_n hC dX6_toldValue_14 rfl 0 rfl (n := 15) rfl ?_
    refine hg_iload_n hC dX6_toldValue_15 rfl 1 rfl (n := 16) rfl ?_
    refine hg_iload_n hC dX6_toldValue_16 rfl 2 rfl (n := 17) rfl ?_
    refine hg_iconst hC dX6_toldValue_17 hl_i1 (n := 18) rfl ?_
    refine hg_iadd hC dX6_toldValue_18 (n := 19) rfl ?_
    refine hg_cVi hC (tM_X6_of (hg_Eof hC) X.2.1 (d + 0) _ _ _ _ hw) sv_RX6_212 dX6_toldValue_19 qM_0 kM_0 c_6 rfl (rest := [.ref (hg_ad X 27)]) rfl (Nat.le_of_ble_eq_true rfl) (n := 22) rfl (fun r6 σ5 hw => ?_)
    obtain ⟨h9, hw⟩ := hw
    refine hg_iald hC dX6_toldValue_22 qM_27 kM_27 h9 (n := 23) rfl ?_
    refine hg_goto hC dX6_toldValue_23 (tg := 34) rfl ?_
    exact hg_sub [] rfl (tbM_X6_toldValue_34 hC hR  (σ5 27 (r6).toNatClampNeg) σ5 hw)
def bM_X6_doStatement_236 (P : Int32 → hg_M → Prop)  (x1 : Int32) (σ : hg_M) : Prop := P (x1 + (1 : Int32)) σ
def bM_X6_doStatement_235 (P : Int32 → hg_M → Prop)  (t0 : Int32) (σ : hg_M) : Prop := P t0 σ
def bM_X6_doStatement_213 (P : Int32 → hg_M → Prop)  (x1 : Int32) (t1 : Int32) (t2 : Int32) (σ : hg_M) : Prop := vp_in t1 60 ∧ (∀ σ27 : hg_M, σ27 = hg_set σ 28 (t1).toNatClampNeg (vp_nar .boolean t2) → vp_in x1 60 ∧ ((((σ27 28 (x1).toNatClampNeg) = 0 → vp_in x1 60 ∧ (bM_X6_doStatement_235 P (σ27 8 (x1).toNatClampNeg) σ27)) ∧ (¬ (σ27 28 (x1).toNatClampNeg) = 0 → bM_X6_doStatement_235 P (x1 + (1 : Int32)) σ27))))
def bM_X6_doStatement_115 (P : Int32 → hg_M → Prop)  (x1 : Int32) (t1 : Int32) (t2 : Int32) (σ : hg_M) : Prop := vp_in t1 4100 ∧ (∀ σ26 : hg_M, σ26 = hg_set σ 27 (t1).toNatClampNeg t2 → bM_X6_doStatement_236 P x1 σ26)
def wM_X6_doStatement (x1 : Int32) (σ : hg_M) (P : Int32 → hg_M → Prop) : Prop := wM_X6_toldValue x1 (3 : Int32) σ (fun r2 σ1 => wM_X6_toldValue x1 (5 : Int32) σ1 (fun r4 σ3 => wM_X6_of x1 (1 : Int32) σ3 (fun r6 σ5 => wM_X6_of x1 (0 : Int32) σ5 (fun r8 σ7 => ((((r8).toInt < 0 ∨ 4 < (r8).toInt) → wM_X6_of x1 (2 : Int32) σ7 (fun r10 σ9 => wM_X6_reach r10 r2 r4 x1 σ9 (fun r12 σ11 => ((r12 ≠ (1 : Int32) → bM_X6_doStatement_213 P x1 x1 (0 : Int32) σ11) ∧ (r12 = (1 : Int32) → bM_X6_doStatement_213 P x1 x1 (1 : Int32) σ11))))) ∧ ((r8).toInt = 0 → vp_in r6 4100 ∧ (∀ σ13 : hg_M, σ13 = hg_set σ7 27 (r6).toNatClampNeg r2 → bM_X6_doStatement_236 P x1 σ13)) ∧ ((r8).toInt = 1 → wM_X6_of x1 (2 : Int32) σ7 (fun r15 σ14 => wM_X6_reach r15 r2 r4 x1 σ14 (fun r17 σ16 => (((σ16 0 42) ≠ 0 → vp_in r6 4100 ∧ (bM_X6_doStatement_115 P x1 r6 (σ16 27 (r6).toNatClampNeg) σ16)) ∧ ((σ16 0 42) = 0 → bM_X6_doStatement_115 P x1 r6 r17 σ16))))) ∧ ((r8).toInt = 2 → wM_X6_isWord r2 x1 σ7 (fun r19 σ18 => ((r19 = 0 → bM_X6_doStatement_236 P x1 σ18) ∧ (¬ r19 = 0 → vp_in r2 32 ∧ (vp_in r6 4100 ∧ (∀ σ20 : hg_M, σ20 = hg_set σ18 27 (r6).toNatClampNeg (σ18 25 (r2).toNatClampNeg) → bM_X6_doStatement_236 P x1 σ20)))))) ∧ ((r8).toInt = 3 → wM_X6_isWord r2 x1 σ7 (fun r22 σ21 => ((r22 = 0 → bM_X6_doStatement_236 P x1 σ21) ∧ (¬ r22 = 0 → vp_in r2 32 ∧ (∀ σ23 : hg_M, σ23 = hg_set σ21 25 (r2).toNatClampNeg r4 → bM_X6_doStatement_236 P x1 σ23))))) ∧ ((r8).toInt = 4 → vp_in (σ7 0 39) 60 ∧ (∀ σ24 : hg_M, σ24 = hg_set σ7 26 ((σ7 0 39)).toNatClampNeg r2 → ∀ σ25 : hg_M, σ25 = hg_set σ24 0 39 ((σ24 0 39) + (1 : Int32)) → bM_X6_doStatement_236 P x1 σ25)))))))
set_option maxRecDepth 4000 in
theorem tbM_X6_doStatement_236 {d : Nat} {E : hg_Et} {X : hg_X} {P : Int32 → hg_M → Prop}  (hC : hg_C hg_FM 6 (d + 3) E cX6_doStatement RX6 X) (hR : hg_Rni hg_FM (some .int) hg_rM P X)  (x1 : Int32) (σ : hg_M) (hw : bM_X6_doStatement_236 P x1 σ) : hg_G hg_FM 6 X 236 [(1, .int x1)] [] σ hg_rM := by
  unfold bM_X6_doStatement_236 at hw
  refine hg_iload_n hC dX6_doStatement_236 rfl 0 rfl (n := 237) rfl ?_
  refine hg_iconst hC dX6_doStatement_237 hl_i1 (n := 238) rfl ?_
  refine hg_iadd hC dX6_doStatement_238 (n := 239) rfl ?_
  exact hg_reti hC hR dX6_doStatement_239 hw
set_option maxRecDepth 4000 in
theorem tbM_X6_doStatement_235 {d : Nat} {E : hg_Et} {X : hg_X} {P : Int32 → hg_M → Prop}  (hC : hg_C hg_FM 6 (d + 3) E cX6_doStatement RX6 X) (hR : hg_Rni hg_FM (some .int) hg_rM P X)  (t0 : Int32) (σ : hg_M) (hw : bM_X6_doStatement_235 P t0 σ) : hg_G hg_FM 6 X 235 [] [.int t0] σ hg_rM := by
  unfold bM_X6_doStatement_235 at hw
  exact hg_reti hC hR dX6_doStatement_235 hw
set_option maxRecDepth 4000 in
theorem tbM_X6_doStatement_213 {d : Nat} {E : hg_Et} {X : hg_X} {P : Int32 → hg_M → Prop}  (hC : hg_C hg_FM 6 (d + 3) E cX6_doStatement RX6 X) (hR : hg_Rni hg_FM (some .int) hg_rM P X)  (x1 : Int32) (t1 : Int32) (t2 : Int32) (σ : hg_M) (hw : bM_X6_doStatement_213 P x1 t1 t2 σ) : hg_G hg_FM 6 X 213 [(0, .ref (hg_ad X 0)), (1, .int x1)] [.int t2, .int t1, .ref (hg_ad X 28)] σ hg_rM := by
  unfold bM_X6_doStatement_213 at hw
  obtain ⟨h9, hw⟩ := hw
  refine hg_zast hC dX6_doStatement_213 qM_28 kM_28 h9 (n := 214) rfl (fun σ27 eσ27 => ?_)
  have hw := hw σ27 eσ27
  refine hg_aload_n hC dX6_doStatement_214 rfl 0 rfl (n := 215) rfl ?_
  refine hg_getr hC fl_RX6_99 dX6_doStatement_215 qM_0 kM_0 fM_6_44 rM_0_44 (n := 218) rfl ?_
  refine hg_iload_n hC dX6_doStatement_218 rfl 1 rfl (n := 219) rfl ?_
  obtain ⟨h9, hw⟩ := hw
  refine hg_zald hC dX6_doStatement_219 qM_28 kM_28 h9 (n := 220) rfl ?_
  refine hg_if_eq hC dX6_doStatement_220 (tg := 229) rfl (n := 223) rfl (fun h9 => ?_) (fun h9 => ?_)
  · have hw := hw.1 h9
    refine hg_aload_n hC dX6_doStatement_229 rfl 0 rfl (n := 230) rfl ?_
    refine hg_getr hC fl_RX6_31 dX6_doStatement_230 qM_0 kM_0 fM_6_14 rM_0_14 (n := 233) rfl ?_
    refine hg_iload_n hC dX6_doStatement_233 rfl 1 rfl (n := 234) rfl ?_
    obtain ⟨h9, hw⟩ := hw
    refine hg_iald hC dX6_doStatement_234 qM_8 kM_8 h9 (n := 235) rfl ?_
    exact hg_sub [] rfl (tbM_X6_doStatement_235 hC hR  (σ27 8 (x1).toNatClampNeg) σ27 hw)
  · have hw := hw.2 h9
    refine hg_iload_n hC dX6_doStatement_223 rfl 1 rfl (n := 224) rfl ?_
    refine hg_iconst hC dX6_doStatement_224 hl_i1 (n := 225) rfl ?_
    refine hg_iadd hC dX6_doStatement_225 (n := 226) rfl ?_
    refine hg_goto hC dX6_doStatement_226 (tg := 235) rfl ?_
    exact hg_sub [] rfl (tbM_X6_doStatement_235 hC hR  (x1 + (1 : Int32)) σ27 hw)
set_option maxRecDepth 4000 in
theorem tbM_X6_doStatement_115 {d : Nat} {E : hg_Et} {X : hg_X} {P : Int32 → hg_M → Prop}  (hC : hg_C hg_FM 6 (d + 3) E cX6_doStatement RX6 X) (hR : hg_Rni hg_FM (some .int) hg_rM P X)  (x1 : Int32) (t1 : Int32) (t2 : Int32) (σ : hg_M) (hw : bM_X6_doStatement_115 P x1 t1 t2 σ) : hg_G hg_FM 6 X 115 [(1, .int x1)] [.int t2, .int t1, .ref (hg_ad X 27)] σ hg_rM := by
  unfold bM_X6_doStatement_115 at hw
  obtain ⟨h9, hw⟩ := hw
  refine hg_iast hC dX6_doStatement_115 qM_27 kM_27 h9 (n := 116) rfl (fun σ26 eσ26 => ?_)
  have hw := hw σ26 eσ26
  refine hg_goto hC dX6_doStatement_116 (tg := 236) rfl ?_
  exact tbM_X6_doStatement_236 hC hR  x1 σ26 hw
set_option maxRecDepth 4000 in
theorem tM_X6_doStatement {E : hg_Et} (hE : hg_Eok E) (l : Launch) (d : Nat) (x1 : Int32) (σ : hg_M) (P : Int32 → hg_M → Prop) (hw : wM_X6_doStatement x1 σ P) : hg_Ni hg_FM E l yX6_doStatement cX6_doStatement 6 (some .int) (d + 3) (fun ad => [.ref (ad 0), .int x1]) hg_rM σ P := by
  refine hg_ni hE (by decide) (fun _ => Nat.le_of_ble_eq_true rfl) (fun X hC hR hl => ?_)
  subst hl
  have hC : hg_C hg_FM 6 (d + 3) E cX6_doStatement RX6 X := hC
  show hg_G hg_FM 6 X 0 [(0, .ref (hg_ad X 0)), (1, .int x1)] [] σ hg_rM
  unfold wM_X6_doStatement at hw
  refine hg_aload_n hC dX6_doStatement_0 rfl 0 rfl (n := 1) rfl ?_
  refine hg_iload_n hC dX6_doStatement_1 rfl 1 rfl (n := 2) rfl ?_
  refine hg_iconst hC dX6_doStatement_2 hl_i3 (n := 3) rfl ?_
  refine hg_cVi hC (tM_X6_toldValue (hg_Eof hC) X.2.1 (d + 0) _ _ _ _ hw) sv_RX6_294 dX6_doStatement_3 qM_0 kM_0 c_6 rfl (rest := []) rfl (Nat.le_of_ble_eq_true rfl) (n := 6) rfl (fun r2 σ1 hw => ?_)
  refine hg_istore_n hC (L1 := [(2, .int r2), (0, .ref (hg_ad X 0)), (1, .int x1)]) dX6_doStatement_6 rfl (by decide) rfl (n := 7) rfl ?_
  refine hg_aload_n hC dX6_doStatement_7 rfl 1 rfl (n := 8) rfl ?_
  refine hg_iload_n hC dX6_doStatement_8 rfl 2 rfl (n := 9) rfl ?_
  refine hg_iconst hC dX6_doStatement_9 hl_i5 (n := 10) rfl ?_
  refine hg_cVi hC (tM_X6_toldValue (hg_Eof hC) X.2.1 (d + 0) _ _ _ _ hw) sv_RX6_294 dX6_doStatement_10 qM_0 kM_0 c_6 rfl (rest := []) rfl (Nat.le_of_ble_eq_true rfl) (n := 13) rfl (fun r4 σ3 hw => ?_)
  refine hg_istore_n hC (L1 := [(3, .int r4), (2, .int r2), (0, .ref (hg_ad X 0)), (1, .int x1)]) dX6_doStatement_13 rfl (by decide) rfl (n := 14) rfl ?_
  refine hg_aload_n hC dX6_doStatement_14 rfl 2 rfl (n := 15) rfl ?_
  refine hg_iload_n hC dX6_doStatement_15 rfl 3 rfl (n := 16) rfl ?_
  refine hg_iconst hC dX6_doStatement_16 hl_i1 (n := 17) rfl ?_
  refine hg_cVi hC (tM_X6_of (hg_Eof hC) X.2.1 (d + 1) _ _ _ _ hw) sv_RX6_212 dX6_doStatement_17 qM_0 kM_0 c_6 rfl (rest := []) rfl (Nat.le_of_ble_eq_true rfl) (n := 20) rfl (fun r6 σ5 hw => ?_)
  refine hg_istore hC (L1 := [(4, .int r6), (3, .int r4), (2, .int r2), (0, .ref (hg_ad X 0)), (1, .int x1)]) dX6_doStatement_20 (by decide) rfl (n := 22) rfl ?_
  refine hg_aload_n hC dX6_doStatement_22 rfl 3 rfl (n := 23) rfl ?_
  refine hg_iload_n hC dX6_doStatement_23 rfl 4 rfl (n := 24) rfl ?_
  refine hg_iconst hC dX6_doStatement_24 hl_i0 (n := 25) rfl ?_
  refine hg_cVi hC (tM_X6_of (hg_Eof hC) X.2.1 (d + 1) _ _ _ _ hw) sv_RX6_212 dX6_doStatement_25 qM_0 kM_0 c_6 rfl (rest := []) rfl (Nat.le_of_ble_eq_true rfl) (n := 28) rfl (fun r8 σ7 hw => ?_)
  by_cases hsw : (r8).toInt < 0 ∨ 4 < (r8).toInt
  · have hw := hw.1 hsw
    refine hg_tout hC dX6_doStatement_28 hsw (tg := 186) rfl ?_
    refine hg_aload_n hC dX6_doStatement_186 rfl 3 rfl (n := 187) rfl ?_
    refine hg_getr hC fl_RX6_99 dX6_doStatement_187 qM_0 kM_0 fM_6_44 rM_0_44 (n := 190) rfl ?_
    refine hg_iload_n hC dX6_doStatement_190 rfl 4 rfl (n := 191) rfl ?_
    refine hg_aload_n hC dX6_doStatement_191 rfl 3 rfl (n := 192) rfl ?_
    refine hg_aload_n hC dX6_doStatement_192 rfl 3 rfl (n := 193) rfl ?_
    refine hg_iload_n hC dX6_doStatement_193 rfl 4 rfl (n := 194) rfl ?_
    refine hg_iconst hC dX6_doStatement_194 hl_i2 (n := 195) rfl ?_
    refine hg_cVi hC (tM_X6_of (hg_Eof hC) X.2.1 (d + 1) _ _ _ _ hw) sv_RX6_212 dX6_doStatement_195 qM_0 kM_0 c_6 rfl (rest := [.ref (hg_ad X 0), .int x1, .ref (hg_ad X 28)]) rfl (Nat.le_of_ble_eq_true rfl) (n := 198) rfl (fun r10 σ9 hw => ?_)
    refine hg_iload_n hC dX6_doStatement_198 rfl 2 rfl (n := 199) rfl ?_
    refine hg_iload_n hC dX6_doStatement_199 rfl 1 rfl (n := 200) rfl ?_
    refine hg_iload_n hC dX6_doStatement_200 rfl 4 rfl (n := 201) rfl ?_
    refine hg_cVi hC (tM_X6_reach (hg_Eof hC) X.2.1 (d + 0) _ _ _ _ _ _ hw) sv_RX6_297 dX6_doStatement_201 qM_0 kM_0 c_6 rfl (rest := [.int x1, .ref (hg_ad X 28)]) rfl (Nat.le_of_ble_eq_true rfl) (n := 204) rfl (fun r12 σ11 hw => ?_)
    refine hg_iconst hC dX6_doStatement_204 hl_i1 (n := 205) rfl ?_
    refine hg_icmp_ne hC dX6_doStatement_205 (tg := 212) rfl (n := 208) rfl (fun h9 => ?_) (fun h9 => ?_)
    · have hw := hw.1 h9
      refine hg_iconst hC dX6_doStatement_212 hl_i0 (n := 213) rfl ?_
      exact hg_sub [3, 4] rfl (tbM_X6_doStatement_213 hC hR  x1 x1 (0 : Int32) σ11 hw)
    · have hw := hw.2 h9
      refine hg_iconst hC dX6_doStatement_208 hl_i1 (n := 209) rfl ?_
      refine hg_goto hC dX6_doStatement_209 (tg := 213) rfl ?_
      exact hg_sub [3, 4] rfl (tbM_X6_doStatement_213 hC hR  x1 x1 (1 : Int32) σ11 hw)
  · rcases (show (r8).toInt = 0 ∨ (r8).toInt = 1 ∨ (r8).toInt = 2 ∨ (r8).toInt = 3 ∨ (r8).toInt = 4 by omega) with hsx | hsx | hsx | hsx | hsx
    · have hw := hw.2.1 hsx
      refine hg_tin hC dX6_doStatement_28 hsx (by decide) (by decide) (by rfl) (tg := 64) rfl ?_
      refine hg_aload_n hC dX6_doStatement_64 rfl 3 rfl (n := 65) rfl ?_
      refine hg_getr hC fl_RX6_96 dX6_doStatement_65 qM_0 kM_0 fM_6_43 rM_0_43 (n := 68) rfl ?_
      refine hg_iload hC dX6_doStatement_68 0 rfl (n := 70) rfl ?_
      refine hg_iload_n hC dX6_doStatement_70 rfl 2 rfl (n := 71) rfl ?_
      obtain ⟨h9, hw⟩ := hw
      refine hg_iast hC dX6_doStatement_71 qM_27 kM_27 h9 (n := 72) rfl (fun σ13 eσ13 => ?_)
      have hw := hw σ13 eσ13
      refine hg_goto hC dX6_doStatement_72 (tg := 236) rfl ?_
      exact hg_sub [4] rfl (tbM_X6_doStatement_236 hC hR  x1 σ13 hw)
    · have hw := hw.2.2.1 hsx
      refine hg_tin hC dX6_doStatement_28 hsx (by decide) (by decide) (by rfl) (tg := 75) rfl ?_
      refine hg_aload_n hC dX6_doStatement_75 rfl 3 rfl (n := 76) rfl ?_
      refine hg_aload_n hC dX6_doStatement_76 rfl 3 rfl (n := 77) rfl ?_
      refine hg_iload_n hC dX6_doStatement_77 rfl 4 rfl (n := 78) rfl ?_
      refine hg_iconst hC dX6_doStatement_78 hl_i2 (n := 79) rfl ?_
      refine hg_cVi hC (tM_X6_of (hg_Eof hC) X.2.1 (d + 1) _ _ _ _ hw) sv_RX6_212 dX6_doStatement_79 qM_0 kM_0 c_6 rfl (rest := [.ref (hg_ad X 0)]) rfl (Nat.le_of_ble_eq_true rfl) (n := 82) rfl (fun r15 σ14 hw => ?_)
      refine hg_iload_n hC dX6_doStatement_82 rfl 2 rfl (n := 83) rfl ?_
      refine hg_iload_n hC dX6_doStatement_83 rfl 1 rfl (n := 84) rfl ?_
      refine hg_iload_n hC dX6_doStatement_84 rfl 4 rfl (n := 85) rfl ?_
      refine hg_cVi hC (tM_X6_reach (hg_Eof hC) X.2.1 (d + 0) _ _ _ _ _ _ hw) sv_RX6_297 dX6_doStatement_85 qM_0 kM_0 c_6 rfl (rest := []) rfl (Nat.le_of_ble_eq_true rfl) (n := 88) rfl (fun r17 σ16 hw => ?_)
      refine hg_istore hC (L1 := [(5, .int r17), (4, .int r6), (3, .int r4), (2, .int r2), (0, .ref (hg_ad X 0)), (1, .int x1)]) dX6_doStatement_88 (by decide) rfl (n := 90) rfl ?_
      refine hg_aload_n hC dX6_doStatement_90 rfl 4 rfl (n := 91) rfl ?_
      refine hg_getr hC fl_RX6_96 dX6_doStatement_91 qM_0 kM_0 fM_6_43 rM_0_43 (n := 94) rfl ?_
      refine hg_iload hC dX6_doStatement_94 1 rfl (n := 96) rfl ?_
      refine hg_aload_n hC dX6_doStatement_96 rfl 4 rfl (n := 97) rfl ?_
      refine hg_geti hC fl_RX6_288 dX6_doStatement_97 qM_0 kM_0 fM_6_42 (n := 100) rfl ?_
      refine hg_if_ne hC dX6_doStatement_100 (tg := 108) rfl (n := 103) rfl (fun h9 => ?_) (fun h9 => ?_)
      · have hw := hw.1 h9
        refine hg_aload_n hC dX6_doStatement_108 rfl 4 rfl (n := 109) rfl ?_
        refine hg_getr hC fl_RX6_96 dX6_doStatement_109 qM_0 kM_0 fM_6_43 rM_0_43 (n := 112) rfl ?_
        refine hg_iload hC dX6_doStatement_112 1 rfl (n := 114) rfl ?_
        obtain ⟨h9, hw⟩ := hw
        refine hg_iald hC dX6_doStatement_114 qM_27 kM_27 h9 (n := 115) rfl ?_
        exact hg_sub [5] rfl (tbM_X6_doStatement_115 hC hR  x1 r6 (σ16 27 (r6).toNatClampNeg) σ16 hw)
      · have hw := hw.2 h9
        refine hg_iload hC dX6_doStatement_103 0 rfl (n := 105) rfl ?_
        refine hg_goto hC dX6_doStatement_105 (tg := 115) rfl ?_
        exact hg_sub [5] rfl (tbM_X6_doStatement_115 hC hR  x1 r6 r17 σ16 hw)
    · have hw := hw.2.2.2.1 hsx
      refine hg_tin hC dX6_doStatement_28 hsx (by decide) (by decide) (by rfl) (tg := 119) rfl ?_
      refine hg_aload_n hC dX6_doStatement_119 rfl 3 rfl (n := 120) rfl ?_
      refine hg_iload_n hC dX6_doStatement_120 rfl 2 rfl (n := 121) rfl ?_
      refine hg_iload_n hC dX6_doStatement_121 rfl 4 rfl (n := 122) rfl ?_
      refine hg_cVi hC (tM_X6_isWord (hg_Eof hC) X.2.1 (d + 0) _ _ _ _ hw) sv_RX6_301 dX6_doStatement_122 qM_0 kM_0 c_6 rfl (rest := []) rfl (Nat.le_of_ble_eq_true rfl) (n := 125) rfl (fun r19 σ18 hw => ?_)
      refine hg_if_eq hC dX6_doStatement_125 (tg := 236) rfl (n := 128) rfl (fun h9 => ?_) (fun h9 => ?_)
      · have hw := hw.1 h9
        exact hg_sub [4] rfl (tbM_X6_doStatement_236 hC hR  x1 σ18 hw)
      · have hw := hw.2 h9
        refine hg_aload_n hC dX6_doStatement_128 rfl 3 rfl (n := 129) rfl ?_
        refine hg_getr hC fl_RX6_96 dX6_doStatement_129 qM_0 kM_0 fM_6_43 rM_0_43 (n := 132) rfl ?_
        refine hg_iload hC dX6_doStatement_132 0 rfl (n := 134) rfl ?_
        refine hg_aload_n hC dX6_doStatement_134 rfl 3 rfl (n := 135) rfl ?_
        refine hg_getr hC fl_RX6_87 dX6_doStatement_135 qM_0 kM_0 fM_6_37 rM_0_37 (n := 138) rfl ?_
        refine hg_iload_n hC dX6_doStatement_138 rfl 2 rfl (n := 139) rfl ?_
        obtain ⟨h9, hw⟩ := hw
        refine hg_iald hC dX6_doStatement_139 qM_25 kM_25 h9 (n := 140) rfl ?_
        obtain ⟨h9, hw⟩ := hw
        refine hg_iast hC dX6_doStatement_140 qM_27 kM_27 h9 (n := 141) rfl (fun σ20 eσ20 => ?_)
        have hw := hw σ20 eσ20
        refine hg_goto hC dX6_doStatement_141 (tg := 236) rfl ?_
        exact hg_sub [4] rfl (tbM_X6_doStatement_236 hC hR  x1 σ20 hw)
    · have hw := hw.2.2.2.2.1 hsx
      refine hg_tin hC dX6_doStatement_28 hsx (by decide) (by decide) (by rfl) (tg := 144) rfl ?_
      refine hg_aload_n hC dX6_doStatement_144 rfl 3 rfl (n := 145) rfl ?_
      refine hg_iload_n hC dX6_doStatement_145 rfl 2 rfl (n := 146) rfl ?_
      refine hg_iload_n hC dX6_doStatement_146 rfl 4 rfl (n := 147) rfl ?_
      refine hg_cVi hC (tM_X6_isWord (hg_Eof hC) X.2.1 (d + 0) _ _ _ _ hw) sv_RX6_301 dX6_doStatement_147 qM_0 kM_0 c_6 rfl (rest := []) rfl (Nat.le_of_ble_eq_true rfl) (n := 150) rfl (fun r22 σ21 hw => ?_)
      refine hg_if_eq hC dX6_doStatement_150 (tg := 236) rfl (n := 153) rfl (fun h9 => ?_) (fun h9 => ?_)
      · have hw := hw.1 h9
        exact hg_sub [4] rfl (tbM_X6_doStatement_236 hC hR  x1 σ21 hw)
      · have hw := hw.2 h9
        refine hg_aload_n hC dX6_doStatement_153 rfl 3 rfl (n := 154) rfl ?_
        refine hg_getr hC fl_RX6_87 dX6_doStatement_154 qM_0 kM_0 fM_6_37 rM_0_37 (n := 157) rfl ?_
        refine hg_iload_n hC dX6_doStatement_157 rfl 2 rfl (n := 158) rfl ?_
        refine hg_iload_n hC dX6_doStatement_158 rfl 1 rfl (n := 159) rfl ?_
        obtain ⟨h9, hw⟩ := hw
        refine hg_iast hC dX6_doStatement_159 qM_25 kM_25 h9 (n := 160) rfl (fun σ23 eσ23 => ?_)
        have hw := hw σ23 eσ23
        refine hg_goto hC dX6_doStatement_160 (tg := 236) rfl ?_
        exact hg_sub [4] rfl (tbM_X6_doStatement_236 hC hR  x1 σ23 hw)
    · have hw := hw.2.2.2.2.2 hsx
      refine hg_tin hC dX6_doStatement_28 hsx (by decide) (by decide) (by rfl) (tg := 163) rfl ?_
      refine hg_aload_n hC dX6_doStatement_163 rfl 3 rfl (n := 164) rfl ?_
      refine hg_getr hC fl_RX6_90 dX6_doStatement_164 qM_0 kM_0 fM_6_38 rM_0_38 (n := 167) rfl ?_
      refine hg_aload_n hC dX6_doStatement_167 rfl 3 rfl (n := 168) rfl ?_
      refine hg_geti hC fl_RX6_282 dX6_doStatement_168 qM_0 kM_0 fM_6_39 (n := 171) rfl ?_
      refine hg_iload_n hC dX6_doStatement_171 rfl 2 rfl (n := 172) rfl ?_
      obtain ⟨h9, hw⟩ := hw
      refine hg_iast hC dX6_doStatement_172 qM_26 kM_26 h9 (n := 173) rfl (fun σ24 eσ24 => ?_)
      have hw := hw σ24 eσ24
      refine hg_aload_n hC dX6_doStatement_173 rfl 3 rfl (n := 174) rfl ?_
      refine hg_dup hC dX6_doStatement_174 rfl (n := 175) rfl ?_
      refine hg_geti hC fl_RX6_282 dX6_doStatement_175 qM_0 kM_0 fM_6_39 (n := 178) rfl ?_
      refine hg_iconst hC dX6_doStatement_178 hl_i1 (n := 179) rfl ?_
      refine hg_iadd hC dX6_doStatement_179 (n := 180) rfl ?_
      refine hg_puti hC fp_RX6_282 dX6_doStatement_180 qM_0 kM_0 fM_6_39 rfl rfl (n := 183) rfl (fun σ25 eσ25 => ?_)
      have hw := hw σ25 eσ25
      refine hg_goto hC dX6_doStatement_183 (tg := 236) rfl ?_
      exact hg_sub [4] rfl (tbM_X6_doStatement_236 hC hR  x1 σ25 hw)
def bM_X6_behind_85 (P : Int32 → hg_M → Prop) (J4 : Int32 → Int32 → hg_M → Prop) (x2 : Int32) (x3 : Int32) (σ : hg_M) : Prop := J4 x2 x3 σ
def bM_X6_behind_79 (P : Int32 → hg_M → Prop) (J4 : Int32 → Int32 → hg_M → Prop) (J13 : Int32 → Int32 → Int32 → hg_M → Prop) (x2 : Int32) (x3 : Int32) (x4 : Int32) (σ : hg_M) : Prop := ∀ v4 : Int32, v4 = x4 + (1 : Int32) → J13 x2 x3 v4 σ
def lM_X6_behind_13 (P : Int32 → hg_M → Prop) (J4 : Int32 → Int32 → hg_M → Prop) : Nat → Int32 → Int32 → Int32 → hg_M → Prop
  | 0, _, _, _, _ => False
  | n + 1, x2, x3, x4, σ => (((σ 0 9) ≤ x4 → bM_X6_behind_85 P J4 x2 x3 σ) ∧ (¬ ((σ 0 9) ≤ x4) → ((x3 ≠ 0 → bM_X6_behind_85 P J4 x2 x3 σ) ∧ (x3 = 0 → wM_X6_of x4 (0 : Int32) σ (fun r2 σ1 => ((r2 ≠ (5 : Int32) → bM_X6_behind_79 P J4 (fun k0 k1 k2 k3 => lM_X6_behind_13 P J4 n k0 k1 k2 k3) x2 x3 x4 σ1) ∧ (r2 = (5 : Int32) → vp_in x4 60 ∧ ((((σ1 8 (x4).toNatClampNeg) ≠ x2 → bM_X6_behind_79 P J4 (fun k0 k1 k2 k3 => lM_X6_behind_13 P J4 n k0 k1 k2 k3) x2 x3 x4 σ1) ∧ ((σ1 8 (x4).toNatClampNeg) = x2 → vp_in x4 60 ∧ ((((σ1 9 (x4).toNatClampNeg) ≤ x2 → bM_X6_behind_79 P J4 (fun k0 k1 k2 k3 => lM_X6_behind_13 P J4 n k0 k1 k2 k3) x2 x3 x4 σ1) ∧ (¬ ((σ1 9 (x4).toNatClampNeg) ≤ x2) → vp_in x4 60 ∧ ((((σ1 28 (x4).toNatClampNeg) = 0 → bM_X6_behind_79 P J4 (fun k0 k1 k2 k3 => lM_X6_behind_13 P J4 n k0 k1 k2 k3) x2 x3 x4 σ1) ∧ (¬ (σ1 28 (x4).toNatClampNeg) = 0 → vp_in x4 60 ∧ (∀ v3 : Int32, v3 = (σ1 9 (x4).toNatClampNeg) → bM_X6_behind_79 P J4 (fun k0 k1 k2 k3 => lM_X6_behind_13 P J4 n k0 k1 k2 k3) v3 (1 : Int32) x4 σ1)))))))))))))))))
def lM_X6_behind_4 (P : Int32 → hg_M → Prop)  : Nat → Int32 → Int32 → hg_M → Prop
  | 0, _, _, _ => False
  | n + 1, x2, x3, σ => ((x3 = 0 → P x2 σ) ∧ (¬ x3 = 0 → (∃ f9, lM_X6_behind_13 P (fun k0 k1 k2 => lM_X6_behind_4 P n k0 k1 k2) f9 x2 (0 : Int32) (0 : Int32) σ)))
def wM_X6_behind (x1 : Int32) (σ : hg_M) (P : Int32 → hg_M → Prop) : Prop := (∃ f9, lM_X6_behind_4 P f9 x1 (1 : Int32) σ)
set_option maxRecDepth 4000 in
theorem tbM_X6_behind_85 {d : Nat} {E : hg_Et} {X : hg_X} {P : Int32 → hg_M → Prop} {J4 : Int32 → Int32 → hg_M → Prop} (hC : hg_C hg_FM 5 (d + 2) E cX6_behind RX6 X) (hR : hg_Rni hg_FM (some .int) hg_rM P X) (hJ4 : ∀ (x2 : Int32) (x3 : Int32) (σ : hg_M), J4 x2 x3 σ → hg_G hg_FM 5 X 4 [(0, .ref (hg_ad X 0)), (2, .int x2), (3, .int x3)] [] σ hg_rM) (x2 : Int32) (x3 : Int32) (σ : hg_M) (hw : bM_X6_behind_85 P J4 x2 x3 σ) : hg_G hg_FM 5 X 85 [(0, .ref (hg_ad X 0)), (2, .int x2), (3, .int x3)] [] σ hg_rM := by
  unfold bM_X6_behind_85 at hw
  refine hg_goto hC dX6_behind_85 (tg := 4) rfl ?_
  exact hJ4 x2 x3 σ hw
set_option maxRecDepth 4000 in
theorem tbM_X6_behind_79 {d : Nat} {E : hg_Et} {X : hg_X} {P : Int32 → hg_M → Prop} {J4 : Int32 → Int32 → hg_M → Prop} {J13 : Int32 → Int32 → Int32 → hg_M → Prop} (hC : hg_C hg_FM 5 (d + 2) E cX6_behind RX6 X) (hR : hg_Rni hg_FM (some .int) hg_rM P X) (hJ4 : ∀ (x2 : Int32) (x3 : Int32) (σ : hg_M), J4 x2 x3 σ → hg_G hg_FM 5 X 4 [(0, .ref (hg_ad X 0)), (2, .int x2), (3, .int x3)] [] σ hg_rM) (hJ13 : ∀ (x2 : Int32) (x3 : Int32) (x4 : Int32) (σ : hg_M), J13 x2 x3 x4 σ → hg_G hg_FM 5 X 13 [(0, .ref (hg_ad X 0)), (2, .int x2), (3, .int x3), (4, .int x4)] [] σ hg_rM) (x2 : Int32) (x3 : Int32) (x4 : Int32) (σ : hg_M) (hw : bM_X6_behind_79 P J4 J13 x2 x3 x4 σ) : hg_G hg_FM 5 X 79 [(0, .ref (hg_ad X 0)), (2, .int x2), (3, .int x3), (4, .int x4)] [] σ hg_rM := by
  unfold bM_X6_behind_79 at hw
  obtain ⟨v4, ev4⟩ : ∃ z, z = x4 + (1 : Int32) := ⟨_, rfl⟩
  have hw := hw v4 ev4
  refine hg_iinc hC (v := v4) (L1 := [(4, .int v4), (0, .ref (hg_ad X 0)), (2, .int x2), (3, .int x3)]) dX6_behind_79 3 rfl (by rw [hl_i1, ev4]) (by decide) rfl (n := 82) rfl ?_
  refine hg_goto hC dX6_behind_82 (tg := 13) rfl ?_
  exact hg_sub [1, 2, 3, 0] rfl (hJ13 x2 x3 v4 σ hw)
set_option maxRecDepth 4000 in
theorem tlM_X6_behind_13 {d : Nat} {E : hg_Et} {X : hg_X} {P : Int32 → hg_M → Prop} {J4 : Int32 → Int32 → hg_M → Prop} (hC : hg_C hg_FM 5 (d + 2) E cX6_behind RX6 X) (hR : hg_Rni hg_FM (some .int) hg_rM P X) (hJ4 : ∀ (x2 : Int32) (x3 : Int32) (σ : hg_M), J4 x2 x3 σ → hg_G hg_FM 5 X 4 [(0, .ref (hg_ad X 0)), (2, .int x2), (3, .int x3)] [] σ hg_rM) (n : Nat) : ∀ (x2 : Int32) (x3 : Int32) (x4 : Int32) (σ : hg_M), lM_X6_behind_13 P J4 n x2 x3 x4 σ → hg_G hg_FM 5 X 13 [(0, .ref (hg_ad X 0)), (2, .int x2), (3, .int x3), (4, .int x4)] [] σ hg_rM := by
  induction n with
  | zero =>
    intro x2 x3 x4 σ hw
    rw [lM_X6_behind_13] at hw
    exact hw.elim
  | succ n ih =>
    intro x2 x3 x4 σ hw
    rw [lM_X6_behind_13] at hw
    refine hg_iload hC dX6_behind_13 3 rfl (n := 15) rfl ?_
    refine hg_aload_n hC dX6_behind_15 rfl 0 rfl (n := 16) rfl ?_
    refine hg_geti hC fl_RX6_192 dX6_behind_16 qM_0 kM_0 fM_6_9 (n := 19) rfl ?_
    refine hg_icmp_ge hC dX6_behind_19 (tg := 85) rfl (n := 22) rfl (fun h9 => ?_) (fun h9 => ?_)
    · have hw := hw.1 h9
      exact hg_sub [0, 1, 2] rfl (tbM_X6_behind_85 hC hR hJ4 x2 x3 σ hw)
    · have hw := hw.2 h9
      refine hg_iload_n hC dX6_behind_22 rfl 2 rfl (n := 23) rfl ?_
      refine hg_if_ne hC dX6_behind_23 (tg := 85) rfl (n := 26) rfl (fun h9 => ?_) (fun h9 => ?_)
      · have hw := hw.1 h9
        exact hg_sub [0, 1, 2] rfl (tbM_X6_behind_85 hC hR hJ4 x2 x3 σ hw)
      · have hw := hw.2 h9
        refine hg_aload_n hC dX6_behind_26 rfl 0 rfl (n := 27) rfl ?_
        refine hg_iload hC dX6_behind_27 3 rfl (n := 29) rfl ?_
        refine hg_iconst hC dX6_behind_29 hl_i0 (n := 30) rfl ?_
        refine hg_cVi hC (tM_X6_of (hg_Eof hC) X.2.1 (d + 0) _ _ _ _ hw) sv_RX6_212 dX6_behind_30 qM_0 kM_0 c_6 rfl (rest := []) rfl (Nat.le_of_ble_eq_true rfl) (n := 33) rfl (fun r2 σ1 hw => ?_)
        refine hg_iconst hC dX6_behind_33 hl_i5 (n := 34) rfl ?_
        refine hg_icmp_ne hC dX6_behind_34 (tg := 79) rfl (n := 37) rfl (fun h9 => ?_) (fun h9 => ?_)
        · have hw := hw.1 h9
          exact tbM_X6_behind_79 hC hR hJ4 ih x2 x3 x4 σ1 hw
        · have hw := hw.2 h9
          refine hg_aload_n hC dX6_behind_37 rfl 0 rfl (n := 38) rfl ?_
          refine hg_getr hC fl_RX6_31 dX6_behind_38 qM_0 kM_0 fM_6_14 rM_0_14 (n := 41) rfl ?_
          refine hg_iload hC dX6_behind_41 3 rfl (n := 43) rfl ?_
          obtain ⟨h9, hw⟩ := hw
          refine hg_iald hC dX6_behind_43 qM_8 kM_8 h9 (n := 44) rfl ?_
          refine hg_iload_n hC dX6_behind_44 rfl 1 rfl (n := 45) rfl ?_
          refine hg_icmp_ne hC dX6_behind_45 (tg := 79) rfl (n := 48) rfl (fun h9 => ?_) (fun h9 => ?_)
          · have hw := hw.1 h9
            exact tbM_X6_behind_79 hC hR hJ4 ih x2 x3 x4 σ1 hw
          · have hw := hw.2 h9
            refine hg_aload_n hC dX6_behind_48 rfl 0 rfl (n := 49) rfl ?_
            refine hg_getr hC fl_RX6_34 dX6_behind_49 qM_0 kM_0 fM_6_15 rM_0_15 (n := 52) rfl ?_
            refine hg_iload hC dX6_behind_52 3 rfl (n := 54) rfl ?_
            obtain ⟨h9, hw⟩ := hw
            refine hg_iald hC dX6_behind_54 qM_9 kM_9 h9 (n := 55) rfl ?_
            refine hg_iload_n hC dX6_behind_55 rfl 1 rfl (n := 56) rfl ?_
            refine hg_icmp_le hC dX6_behind_56 (tg := 79) rfl (n := 59) rfl (fun h9 => ?_) (fun h9 => ?_)
            · have hw := hw.1 h9
              exact tbM_X6_behind_79 hC hR hJ4 ih x2 x3 x4 σ1 hw
            · have hw := hw.2 h9
              refine hg_aload_n hC dX6_behind_59 rfl 0 rfl (n := 60) rfl ?_
              refine hg_getr hC fl_RX6_99 dX6_behind_60 qM_0 kM_0 fM_6_44 rM_0_44 (n := 63) rfl ?_
              refine hg_iload hC dX6_behind_63 3 rfl (n := 65) rfl ?_
              obtain ⟨h9, hw⟩ := hw
              refine hg_zald hC dX6_behind_65 qM_28 kM_28 h9 (n := 66) rfl ?_
              refine hg_if_eq hC dX6_behind_66 (tg := 79) rfl (n := 69) rfl (fun h9 => ?_) (fun h9 => ?_)
              · have hw := hw.1 h9
                exact tbM_X6_behind_79 hC hR hJ4 ih x2 x3 x4 σ1 hw
              · have hw := hw.2 h9
                refine hg_aload_n hC dX6_behind_69 rfl 0 rfl (n := 70) rfl ?_
                refine hg_getr hC fl_RX6_34 dX6_behind_70 qM_0 kM_0 fM_6_15 rM_0_15 (n := 73) rfl ?_
                refine hg_iload hC dX6_behind_73 3 rfl (n := 75) rfl ?_
                obtain ⟨h9, hw⟩ := hw
                refine hg_iald hC dX6_behind_75 qM_9 kM_9 h9 (n := 76) rfl ?_
                refine hg_topi (fun v3 ev3 => ?_)
                have hw := hw v3 ev3
                refine hg_istore_n hC (L1 := [(2, .int v3), (0, .ref (hg_ad X 0)), (3, .int x3), (4, .int x4)]) dX6_behind_76 rfl (by decide) rfl (n := 77) rfl ?_
                refine hg_iconst hC dX6_behind_77 hl_i1 (n := 78) rfl ?_
                refine hg_istore_n hC (L1 := [(3, .int (1 : Int32)), (2, .int v3), (0, .ref (hg_ad X 0)), (4, .int x4)]) dX6_behind_78 rfl (by decide) rfl (n := 79) rfl ?_
                exact hg_sub [2, 1, 0, 3] rfl (tbM_X6_behind_79 hC hR hJ4 ih v3 (1 : Int32) x4 σ1 hw)
set_option maxRecDepth 4000 in
theorem tlM_X6_behind_4 {d : Nat} {E : hg_Et} {X : hg_X} {P : Int32 → hg_M → Prop}  (hC : hg_C hg_FM 5 (d + 2) E cX6_behind RX6 X) (hR : hg_Rni hg_FM (some .int) hg_rM P X)  (n : Nat) : ∀ (x2 : Int32) (x3 : Int32) (σ : hg_M), lM_X6_behind_4 P n x2 x3 σ → hg_G hg_FM 5 X 4 [(0, .ref (hg_ad X 0)), (2, .int x2), (3, .int x3)] [] σ hg_rM := by
  induction n with
  | zero =>
    intro x2 x3 σ hw
    rw [lM_X6_behind_4] at hw
    exact hw.elim
  | succ n ih =>
    intro x2 x3 σ hw
    rw [lM_X6_behind_4] at hw
    refine hg_iload_n hC dX6_behind_4 rfl 2 rfl (n := 5) rfl ?_
    refine hg_if_eq hC dX6_behind_5 (tg := 88) rfl (n := 8) rfl (fun h9 => ?_) (fun h9 => ?_)
    · have hw := hw.1 h9
      refine hg_iload_n hC dX6_behind_88 rfl 1 rfl (n := 89) rfl ?_
      exact hg_reti hC hR dX6_behind_89 hw
    · have hw := hw.2 h9
      refine hg_iconst hC dX6_behind_8 hl_i0 (n := 9) rfl ?_
      refine hg_istore_n hC (L1 := [(3, .int (0 : Int32)), (0, .ref (hg_ad X 0)), (2, .int x2)]) dX6_behind_9 rfl (by decide) rfl (n := 10) rfl ?_
      refine hg_iconst hC dX6_behind_10 hl_i0 (n := 11) rfl ?_
      refine hg_istore hC (L1 := [(4, .int (0 : Int32)), (3, .int (0 : Int32)), (0, .ref (hg_ad X 0)), (2, .int x2)]) dX6_behind_11 (by decide) rfl (n := 13) rfl ?_
      obtain ⟨n9, hw⟩ := hw
      exact hg_sub [2, 3, 1, 0] rfl (tlM_X6_behind_13 hC hR ih n9 x2 (0 : Int32) (0 : Int32) σ hw)
set_option maxRecDepth 4000 in
theorem tM_X6_behind {E : hg_Et} (hE : hg_Eok E) (l : Launch) (d : Nat) (x1 : Int32) (σ : hg_M) (P : Int32 → hg_M → Prop) (hw : wM_X6_behind x1 σ P) : hg_Ni hg_FM E l yX6_behind cX6_behind 5 (some .int) (d + 2) (fun ad => [.ref (ad 0), .int x1]) hg_rM σ P := by
  refine hg_ni hE (by decide) (fun _ => Nat.le_of_ble_eq_true rfl) (fun X hC hR hl => ?_)
  subst hl
  have hC : hg_C hg_FM 5 (d + 2) E cX6_behind RX6 X := hC
  show hg_G hg_FM 5 X 0 [(0, .ref (hg_ad X 0)), (1, .int x1)] [] σ hg_rM
  unfold wM_X6_behind at hw
  refine hg_iload_n hC dX6_behind_0 rfl 1 rfl (n := 1) rfl ?_
  refine hg_istore_n hC (L1 := [(2, .int x1), (0, .ref (hg_ad X 0)), (1, .int x1)]) dX6_behind_1 rfl (by decide) rfl (n := 2) rfl ?_
  refine hg_iconst hC dX6_behind_2 hl_i1 (n := 3) rfl ?_
  refine hg_istore_n hC (L1 := [(3, .int (1 : Int32)), (2, .int x1), (0, .ref (hg_ad X 0)), (1, .int x1)]) dX6_behind_3 rfl (by decide) rfl (n := 4) rfl ?_
  obtain ⟨n9, hw⟩ := hw
  exact hg_sub [2, 1, 0] rfl (tlM_X6_behind_4 hC hR  n9 x1 (1 : Int32) σ hw)
def bM_X6_doStep_422 (P : Int32 → hg_M → Prop)  (x1 : Int32) (σ : hg_M) : Prop := P (x1 + (1 : Int32)) σ
def bM_X6_doStep_421 (P : Int32 → hg_M → Prop)  (x1 : Int32) (t1 : Int32) (t2 : Int32) (σ : hg_M) : Prop := vp_in t1 4100 ∧ (∀ σ39 : hg_M, σ39 = hg_set σ 27 (t1).toNatClampNeg t2 → bM_X6_doStep_422 P x1 σ39)
def bM_X6_doStep_329 (P : Int32 → hg_M → Prop)  (t0 : Int32) (σ : hg_M) : Prop := P t0 σ
def bM_X6_doStep_209 (P : Int32 → hg_M → Prop)  (x1 : Int32) (t1 : Int32) (t2 : Int32) (σ : hg_M) : Prop := vp_in t1 4100 ∧ (∀ σ38 : hg_M, σ38 = hg_set σ 27 (t1).toNatClampNeg t2 → bM_X6_doStep_422 P x1 σ38)
def wM_X6_doStep (x1 : Int32) (σ : hg_M) (P : Int32 → hg_M → Prop) : Prop := ∀ v1 : Int32, v1 = ((6 : Int32) * x1) → vp_in (v1 + (1 : Int32)) 24000 ∧ (∀ v2 : Int32, v2 = (σ 12 ((v1 + (1 : Int32))).toNatClampNeg) → vp_in (v1 + (5 : Int32)) 24000 ∧ (∀ v3 : Int32, v3 = (σ 12 ((v1 + (5 : Int32))).toNatClampNeg) → vp_in v1 24000 ∧ ((((((σ 12 (v1).toNatClampNeg)).toInt < 0 ∨ 18 < ((σ 12 (v1).toNatClampNeg)).toInt) → vp_in v1 24000 ∧ (vp_in (v1 + (2 : Int32)) 24000 ∧ (vp_in (σ 12 ((v1 + (2 : Int32))).toNatClampNeg) 4100 ∧ (vp_in (v1 + (3 : Int32)) 24000 ∧ (vp_in (σ 12 ((v1 + (3 : Int32))).toNatClampNeg) 4100 ∧ (wM_X6_reach (σ 12 (v1).toNatClampNeg) (σ 27 ((σ 12 ((v1 + (2 : Int32))).toNatClampNeg)).toNatClampNeg) (σ 27 ((σ 12 ((v1 + (3 : Int32))).toNatClampNeg)).toNatClampNeg) v3 σ (fun r5 σ4 => (((σ4 0 42) ≠ 0 → vp_in v2 4100 ∧ (bM_X6_doStep_421 P x1 v2 (σ4 27 (v2).toNatClampNeg) σ4)) ∧ ((σ4 0 42) = 0 → bM_X6_doStep_421 P x1 v2 r5 σ4))))))))) ∧ (((σ 12 (v1).toNatClampNeg)).toInt = 0 → vp_in (v1 + (2 : Int32)) 24000 ∧ (vp_in v2 4100 ∧ (∀ σ6 : hg_M, σ6 = hg_set σ 27 (v2).toNatClampNeg (σ 12 ((v1 + (2 : Int32))).toNatClampNeg) → bM_X6_doStep_422 P x1 σ6))) ∧ (((σ 12 (v1).toNatClampNeg)).toInt = 1 → vp_in (v1 + (2 : Int32)) 24000 ∧ (vp_in (σ 12 ((v1 + (2 : Int32))).toNatClampNeg) 4100 ∧ (vp_in v2 4100 ∧ (∀ σ7 : hg_M, σ7 = hg_set σ 27 (v2).toNatClampNeg (σ 27 ((σ 12 ((v1 + (2 : Int32))).toNatClampNeg)).toNatClampNeg) → bM_X6_doStep_422 P x1 σ7)))) ∧ (((σ 12 (v1).toNatClampNeg)).toInt = 2 → vp_in v1 24000 ∧ (vp_in (v1 + (2 : Int32)) 24000 ∧ (vp_in (σ 12 ((v1 + (2 : Int32))).toNatClampNeg) 4100 ∧ (vp_in (v1 + (3 : Int32)) 24000 ∧ (vp_in (σ 12 ((v1 + (3 : Int32))).toNatClampNeg) 4100 ∧ (wM_X6_reach (σ 12 (v1).toNatClampNeg) (σ 27 ((σ 12 ((v1 + (2 : Int32))).toNatClampNeg)).toNatClampNeg) (σ 27 ((σ 12 ((v1 + (3 : Int32))).toNatClampNeg)).toNatClampNeg) v3 σ (fun r9 σ8 => (((σ8 0 42) ≠ 0 → vp_in v2 4100 ∧ (bM_X6_doStep_421 P x1 v2 (σ8 27 (v2).toNatClampNeg) σ8)) ∧ ((σ8 0 42) = 0 → bM_X6_doStep_421 P x1 v2 r9 σ8))))))))) ∧ (((σ 12 (v1).toNatClampNeg)).toInt = 3 → vp_in v1 24000 ∧ (vp_in (v1 + (2 : Int32)) 24000 ∧ (vp_in (σ 12 ((v1 + (2 : Int32))).toNatClampNeg) 4100 ∧ (vp_in (v1 + (3 : Int32)) 24000 ∧ (vp_in (σ 12 ((v1 + (3 : Int32))).toNatClampNeg) 4100 ∧ (wM_X6_reach (σ 12 (v1).toNatClampNeg) (σ 27 ((σ 12 ((v1 + (2 : Int32))).toNatClampNeg)).toNatClampNeg) (σ 27 ((σ 12 ((v1 + (3 : Int32))).toNatClampNeg)).toNatClampNeg) v3 σ (fun r11 σ10 => (((σ10 0 42) ≠ 0 → vp_in v2 4100 ∧ (bM_X6_doStep_421 P x1 v2 (σ10 27 (v2).toNatClampNeg) σ10)) ∧ ((σ10 0 42) = 0 → bM_X6_doStep_421 P x1 v2 r11 σ10))))))))) ∧ (((σ 12 (v1).toNatClampNeg)).toInt = 4 → vp_in v1 24000 ∧ (vp_in (v1 + (2 : Int32)) 24000 ∧ (vp_in (σ 12 ((v1 + (2 : Int32))).toNatClampNeg) 4100 ∧ (vp_in (v1 + (3 : Int32)) 24000 ∧ (vp_in (σ 12 ((v1 + (3 : Int32))).toNatClampNeg) 4100 ∧ (wM_X6_reach (σ 12 (v1).toNatClampNeg) (σ 27 ((σ 12 ((v1 + (2 : Int32))).toNatClampNeg)).toNatClampNeg) (σ 27 ((σ 12 ((v1 + (3 : Int32))).toNatClampNeg)).toNatClampNeg) v3 σ (fun r13 σ12 => (((σ12 0 42) ≠ 0 → vp_in v2 4100 ∧ (bM_X6_doStep_421 P x1 v2 (σ12 27 (v2).toNatClampNeg) σ12)) ∧ ((σ12 0 42) = 0 → bM_X6_doStep_421 P x1 v2 r13 σ12))))))))) ∧ (((σ 12 (v1).toNatClampNeg)).toInt = 5 → vp_in v1 24000 ∧ (vp_in (v1 + (2 : Int32)) 24000 ∧ (vp_in (σ 12 ((v1 + (2 : Int32))).toNatClampNeg) 4100 ∧ (vp_in (v1 + (3 : Int32)) 24000 ∧ (vp_in (σ 12 ((v1 + (3 : Int32))).toNatClampNeg) 4100 ∧ (wM_X6_reach (σ 12 (v1).toNatClampNeg) (σ 27 ((σ 12 ((v1 + (2 : Int32))).toNatClampNeg)).toNatClampNeg) (σ 27 ((σ 12 ((v1 + (3 : Int32))).toNatClampNeg)).toNatClampNeg) v3 σ (fun r15 σ14 => (((σ14 0 42) ≠ 0 → vp_in v2 4100 ∧ (bM_X6_doStep_421 P x1 v2 (σ14 27 (v2).toNatClampNeg) σ14)) ∧ ((σ14 0 42) = 0 → bM_X6_doStep_421 P x1 v2 r15 σ14))))))))) ∧ (((σ 12 (v1).toNatClampNeg)).toInt = 6 → vp_in v1 24000 ∧ (vp_in (v1 + (2 : Int32)) 24000 ∧ (vp_in (σ 12 ((v1 + (2 : Int32))).toNatClampNeg) 4100 ∧ (vp_in (v1 + (3 : Int32)) 24000 ∧ (vp_in (σ 12 ((v1 + (3 : Int32))).toNatClampNeg) 4100 ∧ (wM_X6_reach (σ 12 (v1).toNatClampNeg) (σ 27 ((σ 12 ((v1 + (2 : Int32))).toNatClampNeg)).toNatClampNeg) (σ 27 ((σ 12 ((v1 + (3 : Int32))).toNatClampNeg)).toNatClampNeg) v3 σ (fun r17 σ16 => (((σ16 0 42) ≠ 0 → vp_in v2 4100 ∧ (bM_X6_doStep_421 P x1 v2 (σ16 27 (v2).toNatClampNeg) σ16)) ∧ ((σ16 0 42) = 0 → bM_X6_doStep_421 P x1 v2 r17 σ16))))))))) ∧ (((σ 12 (v1).toNatClampNeg)).toInt = 7 → vp_in v1 24000 ∧ (vp_in (v1 + (2 : Int32)) 24000 ∧ (vp_in (σ 12 ((v1 + (2 : Int32))).toNatClampNeg) 4100 ∧ (vp_in (v1 + (3 : Int32)) 24000 ∧ (vp_in (σ 12 ((v1 + (3 : Int32))).toNatClampNeg) 4100 ∧ (wM_X6_reach (σ 12 (v1).toNatClampNeg) (σ 27 ((σ 12 ((v1 + (2 : Int32))).toNatClampNeg)).toNatClampNeg) (σ 27 ((σ 12 ((v1 + (3 : Int32))).toNatClampNeg)).toNatClampNeg) v3 σ (fun r19 σ18 => (((σ18 0 42) ≠ 0 → vp_in v2 4100 ∧ (bM_X6_doStep_421 P x1 v2 (σ18 27 (v2).toNatClampNeg) σ18)) ∧ ((σ18 0 42) = 0 → bM_X6_doStep_421 P x1 v2 r19 σ18))))))))) ∧ (((σ 12 (v1).toNatClampNeg)).toInt = 8 → vp_in v1 24000 ∧ (vp_in (v1 + (2 : Int32)) 24000 ∧ (vp_in (σ 12 ((v1 + (2 : Int32))).toNatClampNeg) 4100 ∧ (vp_in (v1 + (3 : Int32)) 24000 ∧ (vp_in (σ 12 ((v1 + (3 : Int32))).toNatClampNeg) 4100 ∧ (wM_X6_reach (σ 12 (v1).toNatClampNeg) (σ 27 ((σ 12 ((v1 + (2 : Int32))).toNatClampNeg)).toNatClampNeg) (σ 27 ((σ 12 ((v1 + (3 : Int32))).toNatClampNeg)).toNatClampNeg) v3 σ (fun r21 σ20 => (((σ20 0 42) ≠ 0 → vp_in v2 4100 ∧ (bM_X6_doStep_421 P x1 v2 (σ20 27 (v2).toNatClampNeg) σ20)) ∧ ((σ20 0 42) = 0 → bM_X6_doStep_421 P x1 v2 r21 σ20))))))))) ∧ (((σ 12 (v1).toNatClampNeg)).toInt = 9 → vp_in v1 24000 ∧ (vp_in (v1 + (2 : Int32)) 24000 ∧ (vp_in (σ 12 ((v1 + (2 : Int32))).toNatClampNeg) 4100 ∧ (vp_in (v1 + (3 : Int32)) 24000 ∧ (vp_in (σ 12 ((v1 + (3 : Int32))).toNatClampNeg) 4100 ∧ (wM_X6_reach (σ 12 (v1).toNatClampNeg) (σ 27 ((σ 12 ((v1 + (2 : Int32))).toNatClampNeg)).toNatClampNeg) (σ 27 ((σ 12 ((v1 + (3 : Int32))).toNatClampNeg)).toNatClampNeg) v3 σ (fun r23 σ22 => (((σ22 0 42) ≠ 0 → vp_in v2 4100 ∧ (bM_X6_doStep_421 P x1 v2 (σ22 27 (v2).toNatClampNeg) σ22)) ∧ ((σ22 0 42) = 0 → bM_X6_doStep_421 P x1 v2 r23 σ22))))))))) ∧ (((σ 12 (v1).toNatClampNeg)).toInt = 10 → vp_in v1 24000 ∧ (vp_in (v1 + (2 : Int32)) 24000 ∧ (vp_in (σ 12 ((v1 + (2 : Int32))).toNatClampNeg) 4100 ∧ (vp_in (v1 + (3 : Int32)) 24000 ∧ (vp_in (σ 12 ((v1 + (3 : Int32))).toNatClampNeg) 4100 ∧ (wM_X6_reach (σ 12 (v1).toNatClampNeg) (σ 27 ((σ 12 ((v1 + (2 : Int32))).toNatClampNeg)).toNatClampNeg) (σ 27 ((σ 12 ((v1 + (3 : Int32))).toNatClampNeg)).toNatClampNeg) v3 σ (fun r25 σ24 => (((σ24 0 42) ≠ 0 → vp_in v2 4100 ∧ (bM_X6_doStep_421 P x1 v2 (σ24 27 (v2).toNatClampNeg) σ24)) ∧ ((σ24 0 42) = 0 → bM_X6_doStep_421 P x1 v2 r25 σ24))))))))) ∧ (((σ 12 (v1).toNatClampNeg)).toInt = 11 → vp_in v1 24000 ∧ (vp_in (v1 + (2 : Int32)) 24000 ∧ (vp_in (σ 12 ((v1 + (2 : Int32))).toNatClampNeg) 4100 ∧ (vp_in (v1 + (3 : Int32)) 24000 ∧ (vp_in (σ 12 ((v1 + (3 : Int32))).toNatClampNeg) 4100 ∧ (wM_X6_reach (σ 12 (v1).toNatClampNeg) (σ 27 ((σ 12 ((v1 + (2 : Int32))).toNatClampNeg)).toNatClampNeg) (σ 27 ((σ 12 ((v1 + (3 : Int32))).toNatClampNeg)).toNatClampNeg) v3 σ (fun r27 σ26 => (((σ26 0 42) ≠ 0 → vp_in v2 4100 ∧ (bM_X6_doStep_421 P x1 v2 (σ26 27 (v2).toNatClampNeg) σ26)) ∧ ((σ26 0 42) = 0 → bM_X6_doStep_421 P x1 v2 r27 σ26))))))))) ∧ (((σ 12 (v1).toNatClampNeg)).toInt = 12 → vp_in v1 24000 ∧ (vp_in (v1 + (2 : Int32)) 24000 ∧ (vp_in (σ 12 ((v1 + (2 : Int32))).toNatClampNeg) 4100 ∧ (vp_in (v1 + (3 : Int32)) 24000 ∧ (vp_in (σ 12 ((v1 + (3 : Int32))).toNatClampNeg) 4100 ∧ (wM_X6_reach (σ 12 (v1).toNatClampNeg) (σ 27 ((σ 12 ((v1 + (2 : Int32))).toNatClampNeg)).toNatClampNeg) (σ 27 ((σ 12 ((v1 + (3 : Int32))).toNatClampNeg)).toNatClampNeg) v3 σ (fun r29 σ28 => (((σ28 0 42) ≠ 0 → vp_in v2 4100 ∧ (bM_X6_doStep_421 P x1 v2 (σ28 27 (v2).toNatClampNeg) σ28)) ∧ ((σ28 0 42) = 0 → bM_X6_doStep_421 P x1 v2 r29 σ28))))))))) ∧ (((σ 12 (v1).toNatClampNeg)).toInt = 13 → vp_in (v1 + (2 : Int32)) 24000 ∧ (vp_in (σ 12 ((v1 + (2 : Int32))).toNatClampNeg) 4100 ∧ ((((σ 27 ((σ 12 ((v1 + (2 : Int32))).toNatClampNeg)).toNatClampNeg) = 0 → vp_in (v1 + (4 : Int32)) 24000 ∧ (vp_in (σ 12 ((v1 + (4 : Int32))).toNatClampNeg) 4100 ∧ (bM_X6_doStep_209 P x1 v2 (σ 27 ((σ 12 ((v1 + (4 : Int32))).toNatClampNeg)).toNatClampNeg) σ))) ∧ (¬ (σ 27 ((σ 12 ((v1 + (2 : Int32))).toNatClampNeg)).toNatClampNeg) = 0 → vp_in (v1 + (3 : Int32)) 24000 ∧ (vp_in (σ 12 ((v1 + (3 : Int32))).toNatClampNeg) 4100 ∧ (bM_X6_doStep_209 P x1 v2 (σ 27 ((σ 12 ((v1 + (3 : Int32))).toNatClampNeg)).toNatClampNeg) σ))))))) ∧ (((σ 12 (v1).toNatClampNeg)).toInt = 14 → vp_in (v1 + (2 : Int32)) 24000 ∧ (vp_in (σ 12 ((v1 + (2 : Int32))).toNatClampNeg) 4100 ∧ (wM_X6_isWord (σ 27 ((σ 12 ((v1 + (2 : Int32))).toNatClampNeg)).toNatClampNeg) v3 σ (fun r31 σ30 => ((r31 = 0 → bM_X6_doStep_422 P x1 σ30) ∧ (¬ r31 = 0 → vp_in (v1 + (2 : Int32)) 24000 ∧ (vp_in (σ30 12 ((v1 + (2 : Int32))).toNatClampNeg) 4100 ∧ (vp_in (σ30 27 ((σ30 12 ((v1 + (2 : Int32))).toNatClampNeg)).toNatClampNeg) 32 ∧ (vp_in v2 4100 ∧ (∀ σ32 : hg_M, σ32 = hg_set σ30 27 (v2).toNatClampNeg (σ30 25 ((σ30 27 ((σ30 12 ((v1 + (2 : Int32))).toNatClampNeg)).toNatClampNeg)).toNatClampNeg) → bM_X6_doStep_422 P x1 σ32)))))))))) ∧ (((σ 12 (v1).toNatClampNeg)).toInt = 15 → vp_in v2 4100 ∧ (wM_X6_isWord (σ 27 (v2).toNatClampNeg) v3 σ (fun r34 σ33 => ((r34 = 0 → bM_X6_doStep_422 P x1 σ33) ∧ (¬ r34 = 0 → vp_in v2 4100 ∧ (vp_in (v1 + (2 : Int32)) 24000 ∧ (vp_in (σ33 12 ((v1 + (2 : Int32))).toNatClampNeg) 4100 ∧ (vp_in (σ33 27 (v2).toNatClampNeg) 32 ∧ (∀ σ35 : hg_M, σ35 = hg_set σ33 25 ((σ33 27 (v2).toNatClampNeg)).toNatClampNeg (σ33 27 ((σ33 12 ((v1 + (2 : Int32))).toNatClampNeg)).toNatClampNeg) → bM_X6_doStep_422 P x1 σ35))))))))) ∧ (((σ 12 (v1).toNatClampNeg)).toInt = 16 → P v2 σ) ∧ (((σ 12 (v1).toNatClampNeg)).toInt = 17 → vp_in v2 4100 ∧ ((((σ 27 (v2).toNatClampNeg) ≠ 0 → bM_X6_doStep_329 P (x1 + (1 : Int32)) σ) ∧ ((σ 27 (v2).toNatClampNeg) = 0 → vp_in (v1 + (2 : Int32)) 24000 ∧ (bM_X6_doStep_329 P (σ 12 ((v1 + (2 : Int32))).toNatClampNeg) σ))))) ∧ (((σ 12 (v1).toNatClampNeg)).toInt = 18 → vp_in v2 4100 ∧ (vp_in (σ 0 39) 60 ∧ (∀ σ36 : hg_M, σ36 = hg_set σ 26 ((σ 0 39)).toNatClampNeg (σ 27 (v2).toNatClampNeg) → ∀ σ37 : hg_M, σ37 = hg_set σ36 0 39 ((σ36 0 39) + (1 : Int32)) → bM_X6_doStep_422 P x1 σ37)))))))
set_option maxRecDepth 4000 in
theorem tbM_X6_doStep_422 {d : Nat} {E : hg_Et} {X : hg_X} {P : Int32 → hg_M → Prop}  (hC : hg_C hg_FM 6 (d + 3) E cX6_doStep RX6 X) (hR : hg_Rni hg_FM (some .int) hg_rM P X)  (x1 : Int32) (σ : hg_M) (hw : bM_X6_doStep_422 P x1 σ) : hg_G hg_FM 6 X 422 [(1, .int x1)] [] σ hg_rM := by
  unfold bM_X6_doStep_422 at hw
  refine hg_iload_n hC dX6_doStep_422 rfl 0 rfl (n := 423) rfl ?_
  refine hg_iconst hC dX6_doStep_423 hl_i1 (n := 424) rfl ?_
  refine hg_iadd hC dX6_doStep_424 (n := 425) rfl ?_
  exact hg_reti hC hR dX6_doStep_425 hw
set_option maxRecDepth 4000 in
theorem tbM_X6_doStep_421 {d : Nat} {E : hg_Et} {X : hg_X} {P : Int32 → hg_M → Prop}  (hC : hg_C hg_FM 6 (d + 3) E cX6_doStep RX6 X) (hR : hg_Rni hg_FM (some .int) hg_rM P X)  (x1 : Int32) (t1 : Int32) (t2 : Int32) (σ : hg_M) (hw : bM_X6_doStep_421 P x1 t1 t2 σ) : hg_G hg_FM 6 X 421 [(1, .int x1)] [.int t2, .int t1, .ref (hg_ad X 27)] σ hg_rM := by
  unfold bM_X6_doStep_421 at hw
  obtain ⟨h9, hw⟩ := hw
  refine hg_iast hC dX6_doStep_421 qM_27 kM_27 h9 (n := 422) rfl (fun σ39 eσ39 => ?_)
  have hw := hw σ39 eσ39
  exact tbM_X6_doStep_422 hC hR  x1 σ39 hw
set_option maxRecDepth 4000 in
theorem tbM_X6_doStep_329 {d : Nat} {E : hg_Et} {X : hg_X} {P : Int32 → hg_M → Prop}  (hC : hg_C hg_FM 6 (d + 3) E cX6_doStep RX6 X) (hR : hg_Rni hg_FM (some .int) hg_rM P X)  (t0 : Int32) (σ : hg_M) (hw : bM_X6_doStep_329 P t0 σ) : hg_G hg_FM 6 X 329 [] [.int t0] σ hg_rM := by
  unfold bM_X6_doStep_329 at hw
  exact hg_reti hC hR dX6_doStep_329 hw
set_option maxRecDepth 4000 in
theorem tbM_X6_doStep_209 {d : Nat} {E : hg_Et} {X : hg_X} {P : Int32 → hg_M → Prop}  (hC : hg_C hg_FM 6 (d + 3) E cX6_doStep RX6 X) (hR : hg_Rni hg_FM (some .int) hg_rM P X)  (x1 : Int32) (t1 : Int32) (t2 : Int32) (σ : hg_M) (hw : bM_X6_doStep_209 P x1 t1 t2 σ) : hg_G hg_FM 6 X 209 [(1, .int x1)] [.int t2, .int t1, .ref (hg_ad X 27)] σ hg_rM := by
  unfold bM_X6_doStep_209 at hw
  obtain ⟨h9, hw⟩ := hw
  refine hg_iast hC dX6_doStep_209 qM_27 kM_27 h9 (n := 210) rfl (fun σ38 eσ38 => ?_)
  have hw := hw σ38 eσ38
  refine hg_goto hC dX6_doStep_210 (tg := 422) rfl ?_
  exact tbM_X6_doStep_422 hC hR  x1 σ38 hw
set_option maxRecDepth 4000 in
theorem tM_X6_doStep {E : hg_Et} (hE : hg_Eok E) (l : Launch) (d : Nat) (x1 : Int32) (σ : hg_M) (P : Int32 → hg_M → Prop) (hw : wM_X6_doStep x1 σ P) : hg_Ni hg_FM E l yX6_doStep cX6_doStep 6 (some .int) (d + 3) (fun ad => [.ref (ad 0), .int x1]) hg_rM σ P := by
  refine hg_ni hE (by decide) (fun _ => Nat.le_of_ble_eq_true rfl) (fun X hC hR hl => ?_)
  subst hl
  have hC : hg_C hg_FM 6 (d + 3) E cX6_doStep RX6 X := hC
  show hg_G hg_FM 6 X 0 [(0, .ref (hg_ad X 0)), (1, .int x1)] [] σ hg_rM
  unfold wM_X6_doStep at hw
  refine hg_bipush hC dX6_doStep_0 hl_b6 (n := 2) rfl ?_
  refine hg_iload_n hC dX6_doStep_2 rfl 1 rfl (n := 3) rfl ?_
  refine hg_imul hC dX6_doStep_3 (n := 4) rfl ?_
  refine hg_topi (fun v1 ev1 => ?_)
  have hw := hw v1 ev1
  refine hg_istore_n hC (L1 := [(2, .int v1), (0, .ref (hg_ad X 0)), (1, .int x1)]) dX6_doStep_4 rfl (by decide) rfl (n := 5) rfl ?_
  refine hg_aload_n hC dX6_doStep_5 rfl 1 rfl (n := 6) rfl ?_
  refine hg_getr hC fl_RX6_44 dX6_doStep_6 qM_0 kM_0 fM_6_19 rM_0_19 (n := 9) rfl ?_
  refine hg_iload_n hC dX6_doStep_9 rfl 0 rfl (n := 10) rfl ?_
  refine hg_iconst hC dX6_doStep_10 hl_i1 (n := 11) rfl ?_
  refine hg_iadd hC dX6_doStep_11 (n := 12) rfl ?_
  obtain ⟨h9, hw⟩ := hw
  refine hg_iald hC dX6_doStep_12 qM_12 kM_12 h9 (n := 13) rfl ?_
  refine hg_topi (fun v2 ev2 => ?_)
  have hw := hw v2 ev2
  refine hg_istore_n hC (L1 := [(3, .int v2), (2, .int v1), (0, .ref (hg_ad X 0)), (1, .int x1)]) dX6_doStep_13 rfl (by decide) rfl (n := 14) rfl ?_
  refine hg_aload_n hC dX6_doStep_14 rfl 2 rfl (n := 15) rfl ?_
  refine hg_getr hC fl_RX6_44 dX6_doStep_15 qM_0 kM_0 fM_6_19 rM_0_19 (n := 18) rfl ?_
  refine hg_iload_n hC dX6_doStep_18 rfl 1 rfl (n := 19) rfl ?_
  refine hg_iconst hC dX6_doStep_19 hl_i5 (n := 20) rfl ?_
  refine hg_iadd hC dX6_doStep_20 (n := 21) rfl ?_
  obtain ⟨h9, hw⟩ := hw
  refine hg_iald hC dX6_doStep_21 qM_12 kM_12 h9 (n := 22) rfl ?_
  refine hg_topi (fun v3 ev3 => ?_)
  have hw := hw v3 ev3
  refine hg_istore hC (L1 := [(4, .int v3), (3, .int v2), (2, .int v1), (0, .ref (hg_ad X 0)), (1, .int x1)]) dX6_doStep_22 (by decide) rfl (n := 24) rfl ?_
  refine hg_aload_n hC dX6_doStep_24 rfl 3 rfl (n := 25) rfl ?_
  refine hg_getr hC fl_RX6_44 dX6_doStep_25 qM_0 kM_0 fM_6_19 rM_0_19 (n := 28) rfl ?_
  refine hg_iload_n hC dX6_doStep_28 rfl 2 rfl (n := 29) rfl ?_
  obtain ⟨h9, hw⟩ := hw
  refine hg_iald hC dX6_doStep_29 qM_12 kM_12 h9 (n := 30) rfl ?_
  by_cases hsw : ((σ 12 (v1).toNatClampNeg)).toInt < 0 ∨ 18 < ((σ 12 (v1).toNatClampNeg)).toInt
  · have hw := hw.1 hsw
    refine hg_tout hC dX6_doStep_30 hsw (tg := 358) rfl ?_
    refine hg_aload_n hC dX6_doStep_358 rfl 3 rfl (n := 359) rfl ?_
    refine hg_aload_n hC dX6_doStep_359 rfl 3 rfl (n := 360) rfl ?_
    refine hg_getr hC fl_RX6_44 dX6_doStep_360 qM_0 kM_0 fM_6_19 rM_0_19 (n := 363) rfl ?_
    refine hg_iload_n hC dX6_doStep_363 rfl 2 rfl (n := 364) rfl ?_
    obtain ⟨h9, hw⟩ := hw
    refine hg_iald hC dX6_doStep_364 qM_12 kM_12 h9 (n := 365) rfl ?_
    refine hg_aload_n hC dX6_doStep_365 rfl 3 rfl (n := 366) rfl ?_
    refine hg_getr hC fl_RX6_96 dX6_doStep_366 qM_0 kM_0 fM_6_43 rM_0_43 (n := 369) rfl ?_
    refine hg_aload_n hC dX6_doStep_369 rfl 3 rfl (n := 370) rfl ?_
    refine hg_getr hC fl_RX6_44 dX6_doStep_370 qM_0 kM_0 fM_6_19 rM_0_19 (n := 373) rfl ?_
    refine hg_iload_n hC dX6_doStep_373 rfl 2 rfl (n := 374) rfl ?_
    refine hg_iconst hC dX6_doStep_374 hl_i2 (n := 375) rfl ?_
    refine hg_iadd hC dX6_doStep_375 (n := 376) rfl ?_
    obtain ⟨h9, hw⟩ := hw
    refine hg_iald hC dX6_doStep_376 qM_12 kM_12 h9 (n := 377) rfl ?_
    obtain ⟨h9, hw⟩ := hw
    refine hg_iald hC dX6_doStep_377 qM_27 kM_27 h9 (n := 378) rfl ?_
    refine hg_aload_n hC dX6_doStep_378 rfl 3 rfl (n := 379) rfl ?_
    refine hg_getr hC fl_RX6_96 dX6_doStep_379 qM_0 kM_0 fM_6_43 rM_0_43 (n := 382) rfl ?_
    refine hg_aload_n hC dX6_doStep_382 rfl 3 rfl (n := 383) rfl ?_
    refine hg_getr hC fl_RX6_44 dX6_doStep_383 qM_0 kM_0 fM_6_19 rM_0_19 (n := 386) rfl ?_
    refine hg_iload_n hC dX6_doStep_386 rfl 2 rfl (n := 387) rfl ?_
    refine hg_iconst hC dX6_doStep_387 hl_i3 (n := 388) rfl ?_
    refine hg_iadd hC dX6_doStep_388 (n := 389) rfl ?_
    obtain ⟨h9, hw⟩ := hw
    refine hg_iald hC dX6_doStep_389 qM_12 kM_12 h9 (n := 390) rfl ?_
    obtain ⟨h9, hw⟩ := hw
    refine hg_iald hC dX6_doStep_390 qM_27 kM_27 h9 (n := 391) rfl ?_
    refine hg_iload hC dX6_doStep_391 0 rfl (n := 393) rfl ?_
    refine hg_cVi hC (tM_X6_reach (hg_Eof hC) X.2.1 (d + 0) _ _ _ _ _ _ hw) sv_RX6_297 dX6_doStep_393 qM_0 kM_0 c_6 rfl (rest := []) rfl (Nat.le_of_ble_eq_true rfl) (n := 396) rfl (fun r5 σ4 hw => ?_)
    refine hg_istore hC (L1 := [(5, .int r5), (4, .int v3), (3, .int v2), (2, .int v1), (0, .ref (hg_ad X 0)), (1, .int x1)]) dX6_doStep_396 (by decide) rfl (n := 398) rfl ?_
    refine hg_aload_n hC dX6_doStep_398 rfl 4 rfl (n := 399) rfl ?_
    refine hg_getr hC fl_RX6_96 dX6_doStep_399 qM_0 kM_0 fM_6_43 rM_0_43 (n := 402) rfl ?_
    refine hg_iload_n hC dX6_doStep_402 rfl 2 rfl (n := 403) rfl ?_
    refine hg_aload_n hC dX6_doStep_403 rfl 4 rfl (n := 404) rfl ?_
    refine hg_geti hC fl_RX6_288 dX6_doStep_404 qM_0 kM_0 fM_6_42 (n := 407) rfl ?_
    refine hg_if_ne hC dX6_doStep_407 (tg := 415) rfl (n := 410) rfl (fun h9 => ?_) (fun h9 => ?_)
    · have hw := hw.1 h9
      refine hg_aload_n hC dX6_doStep_415 rfl 4 rfl (n := 416) rfl ?_
      refine hg_getr hC fl_RX6_96 dX6_doStep_416 qM_0 kM_0 fM_6_43 rM_0_43 (n := 419) rfl ?_
      refine hg_iload_n hC dX6_doStep_419 rfl 2 rfl (n := 420) rfl ?_
      obtain ⟨h9, hw⟩ := hw
      refine hg_iald hC dX6_doStep_420 qM_27 kM_27 h9 (n := 421) rfl ?_
      exact hg_sub [5] rfl (tbM_X6_doStep_421 hC hR  x1 v2 (σ4 27 (v2).toNatClampNeg) σ4 hw)
    · have hw := hw.2 h9
      refine hg_iload hC dX6_doStep_410 0 rfl (n := 412) rfl ?_
      refine hg_goto hC dX6_doStep_412 (tg := 421) rfl ?_
      exact hg_sub [5] rfl (tbM_X6_doStep_421 hC hR  x1 v2 r5 σ4 hw)
  · rcases (show ((σ 12 (v1).toNatClampNeg)).toInt = 0 ∨ ((σ 12 (v1).toNatClampNeg)).toInt = 1 ∨ ((σ 12 (v1).toNatClampNeg)).toInt = 2 ∨ ((σ 12 (v1).toNatClampNeg)).toInt = 3 ∨ ((σ 12 (v1).toNatClampNeg)).toInt = 4 ∨ ((σ 12 (v1).toNatClampNeg)).toInt = 5 ∨ ((σ 12 (v1).toNatClampNeg)).toInt = 6 ∨ ((σ 12 (v1).toNatClampNeg)).toInt = 7 ∨ ((σ 12 (v1).toNatClampNeg)).toInt = 8 ∨ ((σ 12 (v1).toNatClampNeg)).toInt = 9 ∨ ((σ 12 (v1).toNatClampNeg)).toInt = 10 ∨ ((σ 12 (v1).toNatClampNeg)).toInt = 11 ∨ ((σ 12 (v1).toNatClampNeg)).toInt = 12 ∨ ((σ 12 (v1).toNatClampNeg)).toInt = 13 ∨ ((σ 12 (v1).toNatClampNeg)).toInt = 14 ∨ ((σ 12 (v1).toNatClampNeg)).toInt = 15 ∨ ((σ 12 (v1).toNatClampNeg)).toInt = 16 ∨ ((σ 12 (v1).toNatClampNeg)).toInt = 17 ∨ ((σ 12 (v1).toNatClampNeg)).toInt = 18 by omega) with hsx | hsx | hsx | hsx | hsx | hsx | hsx | hsx | hsx | hsx | hsx | hsx | hsx | hsx | hsx | hsx | hsx | hsx | hsx
    · have hw := hw.2.1 hsx
      refine hg_tin hC dX6_doStep_30 hsx (by decide) (by decide) (by rfl) (tg := 120) rfl ?_
      refine hg_aload_n hC dX6_doStep_120 rfl 3 rfl (n := 121) rfl ?_
      refine hg_getr hC fl_RX6_96 dX6_doStep_121 qM_0 kM_0 fM_6_43 rM_0_43 (n := 124) rfl ?_
      refine hg_iload_n hC dX6_doStep_124 rfl 1 rfl (n := 125) rfl ?_
      refine hg_aload_n hC dX6_doStep_125 rfl 3 rfl (n := 126) rfl ?_
      refine hg_getr hC fl_RX6_44 dX6_doStep_126 qM_0 kM_0 fM_6_19 rM_0_19 (n := 129) rfl ?_
      refine hg_iload_n hC dX6_doStep_129 rfl 2 rfl (n := 130) rfl ?_
      refine hg_iconst hC dX6_doStep_130 hl_i2 (n := 131) rfl ?_
      refine hg_iadd hC dX6_doStep_131 (n := 132) rfl ?_
      obtain ⟨h9, hw⟩ := hw
      refine hg_iald hC dX6_doStep_132 qM_12 kM_12 h9 (n := 133) rfl ?_
      obtain ⟨h9, hw⟩ := hw
      refine hg_iast hC dX6_doStep_133 qM_27 kM_27 h9 (n := 134) rfl (fun σ6 eσ6 => ?_)
      have hw := hw σ6 eσ6
      refine hg_goto hC dX6_doStep_134 (tg := 422) rfl ?_
      exact hg_sub [4] rfl (tbM_X6_doStep_422 hC hR  x1 σ6 hw)
    · have hw := hw.2.2.1 hsx
      refine hg_tin hC dX6_doStep_30 hsx (by decide) (by decide) (by rfl) (tg := 137) rfl ?_
      refine hg_aload_n hC dX6_doStep_137 rfl 3 rfl (n := 138) rfl ?_
      refine hg_getr hC fl_RX6_96 dX6_doStep_138 qM_0 kM_0 fM_6_43 rM_0_43 (n := 141) rfl ?_
      refine hg_iload_n hC dX6_doStep_141 rfl 1 rfl (n := 142) rfl ?_
      refine hg_aload_n hC dX6_doStep_142 rfl 3 rfl (n := 143) rfl ?_
      refine hg_getr hC fl_RX6_96 dX6_doStep_143 qM_0 kM_0 fM_6_43 rM_0_43 (n := 146) rfl ?_
      refine hg_aload_n hC dX6_doStep_146 rfl 3 rfl (n := 147) rfl ?_
      refine hg_getr hC fl_RX6_44 dX6_doStep_147 qM_0 kM_0 fM_6_19 rM_0_19 (n := 150) rfl ?_
      refine hg_iload_n hC dX6_doStep_150 rfl 2 rfl (n := 151) rfl ?_
      refine hg_iconst hC dX6_doStep_151 hl_i2 (n := 152) rfl ?_
      refine hg_iadd hC dX6_doStep_152 (n := 153) rfl ?_
      obtain ⟨h9, hw⟩ := hw
      refine hg_iald hC dX6_doStep_153 qM_12 kM_12 h9 (n := 154) rfl ?_
      obtain ⟨h9, hw⟩ := hw
      refine hg_iald hC dX6_doStep_154 qM_27 kM_27 h9 (n := 155) rfl ?_
      obtain ⟨h9, hw⟩ := hw
      refine hg_iast hC dX6_doStep_155 qM_27 kM_27 h9 (n := 156) rfl (fun σ7 eσ7 => ?_)
      have hw := hw σ7 eσ7
      refine hg_goto hC dX6_doStep_156 (tg := 422) rfl ?_
      exact hg_sub [4] rfl (tbM_X6_doStep_422 hC hR  x1 σ7 hw)
    · have hw := hw.2.2.2.1 hsx
      refine hg_tin hC dX6_doStep_30 hsx (by decide) (by decide) (by rfl) (tg := 358) rfl ?_
      refine hg_aload_n hC dX6_doStep_358 rfl 3 rfl (n := 359) rfl ?_
      refine hg_aload_n hC dX6_doStep_359 rfl 3 rfl (n := 360) rfl ?_
      refine hg_getr hC fl_RX6_44 dX6_doStep_360 qM_0 kM_0 fM_6_19 rM_0_19 (n := 363) rfl ?_
      refine hg_iload_n hC dX6_doStep_363 rfl 2 rfl (n := 364) rfl ?_
      obtain ⟨h9, hw⟩ := hw
      refine hg_iald hC dX6_doStep_364 qM_12 kM_12 h9 (n := 365) rfl ?_
      refine hg_aload_n hC dX6_doStep_365 rfl 3 rfl (n := 366) rfl ?_
      refine hg_getr hC fl_RX6_96 dX6_doStep_366 qM_0 kM_0 fM_6_43 rM_0_43 (n := 369) rfl ?_
      refine hg_aload_n hC dX6_doStep_369 rfl 3 rfl (n := 370) rfl ?_
      refine hg_getr hC fl_RX6_44 dX6_doStep_370 qM_0 kM_0 fM_6_19 rM_0_19 (n := 373) rfl ?_
      refine hg_iload_n hC dX6_doStep_373 rfl 2 rfl (n := 374) rfl ?_
      refine hg_iconst hC dX6_doStep_374 hl_i2 (n := 375) rfl ?_
      refine hg_iadd hC dX6_doStep_375 (n := 376) rfl ?_
      obtain ⟨h9, hw⟩ := hw
      refine hg_iald hC dX6_doStep_376 qM_12 kM_12 h9 (n := 377) rfl ?_
      obtain ⟨h9, hw⟩ := hw
      refine hg_iald hC dX6_doStep_377 qM_27 kM_27 h9 (n := 378) rfl ?_
      refine hg_aload_n hC dX6_doStep_378 rfl 3 rfl (n := 379) rfl ?_
      refine hg_getr hC fl_RX6_96 dX6_doStep_379 qM_0 kM_0 fM_6_43 rM_0_43 (n := 382) rfl ?_
      refine hg_aload_n hC dX6_doStep_382 rfl 3 rfl (n := 383) rfl ?_
      refine hg_getr hC fl_RX6_44 dX6_doStep_383 qM_0 kM_0 fM_6_19 rM_0_19 (n := 386) rfl ?_
      refine hg_iload_n hC dX6_doStep_386 rfl 2 rfl (n := 387) rfl ?_
      refine hg_iconst hC dX6_doStep_387 hl_i3 (n := 388) rfl ?_
      refine hg_iadd hC dX6_doStep_388 (n := 389) rfl ?_
      obtain ⟨h9, hw⟩ := hw
      refine hg_iald hC dX6_doStep_389 qM_12 kM_12 h9 (n := 390) rfl ?_
      obtain ⟨h9, hw⟩ := hw
      refine hg_iald hC dX6_doStep_390 qM_27 kM_27 h9 (n := 391) rfl ?_
      refine hg_iload hC dX6_doStep_391 0 rfl (n := 393) rfl ?_
      refine hg_cVi hC (tM_X6_reach (hg_Eof hC) X.2.1 (d + 0) _ _ _ _ _ _ hw) sv_RX6_297 dX6_doStep_393 qM_0 kM_0 c_6 rfl (rest := []) rfl (Nat.le_of_ble_eq_true rfl) (n := 396) rfl (fun r9 σ8 hw => ?_)
      refine hg_istore hC (L1 := [(5, .int r9), (4, .int v3), (3, .int v2), (2, .int v1), (0, .ref (hg_ad X 0)), (1, .int x1)]) dX6_doStep_396 (by decide) rfl (n := 398) rfl ?_
      refine hg_aload_n hC dX6_doStep_398 rfl 4 rfl (n := 399) rfl ?_
      refine hg_getr hC fl_RX6_96 dX6_doStep_399 qM_0 kM_0 fM_6_43 rM_0_43 (n := 402) rfl ?_
      refine hg_iload_n hC dX6_doStep_402 rfl 2 rfl (n := 403) rfl ?_
      refine hg_aload_n hC dX6_doStep_403 rfl 4 rfl (n := 404) rfl ?_
      refine hg_geti hC fl_RX6_288 dX6_doStep_404 qM_0 kM_0 fM_6_42 (n := 407) rfl ?_
      refine hg_if_ne hC dX6_doStep_407 (tg := 415) rfl (n := 410) rfl (fun h9 => ?_) (fun h9 => ?_)
      · have hw := hw.1 h9
        refine hg_aload_n hC dX6_doStep_415 rfl 4 rfl (n := 416) rfl ?_
        refine hg_getr hC fl_RX6_96 dX6_doStep_416 qM_0 kM_0 fM_6_43 rM_0_43 (n := 419) rfl ?_
        refine hg_iload_n hC dX6_doStep_419 rfl 2 rfl (n := 420) rfl ?_
        obtain ⟨h9, hw⟩ := hw
        refine hg_iald hC dX6_doStep_420 qM_27 kM_27 h9 (n := 421) rfl ?_
        exact hg_sub [5] rfl (tbM_X6_doStep_421 hC hR  x1 v2 (σ8 27 (v2).toNatClampNeg) σ8 hw)
      · have hw := hw.2 h9
        refine hg_iload hC dX6_doStep_410 0 rfl (n := 412) rfl ?_
        refine hg_goto hC dX6_doStep_412 (tg := 421) rfl ?_
        exact hg_sub [5] rfl (tbM_X6_doStep_421 hC hR  x1 v2 r9 σ8 hw)
    · have hw := hw.2.2.2.2.1 hsx
      refine hg_tin hC dX6_doStep_30 hsx (by decide) (by decide) (by rfl) (tg := 358) rfl ?_
      refine hg_aload_n hC dX6_doStep_358 rfl 3 rfl (n := 359) rfl ?_
      refine hg_aload_n hC dX6_doStep_359 rfl 3 rfl (n := 360) rfl ?_
      refine hg_getr hC fl_RX6_44 dX6_doStep_360 qM_0 kM_0 fM_6_19 rM_0_19 (n := 363) rfl ?_
      refine hg_iload_n hC dX6_doStep_363 rfl 2 rfl (n := 364) rfl ?_
      obtain ⟨h9, hw⟩ := hw
      refine hg_iald hC dX6_doStep_364 qM_12 kM_12 h9 (n := 365) rfl ?_
      refine hg_aload_n hC dX6_doStep_365 rfl 3 rfl (n := 366) rfl ?_
      refine hg_getr hC fl_RX6_96 dX6_doStep_366 qM_0 kM_0 fM_6_43 rM_0_43 (n := 369) rfl ?_
      refine hg_aload_n hC dX6_doStep_369 rfl 3 rfl (n := 370) rfl ?_
      refine hg_getr hC fl_RX6_44 dX6_doStep_370 qM_0 kM_0 fM_6_19 rM_0_19 (n := 373) rfl ?_
      refine hg_iload_n hC dX6_doStep_373 rfl 2 rfl (n := 374) rfl ?_
      refine hg_iconst hC dX6_doStep_374 hl_i2 (n := 375) rfl ?_
      refine hg_iadd hC dX6_doStep_375 (n := 376) rfl ?_
      obtain ⟨h9, hw⟩ := hw
      refine hg_iald hC dX6_doStep_376 qM_12 kM_12 h9 (n := 377) rfl ?_
      obtain ⟨h9, hw⟩ := hw
      refine hg_iald hC dX6_doStep_377 qM_27 kM_27 h9 (n := 378) rfl ?_
      refine hg_aload_n hC dX6_doStep_378 rfl 3 rfl (n := 379) rfl ?_
      refine hg_getr hC fl_RX6_96 dX6_doStep_379 qM_0 kM_0 fM_6_43 rM_0_43 (n := 382) rfl ?_
      refine hg_aload_n hC dX6_doStep_382 rfl 3 rfl (n := 383) rfl ?_
      refine hg_getr hC fl_RX6_44 dX6_doStep_383 qM_0 kM_0 fM_6_19 rM_0_19 (n := 386) rfl ?_
      refine hg_iload_n hC dX6_doStep_386 rfl 2 rfl (n := 387) rfl ?_
      refine hg_iconst hC dX6_doStep_387 hl_i3 (n := 388) rfl ?_
      refine hg_iadd hC dX6_doStep_388 (n := 389) rfl ?_
      obtain ⟨h9, hw⟩ := hw
      refine hg_iald hC dX6_doStep_389 qM_12 kM_12 h9 (n := 390) rfl ?_
      obtain ⟨h9, hw⟩ := hw
      refine hg_iald hC dX6_doStep_390 qM_27 kM_27 h9 (n := 391) rfl ?_
      refine hg_iload hC dX6_doStep_391 0 rfl (n := 393) rfl ?_
      refine hg_cVi hC (tM_X6_reach (hg_Eof hC) X.2.1 (d + 0) _ _ _ _ _ _ hw) sv_RX6_297 dX6_doStep_393 qM_0 kM_0 c_6 rfl (rest := []) rfl (Nat.le_of_ble_eq_true rfl) (n := 396) rfl (fun r11 σ10 hw => ?_)
      refine hg_istore hC (L1 := [(5, .int r11), (4, .int v3), (3, .int v2), (2, .int v1), (0, .ref (hg_ad X 0)), (1, .int x1)]) dX6_doStep_396 (by decide) rfl (n := 398) rfl ?_
      refine hg_aload_n hC dX6_doStep_398 rfl 4 rfl (n := 399) rfl ?_
      refine hg_getr hC fl_RX6_96 dX6_doStep_399 qM_0 kM_0 fM_6_43 rM_0_43 (n := 402) rfl ?_
      refine hg_iload_n hC dX6_doStep_402 rfl 2 rfl (n := 403) rfl ?_
      refine hg_aload_n hC dX6_doStep_403 rfl 4 rfl (n := 404) rfl ?_
      refine hg_geti hC fl_RX6_288 dX6_doStep_404 qM_0 kM_0 fM_6_42 (n := 407) rfl ?_
      refine hg_if_ne hC dX6_doStep_407 (tg := 415) rfl (n := 410) rfl (fun h9 => ?_) (fun h9 => ?_)
      · have hw := hw.1 h9
        refine hg_aload_n hC dX6_doStep_415 rfl 4 rfl (n := 416) rfl ?_
        refine hg_getr hC fl_RX6_96 dX6_doStep_416 qM_0 kM_0 fM_6_43 rM_0_43 (n := 419) rfl ?_
        refine hg_iload_n hC dX6_doStep_419 rfl 2 rfl (n := 420) rfl ?_
        obtain ⟨h9, hw⟩ := hw
        refine hg_iald hC dX6_doStep_420 qM_27 kM_27 h9 (n := 421) rfl ?_
        exact hg_sub [5] rfl (tbM_X6_doStep_421 hC hR  x1 v2 (σ10 27 (v2).toNatClampNeg) σ10 hw)
      · have hw := hw.2 h9
        refine hg_iload hC dX6_doStep_410 0 rfl (n := 412) rfl ?_
        refine hg_goto hC dX6_doStep_412 (tg := 421) rfl ?_
        exact hg_sub [5] rfl (tbM_X6_doStep_421 hC hR  x1 v2 r11 σ10 hw)
    · have hw := hw.2.2.2.2.2.1 hsx
      refine hg_tin hC dX6_doStep_30 hsx (by decide) (by decide) (by rfl) (tg := 358) rfl ?_
      refine hg_aload_n hC dX6_doStep_358 rfl 3 rfl (n := 359) rfl ?_
      refine hg_aload_n hC dX6_doStep_359 rfl 3 rfl (n := 360) rfl ?_
      refine hg_getr hC fl_RX6_44 dX6_doStep_360 qM_0 kM_0 fM_6_19 rM_0_19 (n := 363) rfl ?_
      refine hg_iload_n hC dX6_doStep_363 rfl 2 rfl (n := 364) rfl ?_
      obtain ⟨h9, hw⟩ := hw
      refine hg_iald hC dX6_doStep_364 qM_12 kM_12 h9 (n := 365) rfl ?_
      refine hg_aload_n hC dX6_doStep_365 rfl 3 rfl (n := 366) rfl ?_
      refine hg_getr hC fl_RX6_96 dX6_doStep_366 qM_0 kM_0 fM_6_43 rM_0_43 (n := 369) rfl ?_
      refine hg_aload_n hC dX6_doStep_369 rfl 3 rfl (n := 370) rfl ?_
      refine hg_getr hC fl_RX6_44 dX6_doStep_370 qM_0 kM_0 fM_6_19 rM_0_19 (n := 373) rfl ?_
      refine hg_iload_n hC dX6_doStep_373 rfl 2 rfl (n := 374) rfl ?_
      refine hg_iconst hC dX6_doStep_374 hl_i2 (n := 375) rfl ?_
      refine hg_iadd hC dX6_doStep_375 (n := 376) rfl ?_
      obtain ⟨h9, hw⟩ := hw
      refine hg_iald hC dX6_doStep_376 qM_12 kM_12 h9 (n := 377) rfl ?_
      obtain ⟨h9, hw⟩ := hw
      refine hg_iald hC dX6_doStep_377 qM_27 kM_27 h9 (n := 378) rfl ?_
      refine hg_aload_n hC dX6_doStep_378 rfl 3 rfl (n := 379) rfl ?_
      refine hg_getr hC fl_RX6_96 dX6_doStep_379 qM_0 kM_0 fM_6_43 rM_0_43 (n := 382) rfl ?_
      refine hg_aload_n hC dX6_doStep_382 rfl 3 rfl (n := 383) rfl ?_
      refine hg_getr hC fl_RX6_44 dX6_doStep_383 qM_0 kM_0 fM_6_19 rM_0_19 (n := 386) rfl ?_
      refine hg_iload_n hC dX6_doStep_386 rfl 2 rfl (n := 387) rfl ?_
      refine hg_iconst hC dX6_doStep_387 hl_i3 (n := 388) rfl ?_
      refine hg_iadd hC dX6_doStep_388 (n := 389) rfl ?_
      obtain ⟨h9, hw⟩ := hw
      refine hg_iald hC dX6_doStep_389 qM_12 kM_12 h9 (n := 390) rfl ?_
      obtain ⟨h9, hw⟩ := hw
      refine hg_iald hC dX6_doStep_390 qM_27 kM_27 h9 (n := 391) rfl ?_
      refine hg_iload hC dX6_doStep_391 0 rfl (n := 393) rfl ?_
      refine hg_cVi hC (tM_X6_reach (hg_Eof hC) X.2.1 (d + 0) _ _ _ _ _ _ hw) sv_RX6_297 dX6_doStep_393 qM_0 kM_0 c_6 rfl (rest := []) rfl (Nat.le_of_ble_eq_true rfl) (n := 396) rfl (fun r13 σ12 hw => ?_)
      refine hg_istore hC (L1 := [(5, .int r13), (4, .int v3), (3, .int v2), (2, .int v1), (0, .ref (hg_ad X 0)), (1, .int x1)]) dX6_doStep_396 (by decide) rfl (n := 398) rfl ?_
      refine hg_aload_n hC dX6_doStep_398 rfl 4 rfl (n := 399) rfl ?_
      refine hg_getr hC fl_RX6_96 dX6_doStep_399 qM_0 kM_0 fM_6_43 rM_0_43 (n := 402) rfl ?_
      refine hg_iload_n hC dX6_doStep_402 rfl 2 rfl (n := 403) rfl ?_
      refine hg_aload_n hC dX6_doStep_403 rfl 4 rfl (n := 404) rfl ?_
      refine hg_geti hC fl_RX6_288 dX6_doStep_404 qM_0 kM_0 fM_6_42 (n := 407) rfl ?_
      refine hg_if_ne hC dX6_doStep_407 (tg := 415) rfl (n := 410) rfl (fun h9 => ?_) (fun h9 => ?_)
      · have hw := hw.1 h9
        refine hg_aload_n hC dX6_doStep_415 rfl 4 rfl (n := 416) rfl ?_
        refine hg_getr hC fl_RX6_96 dX6_doStep_416 qM_0 kM_0 fM_6_43 rM_0_43 (n := 419) rfl ?_
        refine hg_iload_n hC dX6_doStep_419 rfl 2 rfl (n := 420) rfl ?_
        obtain ⟨h9, hw⟩ := hw
        refine hg_iald hC dX6_doStep_420 qM_27 kM_27 h9 (n := 421) rfl ?_
        exact hg_sub [5] rfl (tbM_X6_doStep_421 hC hR  x1 v2 (σ12 27 (v2).toNatClampNeg) σ12 hw)
      · have hw := hw.2 h9
        refine hg_iload hC dX6_doStep_410 0 rfl (n := 412) rfl ?_
        refine hg_goto hC dX6_doStep_412 (tg := 421) rfl ?_
        exact hg_sub [5] rfl (tbM_X6_doStep_421 hC hR  x1 v2 r13 σ12 hw)
    · have hw := hw.2.2.2.2.2.2.1 hsx
      refine hg_tin hC dX6_doStep_30 hsx (by decide) (by decide) (by rfl) (tg := 358) rfl ?_
      refine hg_aload_n hC dX6_doStep_358 rfl 3 rfl (n := 359) rfl ?_
      refine hg_aload_n hC dX6_doStep_359 rfl 3 rfl (n := 360) rfl ?_
      refine hg_getr hC fl_RX6_44 dX6_doStep_360 qM_0 kM_0 fM_6_19 rM_0_19 (n := 363) rfl ?_
      refine hg_iload_n hC dX6_doStep_363 rfl 2 rfl (n := 364) rfl ?_
      obtain ⟨h9, hw⟩ := hw
      refine hg_iald hC dX6_doStep_364 qM_12 kM_12 h9 (n := 365) rfl ?_
      refine hg_aload_n hC dX6_doStep_365 rfl 3 rfl (n := 366) rfl ?_
      refine hg_getr hC fl_RX6_96 dX6_doStep_366 qM_0 kM_0 fM_6_43 rM_0_43 (n := 369) rfl ?_
      refine hg_aload_n hC dX6_doStep_369 rfl 3 rfl (n := 370) rfl ?_
      refine hg_getr hC fl_RX6_44 dX6_doStep_370 qM_0 kM_0 fM_6_19 rM_0_19 (n := 373) rfl ?_
      refine hg_iload_n hC dX6_doStep_373 rfl 2 rfl (n := 374) rfl ?_
      refine hg_iconst hC dX6_doStep_374 hl_i2 (n := 375) rfl ?_
      refine hg_iadd hC dX6_doStep_375 (n := 376) rfl ?_
      obtain ⟨h9, hw⟩ := hw
      refine hg_iald hC dX6_doStep_376 qM_12 kM_12 h9 (n := 377) rfl ?_
      obtain ⟨h9, hw⟩ := hw
      refine hg_iald hC dX6_doStep_377 qM_27 kM_27 h9 (n := 378) rfl ?_
      refine hg_aload_n hC dX6_doStep_378 rfl 3 rfl (n := 379) rfl ?_
      refine hg_getr hC fl_RX6_96 dX6_doStep_379 qM_0 kM_0 fM_6_43 rM_0_43 (n := 382) rfl ?_
      refine hg_aload_n hC dX6_doStep_382 rfl 3 rfl (n := 383) rfl ?_
      refine hg_getr hC fl_RX6_44 dX6_doStep_383 qM_0 kM_0 fM_6_19 rM_0_19 (n := 386) rfl ?_
      refine hg_iload_n hC dX6_doStep_386 rfl 2 rfl (n := 387) rfl ?_
      refine hg_iconst hC dX6_doStep_387 hl_i3 (n := 388) rfl ?_
      refine hg_iadd hC dX6_doStep_388 (n := 389) rfl ?_
      obtain ⟨h9, hw⟩ := hw
      refine hg_iald hC dX6_doStep_389 qM_12 kM_12 h9 (n := 390) rfl ?_
      obtain ⟨h9, hw⟩ := hw
      refine hg_iald hC dX6_doStep_390 qM_27 kM_27 h9 (n := 391) rfl ?_
      refine hg_iload hC dX6_doStep_391 0 rfl (n := 393) rfl ?_
      refine hg_cVi hC (tM_X6_reach (hg_Eof hC) X.2.1 (d + 0) _ _ _ _ _ _ hw) sv_RX6_297 dX6_doStep_393 qM_0 kM_0 c_6 rfl (rest := []) rfl (Nat.le_of_ble_eq_true rfl) (n := 396) rfl (fun r15 σ14 hw => ?_)
      refine hg_istore hC (L1 := [(5, .int r15), (4, .int v3), (3, .int v2), (2, .int v1), (0, .ref (hg_ad X 0)), (1, .int x1)]) dX6_doStep_396 (by decide) rfl (n := 398) rfl ?_
      refine hg_aload_n hC dX6_doStep_398 rfl 4 rfl (n := 399) rfl ?_
      refine hg_getr hC fl_RX6_96 dX6_doStep_399 qM_0 kM_0 fM_6_43 rM_0_43 (n := 402) rfl ?_
      refine hg_iload_n hC dX6_doStep_402 rfl 2 rfl (n := 403) rfl ?_
      refine hg_aload_n hC dX6_doStep_403 rfl 4 rfl (n := 404) rfl ?_
      refine hg_geti hC fl_RX6_288 dX6_doStep_404 qM_0 kM_0 fM_6_42 (n := 407) rfl ?_
      refine hg_if_ne hC dX6_doStep_407 (tg := 415) rfl (n := 410) rfl (fun h9 => ?_) (fun h9 => ?_)
      · have hw := hw.1 h9
        refine hg_aload_n hC dX6_doStep_415 rfl 4 rfl (n := 416) rfl ?_
        refine hg_getr hC fl_RX6_96 dX6_doStep_416 qM_0 kM_0 fM_6_43 rM_0_43 (n := 419) rfl ?_
        refine hg_iload_n hC dX6_doStep_419 rfl 2 rfl (n := 420) rfl ?_
        obtain ⟨h9, hw⟩ := hw
        refine hg_iald hC dX6_doStep_420 qM_27 kM_27 h9 (n := 421) rfl ?_
        exact hg_sub [5] rfl (tbM_X6_doStep_421 hC hR  x1 v2 (σ14 27 (v2).toNatClampNeg) σ14 hw)
      · have hw := hw.2 h9
        refine hg_iload hC dX6_doStep_410 0 rfl (n := 412) rfl ?_
        refine hg_goto hC dX6_doStep_412 (tg := 421) rfl ?_
        exact hg_sub [5] rfl (tbM_X6_doStep_421 hC hR  x1 v2 r15 σ14 hw)
    · have hw := hw.2.2.2.2.2.2.2.1 hsx
      refine hg_tin hC dX6_doStep_30 hsx (by decide) (by decide) (by rfl) (tg := 358) rfl ?_
      refine hg_aload_n hC dX6_doStep_358 rfl 3 rfl (n := 359) rfl ?_
      refine hg_aload_n hC dX6_doStep_359 rfl 3 rfl (n := 360) rfl ?_
      refine hg_getr hC fl_RX6_44 dX6_doStep_360 qM_0 kM_0 fM_6_19 rM_0_19 (n := 363) rfl ?_
      refine hg_iload_n hC dX6_doStep_363 rfl 2 rfl (n := 364) rfl ?_
      obtain ⟨h9, hw⟩ := hw
      refine hg_iald hC dX6_doStep_364 qM_12 kM_12 h9 (n := 365) rfl ?_
      refine hg_aload_n hC dX6_doStep_365 rfl 3 rfl (n := 366) rfl ?_
      refine hg_getr hC fl_RX6_96 dX6_doStep_366 qM_0 kM_0 fM_6_43 rM_0_43 (n := 369) rfl ?_
      refine hg_aload_n hC dX6_doStep_369 rfl 3 rfl (n := 370) rfl ?_
      refine hg_getr hC fl_RX6_44 dX6_doStep_370 qM_0 kM_0 fM_6_19 rM_0_19 (n := 373) rfl ?_
      refine hg_iload_n hC dX6_doStep_373 rfl 2 rfl (n := 374) rfl ?_
      refine hg_iconst hC dX6_doStep_374 hl_i2 (n := 375) rfl ?_
      refine hg_iadd hC dX6_doStep_375 (n := 376) rfl ?_
      obtain ⟨h9, hw⟩ := hw
      refine hg_iald hC dX6_doStep_376 qM_12 kM_12 h9 (n := 377) rfl ?_
      obtain ⟨h9, hw⟩ := hw
      refine hg_iald hC dX6_doStep_377 qM_27 kM_27 h9 (n := 378) rfl ?_
      refine hg_aload_n hC dX6_doStep_378 rfl 3 rfl (n := 379) rfl ?_
      refine hg_getr hC fl_RX6_96 dX6_doStep_379 qM_0 kM_0 fM_6_43 rM_0_43 (n := 382) rfl ?_
      refine hg_aload_n hC dX6_doStep_382 rfl 3 rfl (n := 383) rfl ?_
      refine hg_getr hC fl_RX6_44 dX6_doStep_383 qM_0 kM_0 fM_6_19 rM_0_19 (n := 386) rfl ?_
      refine hg_iload_n hC dX6_doStep_386 rfl 2 rfl (n := 387) rfl ?_
      refine hg_iconst hC dX6_doStep_387 hl_i3 (n := 388) rfl ?_
      refine hg_iadd hC dX6_doStep_388 (n := 389) rfl ?_
      obtain ⟨h9, hw⟩ := hw
      refine hg_iald hC dX6_doStep_389 qM_12 kM_12 h9 (n := 390) rfl ?_
      obtain ⟨h9, hw⟩ := hw
      refine hg_iald hC dX6_doStep_390 qM_27 kM_27 h9 (n := 391) rfl ?_
      refine hg_iload hC dX6_doStep_391 0 rfl (n := 393) rfl ?_
      refine hg_cVi hC (tM_X6_reach (hg_Eof hC) X.2.1 (d + 0) _ _ _ _ _ _ hw) sv_RX6_297 dX6_doStep_393 qM_0 kM_0 c_6 rfl (rest := []) rfl (Nat.le_of_ble_eq_true rfl) (n := 396) rfl (fun r17 σ16 hw => ?_)
      refine hg_istore hC (L1 := [(5, .int r17), (4, .int v3), (3, .int v2), (2, .int v1), (0, .ref (hg_ad X 0)), (1, .int x1)]) dX6_doStep_396 (by decide) rfl (n := 398) rfl ?_
      refine hg_aload_n hC dX6_doStep_398 rfl 4 rfl (n := 399) rfl ?_
      refine hg_getr hC fl_RX6_96 dX6_doStep_399 qM_0 kM_0 fM_6_43 rM_0_43 (n := 402) rfl ?_
      refine hg_iload_n hC dX6_doStep_402 rfl 2 rfl (n := 403) rfl ?_
      refine hg_aload_n hC dX6_doStep_403 rfl 4 rfl (n := 404) rfl ?_
      refine hg_geti hC fl_RX6_288 dX6_doStep_404 qM_0 kM_0 fM_6_42 (n := 407) rfl ?_
      refine hg_if_ne hC dX6_doStep_407 (tg := 415) rfl (n := 410) rfl (fun h9 => ?_) (fun h9 => ?_)
      · have hw := hw.1 h9
        refine hg_aload_n hC dX6_doStep_415 rfl 4 rfl (n := 416) rfl ?_
        refine hg_getr hC fl_RX6_96 dX6_doStep_416 qM_0 kM_0 fM_6_43 rM_0_43 (n := 419) rfl ?_
        refine hg_iload_n hC dX6_doStep_419 rfl 2 rfl (n := 420) rfl ?_
        obtain ⟨h9, hw⟩ := hw
        refine hg_iald hC dX6_doStep_420 qM_27 kM_27 h9 (n := 421) rfl ?_
        exact hg_sub [5] rfl (tbM_X6_doStep_421 hC hR  x1 v2 (σ16 27 (v2).toNatClampNeg) σ16 hw)
      · have hw := hw.2 h9
        refine hg_iload hC dX6_doStep_410 0 rfl (n := 412) rfl ?_
        refine hg_goto hC dX6_doStep_412 (tg := 421) rfl ?_
        exact hg_sub [5] rfl (tbM_X6_doStep_421 hC hR  x1 v2 r17 σ16 hw)
    · have hw := hw.2.2.2.2.2.2.2.2.1 hsx
      refine hg_tin hC dX6_doStep_30 hsx (by decide) (by decide) (by rfl) (tg := 358) rfl ?_
      refine hg_aload_n hC dX6_doStep_358 rfl 3 rfl (n := 359) rfl ?_
      refine hg_aload_n hC dX6_doStep_359 rfl 3 rfl (n := 360) rfl ?_
      refine hg_getr hC fl_RX6_44 dX6_doStep_360 qM_0 kM_0 fM_6_19 rM_0_19 (n := 363) rfl ?_
      refine hg_iload_n hC dX6_doStep_363 rfl 2 rfl (n := 364) rfl ?_
      obtain ⟨h9, hw⟩ := hw
      refine hg_iald hC dX6_doStep_364 qM_12 kM_12 h9 (n := 365) rfl ?_
      refine hg_aload_n hC dX6_doStep_365 rfl 3 rfl (n := 366) rfl ?_
      refine hg_getr hC fl_RX6_96 dX6_doStep_366 qM_0 kM_0 fM_6_43 rM_0_43 (n := 369) rfl ?_
      refine hg_aload_n hC dX6_doStep_369 rfl 3 rfl (n := 370) rfl ?_
      refine hg_getr hC fl_RX6_44 dX6_doStep_370 qM_0 kM_0 fM_6_19 rM_0_19 (n := 373) rfl ?_
      refine hg_iload_n hC dX6_doStep_373 rfl 2 rfl (n := 374) rfl ?_
      refine hg_iconst hC dX6_doStep_374 hl_i2 (n := 375) rfl ?_
      refine hg_iadd hC dX6_doStep_375 (n := 376) rfl ?_
      obtain ⟨h9, hw⟩ := hw
      refine hg_iald hC dX6_doStep_376 qM_12 kM_12 h9 (n := 377) rfl ?_
      obtain ⟨h9, hw⟩ := hw
      refine hg_iald hC dX6_doStep_377 qM_27 kM_27 h9 (n := 378) rfl ?_
      refine hg_aload_n hC dX6_doStep_378 rfl 3 rfl (n := 379) rfl ?_
      refine hg_getr hC fl_RX6_96 dX6_doStep_379 qM_0 kM_0 fM_6_43 rM_0_43 (n := 382) rfl ?_
      refine hg_aload_n hC dX6_doStep_382 rfl 3 rfl (n := 383) rfl ?_
      refine hg_getr hC fl_RX6_44 dX6_doStep_383 qM_0 kM_0 fM_6_19 rM_0_19 (n := 386) rfl ?_
      refine hg_iload_n hC dX6_doStep_386 rfl 2 rfl (n := 387) rfl ?_
      refine hg_iconst hC dX6_doStep_387 hl_i3 (n := 388) rfl ?_
      refine hg_iadd hC dX6_doStep_388 (n := 389) rfl ?_
      obtain ⟨h9, hw⟩ := hw
      refine hg_iald hC dX6_doStep_389 qM_12 kM_12 h9 (n := 390) rfl ?_
      obtain ⟨h9, hw⟩ := hw
      refine hg_iald hC dX6_doStep_390 qM_27 kM_27 h9 (n := 391) rfl ?_
      refine hg_iload hC dX6_doStep_391 0 rfl (n := 393) rfl ?_
      refine hg_cVi hC (tM_X6_reach (hg_Eof hC) X.2.1 (d + 0) _ _ _ _ _ _ hw) sv_RX6_297 dX6_doStep_393 qM_0 kM_0 c_6 rfl (rest := []) rfl (Nat.le_of_ble_eq_true rfl) (n := 396) rfl (fun r19 σ18 hw => ?_)
      refine hg_istore hC (L1 := [(5, .int r19), (4, .int v3), (3, .int v2), (2, .int v1), (0, .ref (hg_ad X 0)), (1, .int x1)]) dX6_doStep_396 (by decide) rfl (n := 398) rfl ?_
      refine hg_aload_n hC dX6_doStep_398 rfl 4 rfl (n := 399) rfl ?_
      refine hg_getr hC fl_RX6_96 dX6_doStep_399 qM_0 kM_0 fM_6_43 rM_0_43 (n := 402) rfl ?_
      refine hg_iload_n hC dX6_doStep_402 rfl 2 rfl (n := 403) rfl ?_
      refine hg_aload_n hC dX6_doStep_403 rfl 4 rfl (n := 404) rfl ?_
      refine hg_geti hC fl_RX6_288 dX6_doStep_404 qM_0 kM_0 fM_6_42 (n := 407) rfl ?_
      refine hg_if_ne hC dX6_doStep_407 (tg := 415) rfl (n := 410) rfl (fun h9 => ?_) (fun h9 => ?_)
      · have hw := hw.1 h9
        refine hg_aload_n hC dX6_doStep_415 rfl 4 rfl (n := 416) rfl ?_
        refine hg_getr hC fl_RX6_96 dX6_doStep_416 qM_0 kM_0 fM_6_43 rM_0_43 (n := 419) rfl ?_
        refine hg_iload_n hC dX6_doStep_419 rfl 2 rfl (n := 420) rfl ?_
        obtain ⟨h9, hw⟩ := hw
        refine hg_iald hC dX6_doStep_420 qM_27 kM_27 h9 (n := 421) rfl ?_
        exact hg_sub [5] rfl (tbM_X6_doStep_421 hC hR  x1 v2 (σ18 27 (v2).toNatClampNeg) σ18 hw)
      · have hw := hw.2 h9
        refine hg_iload hC dX6_doStep_410 0 rfl (n := 412) rfl ?_
        refine hg_goto hC dX6_doStep_412 (tg := 421) rfl ?_
        exact hg_sub [5] rfl (tbM_X6_doStep_421 hC hR  x1 v2 r19 σ18 hw)
    · have hw := hw.2.2.2.2.2.2.2.2.2.1 hsx
      refine hg_tin hC dX6_doStep_30 hsx (by decide) (by decide) (by rfl) (tg := 358) rfl ?_
      refine hg_aload_n hC dX6_doStep_358 rfl 3 rfl (n := 359) rfl ?_
      refine hg_aload_n hC dX6_doStep_359 rfl 3 rfl (n := 360) rfl ?_
      refine hg_getr hC fl_RX6_44 dX6_doStep_360 qM_0 kM_0 fM_6_19 rM_0_19 (n := 363) rfl ?_
      refine hg_iload_n hC dX6_doStep_363 rfl 2 rfl (n := 364) rfl ?_
      obtain ⟨h9, hw⟩ := hw
      refine hg_iald hC dX6_doStep_364 qM_12 kM_12 h9 (n := 365) rfl ?_
      refine hg_aload_n hC dX6_doStep_365 rfl 3 rfl (n := 366) rfl ?_
      refine hg_getr hC fl_RX6_96 dX6_doStep_366 qM_0 kM_0 fM_6_43 rM_0_43 (n := 369) rfl ?_
      refine hg_aload_n hC dX6_doStep_369 rfl 3 rfl (n := 370) rfl ?_
      refine hg_getr hC fl_RX6_44 dX6_doStep_370 qM_0 kM_0 fM_6_19 rM_0_19 (n := 373) rfl ?_
      refine hg_iload_n hC dX6_doStep_373 rfl 2 rfl (n := 374) rfl ?_
      refine hg_iconst hC dX6_doStep_374 hl_i2 (n := 375) rfl ?_
      refine hg_iadd hC dX6_doStep_375 (n := 376) rfl ?_
      obtain ⟨h9, hw⟩ := hw
      refine hg_iald hC dX6_doStep_376 qM_12 kM_12 h9 (n := 377) rfl ?_
      obtain ⟨h9, hw⟩ := hw
      refine hg_iald hC dX6_doStep_377 qM_27 kM_27 h9 (n := 378) rfl ?_
      refine hg_aload_n hC dX6_doStep_378 rfl 3 rfl (n := 379) rfl ?_
      refine hg_getr hC fl_RX6_96 dX6_doStep_379 qM_0 kM_0 fM_6_43 rM_0_43 (n := 382) rfl ?_
      refine hg_aload_n hC dX6_doStep_382 rfl 3 rfl (n := 383) rfl ?_
      refine hg_getr hC fl_RX6_44 dX6_doStep_383 qM_0 kM_0 fM_6_19 rM_0_19 (n := 386) rfl ?_
      refine hg_iload_n hC dX6_doStep_386 rfl 2 rfl (n := 387) rfl ?_
      refine hg_iconst hC dX6_doStep_387 hl_i3 (n := 388) rfl ?_
      refine hg_iadd hC dX6_doStep_388 (n := 389) rfl ?_
      obtain ⟨h9, hw⟩ := hw
      refine hg_iald hC dX6_doStep_389 qM_12 kM_12 h9 (n := 390) rfl ?_
      obtain ⟨h9, hw⟩ := hw
      refine hg_iald hC dX6_doStep_390 qM_27 kM_27 h9 (n := 391) rfl ?_
      refine hg_iload hC dX6_doStep_391 0 rfl (n := 393) rfl ?_
      refine hg_cVi hC (tM_X6_reach (hg_Eof hC) X.2.1 (d + 0) _ _ _ _ _ _ hw) sv_RX6_297 dX6_doStep_393 qM_0 kM_0 c_6 rfl (rest := []) rfl (Nat.le_of_ble_eq_true rfl) (n := 396) rfl (fun r21 σ20 hw => ?_)
      refine hg_istore hC (L1 := [(5, .int r21), (4, .int v3), (3, .int v2), (2, .int v1), (0, .ref (hg_ad X 0)), (1, .int x1)]) dX6_doStep_396 (by decide) rfl (n := 398) rfl ?_
      refine hg_aload_n hC dX6_doStep_398 rfl 4 rfl (n := 399) rfl ?_
      refine hg_getr hC fl_RX6_96 dX6_doStep_399 qM_0 kM_0 fM_6_43 rM_0_43 (n := 402) rfl ?_
      refine hg_iload_n hC dX6_doStep_402 rfl 2 rfl (n := 403) rfl ?_
      refine hg_aload_n hC dX6_doStep_403 rfl 4 rfl (n := 404) rfl ?_
      refine hg_geti hC fl_RX6_288 dX6_doStep_404 qM_0 kM_0 fM_6_42 (n := 407) rfl ?_
      refine hg_if_ne hC dX6_doStep_407 (tg := 415) rfl (n := 410) rfl (fun h9 => ?_) (fun h9 => ?_)
      · have hw := hw.1 h9
        refine hg_aload_n hC dX6_doStep_415 rfl 4 rfl (n := 416) rfl ?_
        refine hg_getr hC fl_RX6_96 dX6_doStep_416 qM_0 kM_0 fM_6_43 rM_0_43 (n := 419) rfl ?_
        refine hg_iload_n hC dX6_doStep_419 rfl 2 rfl (n := 420) rfl ?_
        obtain ⟨h9, hw⟩ := hw
        refine hg_iald hC dX6_doStep_420 qM_27 kM_27 h9 (n := 421) rfl ?_
        exact hg_sub [5] rfl (tbM_X6_doStep_421 hC hR  x1 v2 (σ20 27 (v2).toNatClampNeg) σ20 hw)
      · have hw := hw.2 h9
        refine hg_iload hC dX6_doStep_410 0 rfl (n := 412) rfl ?_
        refine hg_goto hC dX6_doStep_412 (tg := 421) rfl ?_
        exact hg_sub [5] rfl (tbM_X6_doStep_421 hC hR  x1 v2 r21 σ20 hw)
    · have hw := hw.2.2.2.2.2.2.2.2.2.2.1 hsx
      refine hg_tin hC dX6_doStep_30 hsx (by decide) (by decide) (by rfl) (tg := 358) rfl ?_
      refine hg_aload_n hC dX6_doStep_358 rfl 3 rfl (n := 359) rfl ?_
      refine hg_aload_n hC dX6_doStep_359 rfl 3 rfl (n := 360) rfl ?_
      refine hg_getr hC fl_RX6_44 dX6_doStep_360 qM_0 kM_0 fM_6_19 rM_0_19 (n := 363) rfl ?_
      refine hg_iload_n hC dX6_doStep_363 rfl 2 rfl (n := 364) rfl ?_
      obtain ⟨h9, hw⟩ := hw
      refine hg_iald hC dX6_doStep_364 qM_12 kM_12 h9 (n := 365) rfl ?_
      refine hg_aload_n hC dX6_doStep_365 rfl 3 rfl (n := 366) rfl ?_
      refine hg_getr hC fl_RX6_96 dX6_doStep_366 qM_0 kM_0 fM_6_43 rM_0_43 (n := 369) rfl ?_
      refine hg_aload_n hC dX6_doStep_369 rfl 3 rfl (n := 370) rfl ?_
      refine hg_getr hC fl_RX6_44 dX6_doStep_370 qM_0 kM_0 fM_6_19 rM_0_19 (n := 373) rfl ?_
      refine hg_iload_n hC dX6_doStep_373 rfl 2 rfl (n := 374) rfl ?_
      refine hg_iconst hC dX6_doStep_374 hl_i2 (n := 375) rfl ?_
      refine hg_iadd hC dX6_doStep_375 (n := 376) rfl ?_
      obtain ⟨h9, hw⟩ := hw
      refine hg_iald hC dX6_doStep_376 qM_12 kM_12 h9 (n := 377) rfl ?_
      obtain ⟨h9, hw⟩ := hw
      refine hg_iald hC dX6_doStep_377 qM_27 kM_27 h9 (n := 378) rfl ?_
      refine hg_aload_n hC dX6_doStep_378 rfl 3 rfl (n := 379) rfl ?_
      refine hg_getr hC fl_RX6_96 dX6_doStep_379 qM_0 kM_0 fM_6_43 rM_0_43 (n := 382) rfl ?_
      refine hg_aload_n hC dX6_doStep_382 rfl 3 rfl (n := 383) rfl ?_
      refine hg_getr hC fl_RX6_44 dX6_doStep_383 qM_0 kM_0 fM_6_19 rM_0_19 (n := 386) rfl ?_
      refine hg_iload_n hC dX6_doStep_386 rfl 2 rfl (n := 387) rfl ?_
      refine hg_iconst hC dX6_doStep_387 hl_i3 (n := 388) rfl ?_
      refine hg_iadd hC dX6_doStep_388 (n := 389) rfl ?_
      obtain ⟨h9, hw⟩ := hw
      refine hg_iald hC dX6_doStep_389 qM_12 kM_12 h9 (n := 390) rfl ?_
      obtain ⟨h9, hw⟩ := hw
      refine hg_iald hC dX6_doStep_390 qM_27 kM_27 h9 (n := 391) rfl ?_
      refine hg_iload hC dX6_doStep_391 0 rfl (n := 393) rfl ?_
      refine hg_cVi hC (tM_X6_reach (hg_Eof hC) X.2.1 (d + 0) _ _ _ _ _ _ hw) sv_RX6_297 dX6_doStep_393 qM_0 kM_0 c_6 rfl (rest := []) rfl (Nat.le_of_ble_eq_true rfl) (n := 396) rfl (fun r23 σ22 hw => ?_)
      refine hg_istore hC (L1 := [(5, .int r23), (4, .int v3), (3, .int v2), (2, .int v1), (0, .ref (hg_ad X 0)), (1, .int x1)]) dX6_doStep_396 (by decide) rfl (n := 398) rfl ?_
      refine hg_aload_n hC dX6_doStep_398 rfl 4 rfl (n := 399) rfl ?_
      refine hg_getr hC fl_RX6_96 dX6_doStep_399 qM_0 kM_0 fM_6_43 rM_0_43 (n := 402) rfl ?_
      refine hg_iload_n hC dX6_doStep_402 rfl 2 rfl (n := 403) rfl ?_
      refine hg_aload_n hC dX6_doStep_403 rfl 4 rfl (n := 404) rfl ?_
      refine hg_geti hC fl_RX6_288 dX6_doStep_404 qM_0 kM_0 fM_6_42 (n := 407) rfl ?_
      refine hg_if_ne hC dX6_doStep_407 (tg := 415) rfl (n := 410) rfl (fun h9 => ?_) (fun h9 => ?_)
      · have hw := hw.1 h9
        refine hg_aload_n hC dX6_doStep_415 rfl 4 rfl (n := 416) rfl ?_
        refine hg_getr hC fl_RX6_96 dX6_doStep_416 qM_0 kM_0 fM_6_43 rM_0_43 (n := 419) rfl ?_
        refine hg_iload_n hC dX6_doStep_419 rfl 2 rfl (n := 420) rfl ?_
        obtain ⟨h9, hw⟩ := hw
        refine hg_iald hC dX6_doStep_420 qM_27 kM_27 h9 (n := 421) rfl ?_
        exact hg_sub [5] rfl (tbM_X6_doStep_421 hC hR  x1 v2 (σ22 27 (v2).toNatClampNeg) σ22 hw)
      · have hw := hw.2 h9
        refine hg_iload hC dX6_doStep_410 0 rfl (n := 412) rfl ?_
        refine hg_goto hC dX6_doStep_412 (tg := 421) rfl ?_
        exact hg_sub [5] rfl (tbM_X6_doStep_421 hC hR  x1 v2 r23 σ22 hw)
    · have hw := hw.2.2.2.2.2.2.2.2.2.2.2.1 hsx
      refine hg_tin hC dX6_doStep_30 hsx (by decide) (by decide) (by rfl) (tg := 358) rfl ?_
      refine hg_aload_n hC dX6_doStep_358 rfl 3 rfl (n := 359) rfl ?_
      refine hg_aload_n hC dX6_doStep_359 rfl 3 rfl (n := 360) rfl ?_
      refine hg_getr hC fl_RX6_44 dX6_doStep_360 qM_0 kM_0 fM_6_19 rM_0_19 (n := 363) rfl ?_
      refine hg_iload_n hC dX6_doStep_363 rfl 2 rfl (n := 364) rfl ?_
      obtain ⟨h9, hw⟩ := hw
      refine hg_iald hC dX6_doStep_364 qM_12 kM_12 h9 (n := 365) rfl ?_
      refine hg_aload_n hC dX6_doStep_365 rfl 3 rfl (n := 366) rfl ?_
      refine hg_getr hC fl_RX6_96 dX6_doStep_366 qM_0 kM_0 fM_6_43 rM_0_43 (n := 369) rfl ?_
      refine hg_aload_n hC dX6_doStep_369 rfl 3 rfl (n := 370) rfl ?_
      refine hg_getr hC fl_RX6_44 dX6_doStep_370 qM_0 kM_0 fM_6_19 rM_0_19 (n := 373) rfl ?_
      refine hg_iload_n hC dX6_doStep_373 rfl 2 rfl (n := 374) rfl ?_
      refine hg_iconst hC dX6_doStep_374 hl_i2 (n := 375) rfl ?_
      refine hg_iadd hC dX6_doStep_375 (n := 376) rfl ?_
      obtain ⟨h9, hw⟩ := hw
      refine hg_iald hC dX6_doStep_376 qM_12 kM_12 h9 (n := 377) rfl ?_
      obtain ⟨h9, hw⟩ := hw
      refine hg_iald hC dX6_doStep_377 qM_27 kM_27 h9 (n := 378) rfl ?_
      refine hg_aload_n hC dX6_doStep_378 rfl 3 rfl (n := 379) rfl ?_
      refine hg_getr hC fl_RX6_96 dX6_doStep_379 qM_0 kM_0 fM_6_43 rM_0_43 (n := 382) rfl ?_
      refine hg_aload_n hC dX6_doStep_382 rfl 3 rfl (n := 383) rfl ?_
      refine hg_getr hC fl_RX6_44 dX6_doStep_383 qM_0 kM_0 fM_6_19 rM_0_19 (n := 386) rfl ?_
      refine hg_iload_n hC dX6_doStep_386 rfl 2 rfl (n := 387) rfl ?_
      refine hg_iconst hC dX6_doStep_387 hl_i3 (n := 388) rfl ?_
      refine hg_iadd hC dX6_doStep_388 (n := 389) rfl ?_
      obtain ⟨h9, hw⟩ := hw
      refine hg_iald hC dX6_doStep_389 qM_12 kM_12 h9 (n := 390) rfl ?_
      obtain ⟨h9, hw⟩ := hw
      refine hg_iald hC dX6_doStep_390 qM_27 kM_27 h9 (n := 391) rfl ?_
      refine hg_iload hC dX6_doStep_391 0 rfl (n := 393) rfl ?_
      refine hg_cVi hC (tM_X6_reach (hg_Eof hC) X.2.1 (d + 0) _ _ _ _ _ _ hw) sv_RX6_297 dX6_doStep_393 qM_0 kM_0 c_6 rfl (rest := []) rfl (Nat.le_of_ble_eq_true rfl) (n := 396) rfl (fun r25 σ24 hw => ?_)
      refine hg_istore hC (L1 := [(5, .int r25), (4, .int v3), (3, .int v2), (2, .int v1), (0, .ref (hg_ad X 0)), (1, .int x1)]) dX6_doStep_396 (by decide) rfl (n := 398) rfl ?_
      refine hg_aload_n hC dX6_doStep_398 rfl 4 rfl (n := 399) rfl ?_
      refine hg_getr hC fl_RX6_96 dX6_doStep_399 qM_0 kM_0 fM_6_43 rM_0_43 (n := 402) rfl ?_
      refine hg_iload_n hC dX6_doStep_402 rfl 2 rfl (n := 403) rfl ?_
      refine hg_aload_n hC dX6_doStep_403 rfl 4 rfl (n := 404) rfl ?_
      refine hg_geti hC fl_RX6_288 dX6_doStep_404 qM_0 kM_0 fM_6_42 (n := 407) rfl ?_
      refine hg_if_ne hC dX6_doStep_407 (tg := 415) rfl (n := 410) rfl (fun h9 => ?_) (fun h9 => ?_)
      · have hw := hw.1 h9
        refine hg_aload_n hC dX6_doStep_415 rfl 4 rfl (n := 416) rfl ?_
        refine hg_getr hC fl_RX6_96 dX6_doStep_416 qM_0 kM_0 fM_6_43 rM_0_43 (n := 419) rfl ?_
        refine hg_iload_n hC dX6_doStep_419 rfl 2 rfl (n := 420) rfl ?_
        obtain ⟨h9, hw⟩ := hw
        refine hg_iald hC dX6_doStep_420 qM_27 kM_27 h9 (n := 421) rfl ?_
        exact hg_sub [5] rfl (tbM_X6_doStep_421 hC hR  x1 v2 (σ24 27 (v2).toNatClampNeg) σ24 hw)
      · have hw := hw.2 h9
        refine hg_iload hC dX6_doStep_410 0 rfl (n := 412) rfl ?_
        refine hg_goto hC dX6_doStep_412 (tg := 421) rfl ?_
        exact hg_sub [5] rfl (tbM_X6_doStep_421 hC hR  x1 v2 r25 σ24 hw)
    · have hw := hw.2.2.2.2.2.2.2.2.2.2.2.2.1 hsx
      refine hg_tin hC dX6_doStep_30 hsx (by decide) (by decide) (by rfl) (tg := 358) rfl ?_
      refine hg_aload_n hC dX6_doStep_358 rfl 3 rfl (n := 359) rfl ?_
      refine hg_aload_n hC dX6_doStep_359 rfl 3 rfl (n := 360) rfl ?_
      refine hg_getr hC fl_RX6_44 dX6_doStep_360 qM_0 kM_0 fM_6_19 rM_0_19 (n := 363) rfl ?_
      refine hg_iload_n hC dX6_doStep_363 rfl 2 rfl (n := 364) rfl ?_
      obtain ⟨h9, hw⟩ := hw
      refine hg_iald hC dX6_doStep_364 qM_12 kM_12 h9 (n := 365) rfl ?_
      refine hg_aload_n hC dX6_doStep_365 rfl 3 rfl (n := 366) rfl ?_
      refine hg_getr hC fl_RX6_96 dX6_doStep_366 qM_0 kM_0 fM_6_43 rM_0_43 (n := 369) rfl ?_
      refine hg_aload_n hC dX6_doStep_369 rfl 3 rfl (n := 370) rfl ?_
      refine hg_getr hC fl_RX6_44 dX6_doStep_370 qM_0 kM_0 fM_6_19 rM_0_19 (n := 373) rfl ?_
      refine hg_iload_n hC dX6_doStep_373 rfl 2 rfl (n := 374) rfl ?_
      refine hg_iconst hC dX6_doStep_374 hl_i2 (n := 375) rfl ?_
      refine hg_iadd hC dX6_doStep_375 (n := 376) rfl ?_
      obtain ⟨h9, hw⟩ := hw
      refine hg_iald hC dX6_doStep_376 qM_12 kM_12 h9 (n := 377) rfl ?_
      obtain ⟨h9, hw⟩ := hw
      refine hg_iald hC dX6_doStep_377 qM_27 kM_27 h9 (n := 378) rfl ?_
      refine hg_aload_n hC dX6_doStep_378 rfl 3 rfl (n := 379) rfl ?_
      refine hg_getr hC fl_RX6_96 dX6_doStep_379 qM_0 kM_0 fM_6_43 rM_0_43 (n := 382) rfl ?_
      refine hg_aload_n hC dX6_doStep_382 rfl 3 rfl (n := 383) rfl ?_
      refine hg_getr hC fl_RX6_44 dX6_doStep_383 qM_0 kM_0 fM_6_19 rM_0_19 (n := 386) rfl ?_
      refine hg_iload_n hC dX6_doStep_386 rfl 2 rfl (n := 387) rfl ?_
      refine hg_iconst hC dX6_doStep_387 hl_i3 (n := 388) rfl ?_
      refine hg_iadd hC dX6_doStep_388 (n := 389) rfl ?_
      obtain ⟨h9, hw⟩ := hw
      refine hg_iald hC dX6_doStep_389 qM_12 kM_12 h9 (n := 390) rfl ?_
      obtain ⟨h9, hw⟩ := hw
      refine hg_iald hC dX6_doStep_390 qM_27 kM_27 h9 (n := 391) rfl ?_
      refine hg_iload hC dX6_doStep_391 0 rfl (n := 393) rfl ?_
      refine hg_cVi hC (tM_X6_reach (hg_Eof hC) X.2.1 (d + 0) _ _ _ _ _ _ hw) sv_RX6_297 dX6_doStep_393 qM_0 kM_0 c_6 rfl (rest := []) rfl (Nat.le_of_ble_eq_true rfl) (n := 396) rfl (fun r27 σ26 hw => ?_)
      refine hg_istore hC (L1 := [(5, .int r27), (4, .int v3), (3, .int v2), (2, .int v1), (0, .ref (hg_ad X 0)), (1, .int x1)]) dX6_doStep_396 (by decide) rfl (n := 398) rfl ?_
      refine hg_aload_n hC dX6_doStep_398 rfl 4 rfl (n := 399) rfl ?_
      refine hg_getr hC fl_RX6_96 dX6_doStep_399 qM_0 kM_0 fM_6_43 rM_0_43 (n := 402) rfl ?_
      refine hg_iload_n hC dX6_doStep_402 rfl 2 rfl (n := 403) rfl ?_
      refine hg_aload_n hC dX6_doStep_403 rfl 4 rfl (n := 404) rfl ?_
      refine hg_geti hC fl_RX6_288 dX6_doStep_404 qM_0 kM_0 fM_6_42 (n := 407) rfl ?_
      refine hg_if_ne hC dX6_doStep_407 (tg := 415) rfl (n := 410) rfl (fun h9 => ?_) (fun h9 => ?_)
      · have hw := hw.1 h9
        refine hg_aload_n hC dX6_doStep_415 rfl 4 rfl (n := 416) rfl ?_
        refine hg_getr hC fl_RX6_96 dX6_doStep_416 qM_0 kM_0 fM_6_43 rM_0_43 (n := 419) rfl ?_
        refine hg_iload_n hC dX6_doStep_419 rfl 2 rfl (n := 420) rfl ?_
        obtain ⟨h9, hw⟩ := hw
        refine hg_iald hC dX6_doStep_420 qM_27 kM_27 h9 (n := 421) rfl ?_
        exact hg_sub [5] rfl (tbM_X6_doStep_421 hC hR  x1 v2 (σ26 27 (v2).toNatClampNeg) σ26 hw)
      · have hw := hw.2 h9
        refine hg_iload hC dX6_doStep_410 0 rfl (n := 412) rfl ?_
        refine hg_goto hC dX6_doStep_412 (tg := 421) rfl ?_
        exact hg_sub [5] rfl (tbM_X6_doStep_421 hC hR  x1 v2 r27 σ26 hw)
    · have hw := hw.2.2.2.2.2.2.2.2.2.2.2.2.2.1 hsx
      refine hg_tin hC dX6_doStep_30 hsx (by decide) (by decide) (by rfl) (tg := 358) rfl ?_
      refine hg_aload_n hC dX6_doStep_358 rfl 3 rfl (n := 359) rfl ?_
      refine hg_aload_n hC dX6_doStep_359 rfl 3 rfl (n := 360) rfl ?_
      refine hg_getr hC fl_RX6_44 dX6_doStep_360 qM_0 kM_0 fM_6_19 rM_0_19 (n := 363) rfl ?_
      refine hg_iload_n hC dX6_doStep_363 rfl 2 rfl (n := 364) rfl ?_
      obtain ⟨h9, hw⟩ := hw
      refine hg_iald hC dX6_doStep_364 qM_12 kM_12 h9 (n := 365) rfl ?_
      refine hg_aload_n hC dX6_doStep_365 rfl 3 rfl (n := 366) rfl ?_
      refine hg_getr hC fl_RX6_96 dX6_doStep_366 qM_0 kM_0 fM_6_43 rM_0_43 (n := 369) rfl ?_
      refine hg_aload_n hC dX6_doStep_369 rfl 3 rfl (n := 370) rfl ?_
      refine hg_getr hC fl_RX6_44 dX6_doStep_370 qM_0 kM_0 fM_6_19 rM_0_19 (n := 373) rfl ?_
      refine hg_iload_n hC dX6_doStep_373 rfl 2 rfl (n := 374) rfl ?_
      refine hg_iconst hC dX6_doStep_374 hl_i2 (n := 375) rfl ?_
      refine hg_iadd hC dX6_doStep_375 (n := 376) rfl ?_
      obtain ⟨h9, hw⟩ := hw
      refine hg_iald hC dX6_doStep_376 qM_12 kM_12 h9 (n := 377) rfl ?_
      obtain ⟨h9, hw⟩ := hw
      refine hg_iald hC dX6_doStep_377 qM_27 kM_27 h9 (n := 378) rfl ?_
      refine hg_aload_n hC dX6_doStep_378 rfl 3 rfl (n := 379) rfl ?_
      refine hg_getr hC fl_RX6_96 dX6_doStep_379 qM_0 kM_0 fM_6_43 rM_0_43 (n := 382) rfl ?_
      refine hg_aload_n hC dX6_doStep_382 rfl 3 rfl (n := 383) rfl ?_
      refine hg_getr hC fl_RX6_44 dX6_doStep_383 qM_0 kM_0 fM_6_19 rM_0_19 (n := 386) rfl ?_
      refine hg_iload_n hC dX6_doStep_386 rfl 2 rfl (n := 387) rfl ?_
      refine hg_iconst hC dX6_doStep_387 hl_i3 (n := 388) rfl ?_
      refine hg_iadd hC dX6_doStep_388 (n := 389) rfl ?_
      obtain ⟨h9, hw⟩ := hw
      refine hg_iald hC dX6_doStep_389 qM_12 kM_12 h9 (n := 390) rfl ?_
      obtain ⟨h9, hw⟩ := hw
      refine hg_iald hC dX6_doStep_390 qM_27 kM_27 h9 (n := 391) rfl ?_
      refine hg_iload hC dX6_doStep_391 0 rfl (n := 393) rfl ?_
      refine hg_cVi hC (tM_X6_reach (hg_Eof hC) X.2.1 (d + 0) _ _ _ _ _ _ hw) sv_RX6_297 dX6_doStep_393 qM_0 kM_0 c_6 rfl (rest := []) rfl (Nat.le_of_ble_eq_true rfl) (n := 396) rfl (fun r29 σ28 hw => ?_)
      refine hg_istore hC (L1 := [(5, .int r29), (4, .int v3), (3, .int v2), (2, .int v1), (0, .ref (hg_ad X 0)), (1, .int x1)]) dX6_doStep_396 (by decide) rfl (n := 398) rfl ?_
      refine hg_aload_n hC dX6_doStep_398 rfl 4 rfl (n := 399) rfl ?_
      refine hg_getr hC fl_RX6_96 dX6_doStep_399 qM_0 kM_0 fM_6_43 rM_0_43 (n := 402) rfl ?_
      refine hg_iload_n hC dX6_doStep_402 rfl 2 rfl (n := 403) rfl ?_
      refine hg_aload_n hC dX6_doStep_403 rfl 4 rfl (n := 404) rfl ?_
      refine hg_geti hC fl_RX6_288 dX6_doStep_404 qM_0 kM_0 fM_6_42 (n := 407) rfl ?_
      refine hg_if_ne hC dX6_doStep_407 (tg := 415) rfl (n := 410) rfl (fun h9 => ?_) (fun h9 => ?_)
      · have hw := hw.1 h9
        refine hg_aload_n hC dX6_doStep_415 rfl 4 rfl (n := 416) rfl ?_
        refine hg_getr hC fl_RX6_96 dX6_doStep_416 qM_0 kM_0 fM_6_43 rM_0_43 (n := 419) rfl ?_
        refine hg_iload_n hC dX6_doStep_419 rfl 2 rfl (n := 420) rfl ?_
        obtain ⟨h9, hw⟩ := hw
        refine hg_iald hC dX6_doStep_420 qM_27 kM_27 h9 (n := 421) rfl ?_
        exact hg_sub [5] rfl (tbM_X6_doStep_421 hC hR  x1 v2 (σ28 27 (v2).toNatClampNeg) σ28 hw)
      · have hw := hw.2 h9
        refine hg_iload hC dX6_doStep_410 0 rfl (n := 412) rfl ?_
        refine hg_goto hC dX6_doStep_412 (tg := 421) rfl ?_
        exact hg_sub [5] rfl (tbM_X6_doStep_421 hC hR  x1 v2 r29 σ28 hw)
    · have hw := hw.2.2.2.2.2.2.2.2.2.2.2.2.2.2.1 hsx
      refine hg_tin hC dX6_doStep_30 hsx (by decide) (by decide) (by rfl) (tg := 159) rfl ?_
      refine hg_aload_n hC dX6_doStep_159 rfl 3 rfl (n := 160) rfl ?_
      refine hg_getr hC fl_RX6_96 dX6_doStep_160 qM_0 kM_0 fM_6_43 rM_0_43 (n := 163) rfl ?_
      refine hg_iload_n hC dX6_doStep_163 rfl 1 rfl (n := 164) rfl ?_
      refine hg_aload_n hC dX6_doStep_164 rfl 3 rfl (n := 165) rfl ?_
      refine hg_getr hC fl_RX6_96 dX6_doStep_165 qM_0 kM_0 fM_6_43 rM_0_43 (n := 168) rfl ?_
      refine hg_aload_n hC dX6_doStep_168 rfl 3 rfl (n := 169) rfl ?_
      refine hg_getr hC fl_RX6_44 dX6_doStep_169 qM_0 kM_0 fM_6_19 rM_0_19 (n := 172) rfl ?_
      refine hg_iload_n hC dX6_doStep_172 rfl 2 rfl (n := 173) rfl ?_
      refine hg_iconst hC dX6_doStep_173 hl_i2 (n := 174) rfl ?_
      refine hg_iadd hC dX6_doStep_174 (n := 175) rfl ?_
      obtain ⟨h9, hw⟩ := hw
      refine hg_iald hC dX6_doStep_175 qM_12 kM_12 h9 (n := 176) rfl ?_
      obtain ⟨h9, hw⟩ := hw
      refine hg_iald hC dX6_doStep_176 qM_27 kM_27 h9 (n := 177) rfl ?_
      refine hg_if_eq hC dX6_doStep_177 (tg := 196) rfl (n := 180) rfl (fun h9 => ?_) (fun h9 => ?_)
      · have hw := hw.1 h9
        refine hg_aload_n hC dX6_doStep_196 rfl 3 rfl (n := 197) rfl ?_
        refine hg_getr hC fl_RX6_96 dX6_doStep_197 qM_0 kM_0 fM_6_43 rM_0_43 (n := 200) rfl ?_
        refine hg_aload_n hC dX6_doStep_200 rfl 3 rfl (n := 201) rfl ?_
        refine hg_getr hC fl_RX6_44 dX6_doStep_201 qM_0 kM_0 fM_6_19 rM_0_19 (n := 204) rfl ?_
        refine hg_iload_n hC dX6_doStep_204 rfl 2 rfl (n := 205) rfl ?_
        refine hg_iconst hC dX6_doStep_205 hl_i4 (n := 206) rfl ?_
        refine hg_iadd hC dX6_doStep_206 (n := 207) rfl ?_
        obtain ⟨h9, hw⟩ := hw
        refine hg_iald hC dX6_doStep_207 qM_12 kM_12 h9 (n := 208) rfl ?_
        obtain ⟨h9, hw⟩ := hw
        refine hg_iald hC dX6_doStep_208 qM_27 kM_27 h9 (n := 209) rfl ?_
        exact hg_sub [4] rfl (tbM_X6_doStep_209 hC hR  x1 v2 (σ 27 ((σ 12 ((v1 + (4 : Int32))).toNatClampNeg)).toNatClampNeg) σ hw)
      · have hw := hw.2 h9
        refine hg_aload_n hC dX6_doStep_180 rfl 3 rfl (n := 181) rfl ?_
        refine hg_getr hC fl_RX6_96 dX6_doStep_181 qM_0 kM_0 fM_6_43 rM_0_43 (n := 184) rfl ?_
        refine hg_aload_n hC dX6_doStep_184 rfl 3 rfl (n := 185) rfl ?_
        refine hg_getr hC fl_RX6_44 dX6_doStep_185 qM_0 kM_0 fM_6_19 rM_0_19 (n := 188) rfl ?_
        refine hg_iload_n hC dX6_doStep_188 rfl 2 rfl (n := 189) rfl ?_
        refine hg_iconst hC dX6_doStep_189 hl_i3 (n := 190) rfl ?_
        refine hg_iadd hC dX6_doStep_190 (n := 191) rfl ?_
        obtain ⟨h9, hw⟩ := hw
        refine hg_iald hC dX6_doStep_191 qM_12 kM_12 h9 (n := 192) rfl ?_
        obtain ⟨h9, hw⟩ := hw
        refine hg_iald hC dX6_doStep_192 qM_27 kM_27 h9 (n := 193) rfl ?_
        refine hg_goto hC dX6_doStep_193 (tg := 209) rfl ?_
        exact hg_sub [4] rfl (tbM_X6_doStep_209 hC hR  x1 v2 (σ 27 ((σ 12 ((v1 + (3 : Int32))).toNatClampNeg)).toNatClampNeg) σ hw)
    · have hw := hw.2.2.2.2.2.2.2.2.2.2.2.2.2.2.2.1 hsx
      refine hg_tin hC dX6_doStep_30 hsx (by decide) (by decide) (by rfl) (tg := 213) rfl ?_
      refine hg_aload_n hC dX6_doStep_213 rfl 3 rfl (n := 214) rfl ?_
      refine hg_aload_n hC dX6_doStep_214 rfl 3 rfl (n := 215) rfl ?_
      refine hg_getr hC fl_RX6_96 dX6_doStep_215 qM_0 kM_0 fM_6_43 rM_0_43 (n := 218) rfl ?_
      refine hg_aload_n hC dX6_doStep_218 rfl 3 rfl (n := 219) rfl ?_
      refine hg_getr hC fl_RX6_44 dX6_doStep_219 qM_0 kM_0 fM_6_19 rM_0_19 (n := 222) rfl ?_
      refine hg_iload_n hC dX6_doStep_222 rfl 2 rfl (n := 223) rfl ?_
      refine hg_iconst hC dX6_doStep_223 hl_i2 (n := 224) rfl ?_
      refine hg_iadd hC dX6_doStep_224 (n := 225) rfl ?_
      obtain ⟨h9, hw⟩ := hw
      refine hg_iald hC dX6_doStep_225 qM_12 kM_12 h9 (n := 226) rfl ?_
      obtain ⟨h9, hw⟩ := hw
      refine hg_iald hC dX6_doStep_226 qM_27 kM_27 h9 (n := 227) rfl ?_
      refine hg_iload hC dX6_doStep_227 0 rfl (n := 229) rfl ?_
      refine hg_cVi hC (tM_X6_isWord (hg_Eof hC) X.2.1 (d + 0) _ _ _ _ hw) sv_RX6_301 dX6_doStep_229 qM_0 kM_0 c_6 rfl (rest := []) rfl (Nat.le_of_ble_eq_true rfl) (n := 232) rfl (fun r31 σ30 hw => ?_)
      refine hg_if_eq hC dX6_doStep_232 (tg := 422) rfl (n := 235) rfl (fun h9 => ?_) (fun h9 => ?_)
      · have hw := hw.1 h9
        exact hg_sub [4] rfl (tbM_X6_doStep_422 hC hR  x1 σ30 hw)
      · have hw := hw.2 h9
        refine hg_aload_n hC dX6_doStep_235 rfl 3 rfl (n := 236) rfl ?_
        refine hg_getr hC fl_RX6_96 dX6_doStep_236 qM_0 kM_0 fM_6_43 rM_0_43 (n := 239) rfl ?_
        refine hg_iload_n hC dX6_doStep_239 rfl 1 rfl (n := 240) rfl ?_
        refine hg_aload_n hC dX6_doStep_240 rfl 3 rfl (n := 241) rfl ?_
        refine hg_getr hC fl_RX6_87 dX6_doStep_241 qM_0 kM_0 fM_6_37 rM_0_37 (n := 244) rfl ?_
        refine hg_aload_n hC dX6_doStep_244 rfl 3 rfl (n := 245) rfl ?_
        refine hg_getr hC fl_RX6_96 dX6_doStep_245 qM_0 kM_0 fM_6_43 rM_0_43 (n := 248) rfl ?_
        refine hg_aload_n hC dX6_doStep_248 rfl 3 rfl (n := 249) rfl ?_
        refine hg_getr hC fl_RX6_44 dX6_doStep_249 qM_0 kM_0 fM_6_19 rM_0_19 (n := 252) rfl ?_
        refine hg_iload_n hC dX6_doStep_252 rfl 2 rfl (n := 253) rfl ?_
        refine hg_iconst hC dX6_doStep_253 hl_i2 (n := 254) rfl ?_
        refine hg_iadd hC dX6_doStep_254 (n := 255) rfl ?_
        obtain ⟨h9, hw⟩ := hw
        refine hg_iald hC dX6_doStep_255 qM_12 kM_12 h9 (n := 256) rfl ?_
        obtain ⟨h9, hw⟩ := hw
        refine hg_iald hC dX6_doStep_256 qM_27 kM_27 h9 (n := 257) rfl ?_
        obtain ⟨h9, hw⟩ := hw
        refine hg_iald hC dX6_doStep_257 qM_25 kM_25 h9 (n := 258) rfl ?_
        obtain ⟨h9, hw⟩ := hw
        refine hg_iast hC dX6_doStep_258 qM_27 kM_27 h9 (n := 259) rfl (fun σ32 eσ32 => ?_)
        have hw := hw σ32 eσ32
        refine hg_goto hC dX6_doStep_259 (tg := 422) rfl ?_
        exact hg_sub [4] rfl (tbM_X6_doStep_422 hC hR  x1 σ32 hw)
    · have hw := hw.2.2.2.2.2.2.2.2.2.2.2.2.2.2.2.2.1 hsx
      refine hg_tin hC dX6_doStep_30 hsx (by decide) (by decide) (by rfl) (tg := 262) rfl ?_
      refine hg_aload_n hC dX6_doStep_262 rfl 3 rfl (n := 263) rfl ?_
      refine hg_aload_n hC dX6_doStep_263 rfl 3 rfl (n := 264) rfl ?_
      refine hg_getr hC fl_RX6_96 dX6_doStep_264 qM_0 kM_0 fM_6_43 rM_0_43 (n := 267) rfl ?_
      refine hg_iload_n hC dX6_doStep_267 rfl 1 rfl (n := 268) rfl ?_
      obtain ⟨h9, hw⟩ := hw
      refine hg_iald hC dX6_doStep_268 qM_27 kM_27 h9 (n := 269) rfl ?_
      refine hg_iload hC dX6_doStep_269 0 rfl (n := 271) rfl ?_
      refine hg_cVi hC (tM_X6_isWord (hg_Eof hC) X.2.1 (d + 0) _ _ _ _ hw) sv_RX6_301 dX6_doStep_271 qM_0 kM_0 c_6 rfl (rest := []) rfl (Nat.le_of_ble_eq_true rfl) (n := 274) rfl (fun r34 σ33 hw => ?_)
      refine hg_if_eq hC dX6_doStep_274 (tg := 422) rfl (n := 277) rfl (fun h9 => ?_) (fun h9 => ?_)
      · have hw := hw.1 h9
        exact hg_sub [4] rfl (tbM_X6_doStep_422 hC hR  x1 σ33 hw)
      · have hw := hw.2 h9
        refine hg_aload_n hC dX6_doStep_277 rfl 3 rfl (n := 278) rfl ?_
        refine hg_getr hC fl_RX6_87 dX6_doStep_278 qM_0 kM_0 fM_6_37 rM_0_37 (n := 281) rfl ?_
        refine hg_aload_n hC dX6_doStep_281 rfl 3 rfl (n := 282) rfl ?_
        refine hg_getr hC fl_RX6_96 dX6_doStep_282 qM_0 kM_0 fM_6_43 rM_0_43 (n := 285) rfl ?_
        refine hg_iload_n hC dX6_doStep_285 rfl 1 rfl (n := 286) rfl ?_
        obtain ⟨h9, hw⟩ := hw
        refine hg_iald hC dX6_doStep_286 qM_27 kM_27 h9 (n := 287) rfl ?_
        refine hg_aload_n hC dX6_doStep_287 rfl 3 rfl (n := 288) rfl ?_
        refine hg_getr hC fl_RX6_96 dX6_doStep_288 qM_0 kM_0 fM_6_43 rM_0_43 (n := 291) rfl ?_
        refine hg_aload_n hC dX6_doStep_291 rfl 3 rfl (n := 292) rfl ?_
        refine hg_getr hC fl_RX6_44 dX6_doStep_292 qM_0 kM_0 fM_6_19 rM_0_19 (n := 295) rfl ?_
        refine hg_iload_n hC dX6_doStep_295 rfl 2 rfl (n := 296) rfl ?_
        refine hg_iconst hC dX6_doStep_296 hl_i2 (n := 297) rfl ?_
        refine hg_iadd hC dX6_doStep_297 (n := 298) rfl ?_
        obtain ⟨h9, hw⟩ := hw
        refine hg_iald hC dX6_doStep_298 qM_12 kM_12 h9 (n := 299) rfl ?_
        obtain ⟨h9, hw⟩ := hw
        refine hg_iald hC dX6_doStep_299 qM_27 kM_27 h9 (n := 300) rfl ?_
        obtain ⟨h9, hw⟩ := hw
        refine hg_iast hC dX6_doStep_300 qM_25 kM_25 h9 (n := 301) rfl (fun σ35 eσ35 => ?_)
        have hw := hw σ35 eσ35
        refine hg_goto hC dX6_doStep_301 (tg := 422) rfl ?_
        exact hg_sub [4] rfl (tbM_X6_doStep_422 hC hR  x1 σ35 hw)
    · have hw := hw.2.2.2.2.2.2.2.2.2.2.2.2.2.2.2.2.2.1 hsx
      refine hg_tin hC dX6_doStep_30 hsx (by decide) (by decide) (by rfl) (tg := 304) rfl ?_
      refine hg_iload_n hC dX6_doStep_304 rfl 1 rfl (n := 305) rfl ?_
      exact hg_reti hC hR dX6_doStep_305 hw
    · have hw := hw.2.2.2.2.2.2.2.2.2.2.2.2.2.2.2.2.2.2.1 hsx
      refine hg_tin hC dX6_doStep_30 hsx (by decide) (by decide) (by rfl) (tg := 306) rfl ?_
      refine hg_aload_n hC dX6_doStep_306 rfl 3 rfl (n := 307) rfl ?_
      refine hg_getr hC fl_RX6_96 dX6_doStep_307 qM_0 kM_0 fM_6_43 rM_0_43 (n := 310) rfl ?_
      refine hg_iload_n hC dX6_doStep_310 rfl 1 rfl (n := 311) rfl ?_
      obtain ⟨h9, hw⟩ := hw
      refine hg_iald hC dX6_doStep_311 qM_27 kM_27 h9 (n := 312) rfl ?_
      refine hg_if_ne hC dX6_doStep_312 (tg := 326) rfl (n := 315) rfl (fun h9 => ?_) (fun h9 => ?_)
      · have hw := hw.1 h9
        refine hg_iload_n hC dX6_doStep_326 rfl 4 rfl (n := 327) rfl ?_
        refine hg_iconst hC dX6_doStep_327 hl_i1 (n := 328) rfl ?_
        refine hg_iadd hC dX6_doStep_328 (n := 329) rfl ?_
        exact hg_sub [] rfl (tbM_X6_doStep_329 hC hR  (x1 + (1 : Int32)) σ hw)
      · have hw := hw.2 h9
        refine hg_aload_n hC dX6_doStep_315 rfl 3 rfl (n := 316) rfl ?_
        refine hg_getr hC fl_RX6_44 dX6_doStep_316 qM_0 kM_0 fM_6_19 rM_0_19 (n := 319) rfl ?_
        refine hg_iload_n hC dX6_doStep_319 rfl 2 rfl (n := 320) rfl ?_
        refine hg_iconst hC dX6_doStep_320 hl_i2 (n := 321) rfl ?_
        refine hg_iadd hC dX6_doStep_321 (n := 322) rfl ?_
        obtain ⟨h9, hw⟩ := hw
        refine hg_iald hC dX6_doStep_322 qM_12 kM_12 h9 (n := 323) rfl ?_
        refine hg_goto hC dX6_doStep_323 (tg := 329) rfl ?_
        exact hg_sub [] rfl (tbM_X6_doStep_329 hC hR  (σ 12 ((v1 + (2 : Int32))).toNatClampNeg) σ hw)
    · have hw := hw.2.2.2.2.2.2.2.2.2.2.2.2.2.2.2.2.2.2.2 hsx
      refine hg_tin hC dX6_doStep_30 hsx (by decide) (by decide) (by rfl) (tg := 330) rfl ?_
      refine hg_aload_n hC dX6_doStep_330 rfl 3 rfl (n := 331) rfl ?_
      refine hg_getr hC fl_RX6_90 dX6_doStep_331 qM_0 kM_0 fM_6_38 rM_0_38 (n := 334) rfl ?_
      refine hg_aload_n hC dX6_doStep_334 rfl 3 rfl (n := 335) rfl ?_
      refine hg_geti hC fl_RX6_282 dX6_doStep_335 qM_0 kM_0 fM_6_39 (n := 338) rfl ?_
      refine hg_aload_n hC dX6_doStep_338 rfl 3 rfl (n := 339) rfl ?_
      refine hg_getr hC fl_RX6_96 dX6_doStep_339 qM_0 kM_0 fM_6_43 rM_0_43 (n := 342) rfl ?_
      refine hg_iload_n hC dX6_doStep_342 rfl 1 rfl (n := 343) rfl ?_
      obtain ⟨h9, hw⟩ := hw
      refine hg_iald hC dX6_doStep_343 qM_27 kM_27 h9 (n := 344) rfl ?_
      obtain ⟨h9, hw⟩ := hw
      refine hg_iast hC dX6_doStep_344 qM_26 kM_26 h9 (n := 345) rfl (fun σ36 eσ36 => ?_)
      have hw := hw σ36 eσ36
      refine hg_aload_n hC dX6_doStep_345 rfl 3 rfl (n := 346) rfl ?_
      refine hg_dup hC dX6_doStep_346 rfl (n := 347) rfl ?_
      refine hg_geti hC fl_RX6_282 dX6_doStep_347 qM_0 kM_0 fM_6_39 (n := 350) rfl ?_
      refine hg_iconst hC dX6_doStep_350 hl_i1 (n := 351) rfl ?_
      refine hg_iadd hC dX6_doStep_351 (n := 352) rfl ?_
      refine hg_puti hC fp_RX6_282 dX6_doStep_352 qM_0 kM_0 fM_6_39 rfl rfl (n := 355) rfl (fun σ37 eσ37 => ?_)
      have hw := hw σ37 eσ37
      refine hg_goto hC dX6_doStep_355 (tg := 422) rfl ?_
      exact hg_sub [4] rfl (tbM_X6_doStep_422 hC hR  x1 σ37 hw)
def bM_X6_left_27 (P : Int32 → hg_M → Prop)  (t0 : Int32) (σ : hg_M) : Prop := P t0 σ
def wM_X6_left (x1 : Int32) (σ : hg_M) (P : Int32 → hg_M → Prop) : Prop := wM_X6_isIn (x1).toInt64 (0 : Int64) (15 : Int64) σ (fun r2 σ1 => wM_X6_may r2 (1 : Int32) σ1 (fun r4 σ3 => ((r4 = 0 → bM_X6_left_27 P (0 : Int32) σ3) ∧ (¬ r4 = 0 → vp_in x1 16 ∧ (bM_X6_left_27 P (σ3 24 (x1).toNatClampNeg) σ3)))))
set_option maxRecDepth 4000 in
theorem tbM_X6_left_27 {d : Nat} {E : hg_Et} {X : hg_X} {P : Int32 → hg_M → Prop}  (hC : hg_C hg_FM 2 (d + 2) E cX6_left RX6 X) (hR : hg_Rni hg_FM (some .int) hg_rM P X)  (t0 : Int32) (σ : hg_M) (hw : bM_X6_left_27 P t0 σ) : hg_G hg_FM 2 X 27 [] [.int t0] σ hg_rM := by
  unfold bM_X6_left_27 at hw
  exact hg_reti hC hR dX6_left_27 hw
set_option maxRecDepth 4000 in
theorem tM_X6_left {E : hg_Et} (hE : hg_Eok E) (l : Launch) (d : Nat) (x1 : Int32) (σ : hg_M) (P : Int32 → hg_M → Prop) (hw : wM_X6_left x1 σ P) : hg_Ni hg_FM E l yX6_left cX6_left 2 (some .int) (d + 2) (fun ad => [.ref (ad 0), .int x1]) hg_rM σ P := by
  refine hg_ni hE (by decide) (fun _ => Nat.le_of_ble_eq_true rfl) (fun X hC hR hl => ?_)
  subst hl
  have hC : hg_C hg_FM 2 (d + 2) E cX6_left RX6 X := hC
  show hg_G hg_FM 2 X 0 [(0, .ref (hg_ad X 0)), (1, .int x1)] [] σ hg_rM
  unfold wM_X6_left at hw
  refine hg_aload_n hC dX6_left_0 rfl 0 rfl (n := 1) rfl ?_
  refine hg_iload_n hC dX6_left_1 rfl 1 rfl (n := 2) rfl ?_
  refine hg_i2l hC dX6_left_2 rfl (n := 3) rfl ?_
  refine hg_lconst hC dX6_left_3 hl_l0 (n := 4) rfl ?_
  refine hg_ldc2 hC dX6_left_4 kl_RX6_105 (n := 7) rfl ?_
  refine hg_cSi hC (tM_X6_isIn (hg_Eof hC) X.2.1 (d + 0) _ _ _ _ _ hw) ss_RX6_107 dX6_left_7 rfl (rest := [.ref (hg_ad X 0)]) rfl (Nat.le_of_ble_eq_true rfl) (n := 10) rfl (fun r2 σ1 hw => ?_)
  refine hg_iconst hC dX6_left_10 hl_i1 (n := 11) rfl ?_
  refine hg_cVi hC (tM_X6_may (hg_Eof hC) X.2.1 (d + 0) _ _ _ _ hw) sv_RX6_111 dX6_left_11 qM_0 kM_0 c_6 rfl (rest := []) rfl (Nat.le_of_ble_eq_true rfl) (n := 14) rfl (fun r4 σ3 hw => ?_)
  refine hg_if_eq hC dX6_left_14 (tg := 26) rfl (n := 17) rfl (fun h9 => ?_) (fun h9 => ?_)
  · have hw := hw.1 h9
    refine hg_iconst hC dX6_left_26 hl_i0 (n := 27) rfl ?_
    exact hg_sub [] rfl (tbM_X6_left_27 hC hR  (0 : Int32) σ3 hw)
  · have hw := hw.2 h9
    refine hg_aload_n hC dX6_left_17 rfl 0 rfl (n := 18) rfl ?_
    refine hg_getr hC fl_RX6_84 dX6_left_18 qM_0 kM_0 fM_6_36 rM_0_36 (n := 21) rfl ?_
    refine hg_iload_n hC dX6_left_21 rfl 1 rfl (n := 22) rfl ?_
    obtain ⟨h9, hw⟩ := hw
    refine hg_iald hC dX6_left_22 qM_24 kM_24 h9 (n := 23) rfl ?_
    refine hg_goto hC dX6_left_23 (tg := 27) rfl ?_
    exact hg_sub [] rfl (tbM_X6_left_27 hC hR  (σ3 24 (x1).toNatClampNeg) σ3 hw)
def bM_X6_kept_27 (P : Int32 → hg_M → Prop)  (t0 : Int32) (σ : hg_M) : Prop := P t0 σ
def wM_X6_kept (x1 : Int32) (σ : hg_M) (P : Int32 → hg_M → Prop) : Prop := wM_X6_isIn (x1).toInt64 (0 : Int64) (31 : Int64) σ (fun r2 σ1 => wM_X6_may r2 (1 : Int32) σ1 (fun r4 σ3 => ((r4 = 0 → bM_X6_kept_27 P (0 : Int32) σ3) ∧ (¬ r4 = 0 → vp_in x1 32 ∧ (bM_X6_kept_27 P (σ3 25 (x1).toNatClampNeg) σ3)))))
set_option maxRecDepth 4000 in
theorem tbM_X6_kept_27 {d : Nat} {E : hg_Et} {X : hg_X} {P : Int32 → hg_M → Prop}  (hC : hg_C hg_FM 2 (d + 2) E cX6_kept RX6 X) (hR : hg_Rni hg_FM (some .int) hg_rM P X)  (t0 : Int32) (σ : hg_M) (hw : bM_X6_kept_27 P t0 σ) : hg_G hg_FM 2 X 27 [] [.int t0] σ hg_rM := by
  unfold bM_X6_kept_27 at hw
  exact hg_reti hC hR dX6_kept_27 hw
set_option maxRecDepth 4000 in
theorem tM_X6_kept {E : hg_Et} (hE : hg_Eok E) (l : Launch) (d : Nat) (x1 : Int32) (σ : hg_M) (P : Int32 → hg_M → Prop) (hw : wM_X6_kept x1 σ P) : hg_Ni hg_FM E l yX6_kept cX6_kept 2 (some .int) (d + 2) (fun ad => [.ref (ad 0), .int x1]) hg_rM σ P := by
  refine hg_ni hE (by decide) (fun _ => Nat.le_of_ble_eq_true rfl) (fun X hC hR hl => ?_)
  subst hl
  have hC : hg_C hg_FM 2 (d + 2) E cX6_kept RX6 X := hC
  show hg_G hg_FM 2 X 0 [(0, .ref (hg_ad X 0)), (1, .int x1)] [] σ hg_rM
  unfold wM_X6_kept at hw
  refine hg_aload_n hC dX6_kept_0 rfl 0 rfl (n := 1) rfl ?_
  refine hg_iload_n hC dX6_kept_1 rfl 1 rfl (n := 2) rfl ?_
  refine hg_i2l hC dX6_kept_2 rfl (n := 3) rfl ?_
  refine hg_lconst hC dX6_kept_3 hl_l0 (n := 4) rfl ?_
  refine hg_ldc2 hC dX6_kept_4 kl_RX6_115 (n := 7) rfl ?_
  refine hg_cSi hC (tM_X6_isIn (hg_Eof hC) X.2.1 (d + 0) _ _ _ _ _ hw) ss_RX6_107 dX6_kept_7 rfl (rest := [.ref (hg_ad X 0)]) rfl (Nat.le_of_ble_eq_true rfl) (n := 10) rfl (fun r2 σ1 hw => ?_)
  refine hg_iconst hC dX6_kept_10 hl_i1 (n := 11) rfl ?_
  refine hg_cVi hC (tM_X6_may (hg_Eof hC) X.2.1 (d + 0) _ _ _ _ hw) sv_RX6_111 dX6_kept_11 qM_0 kM_0 c_6 rfl (rest := []) rfl (Nat.le_of_ble_eq_true rfl) (n := 14) rfl (fun r4 σ3 hw => ?_)
  refine hg_if_eq hC dX6_kept_14 (tg := 26) rfl (n := 17) rfl (fun h9 => ?_) (fun h9 => ?_)
  · have hw := hw.1 h9
    refine hg_iconst hC dX6_kept_26 hl_i0 (n := 27) rfl ?_
    exact hg_sub [] rfl (tbM_X6_kept_27 hC hR  (0 : Int32) σ3 hw)
  · have hw := hw.2 h9
    refine hg_aload_n hC dX6_kept_17 rfl 0 rfl (n := 18) rfl ?_
    refine hg_getr hC fl_RX6_87 dX6_kept_18 qM_0 kM_0 fM_6_37 rM_0_37 (n := 21) rfl ?_
    refine hg_iload_n hC dX6_kept_21 rfl 1 rfl (n := 22) rfl ?_
    obtain ⟨h9, hw⟩ := hw
    refine hg_iald hC dX6_kept_22 qM_25 kM_25 h9 (n := 23) rfl ?_
    refine hg_goto hC dX6_kept_23 (tg := 27) rfl ?_
    exact hg_sub [] rfl (tbM_X6_kept_27 hC hR  (σ3 25 (x1).toNatClampNeg) σ3 hw)
def bM_X6_output_31 (P : Int32 → hg_M → Prop)  (t0 : Int32) (σ : hg_M) : Prop := P t0 σ
def wM_X6_output (x1 : Int32) (σ : hg_M) (P : Int32 → hg_M → Prop) : Prop := wM_X6_isIn (x1).toInt64 (0 : Int64) (((σ 0 39) - (1 : Int32))).toInt64 σ (fun r2 σ1 => wM_X6_may r2 (1 : Int32) σ1 (fun r4 σ3 => ((r4 = 0 → bM_X6_output_31 P (0 : Int32) σ3) ∧ (¬ r4 = 0 → vp_in x1 60 ∧ (bM_X6_output_31 P (σ3 26 (x1).toNatClampNeg) σ3)))))
set_option maxRecDepth 4000 in
theorem tbM_X6_output_31 {d : Nat} {E : hg_Et} {X : hg_X} {P : Int32 → hg_M → Prop}  (hC : hg_C hg_FM 2 (d + 2) E cX6_output RX6 X) (hR : hg_Rni hg_FM (some .int) hg_rM P X)  (t0 : Int32) (σ : hg_M) (hw : bM_X6_output_31 P t0 σ) : hg_G hg_FM 2 X 31 [] [.int t0] σ hg_rM := by
  unfold bM_X6_output_31 at hw
  exact hg_reti hC hR dX6_output_31 hw
set_option maxRecDepth 4000 in
theorem tM_X6_output {E : hg_Et} (hE : hg_Eok E) (l : Launch) (d : Nat) (x1 : Int32) (σ : hg_M) (P : Int32 → hg_M → Prop) (hw : wM_X6_output x1 σ P) : hg_Ni hg_FM E l yX6_output cX6_output 2 (some .int) (d + 2) (fun ad => [.ref (ad 0), .int x1]) hg_rM σ P := by
  refine hg_ni hE (by decide) (fun _ => Nat.le_of_ble_eq_true rfl) (fun X hC hR hl => ?_)
  subst hl
  have hC : hg_C hg_FM 2 (d + 2) E cX6_output RX6 X := hC
  show hg_G hg_FM 2 X 0 [(0, .ref (hg_ad X 0)), (1, .int x1)] [] σ hg_rM
  unfold wM_X6_output at hw
  refine hg_aload_n hC dX6_output_0 rfl 0 rfl (n := 1) rfl ?_
  refine hg_iload_n hC dX6_output_1 rfl 1 rfl (n := 2) rfl ?_
  refine hg_i2l hC dX6_output_2 rfl (n := 3) rfl ?_
  refine hg_lconst hC dX6_output_3 hl_l0 (n := 4) rfl ?_
  refine hg_aload_n hC dX6_output_4 rfl 0 rfl (n := 5) rfl ?_
  refine hg_geti hC fl_RX6_282 dX6_output_5 qM_0 kM_0 fM_6_39 (n := 8) rfl ?_
  refine hg_iconst hC dX6_output_8 hl_i1 (n := 9) rfl ?_
  refine hg_isub hC dX6_output_9 (n := 10) rfl ?_
  refine hg_i2l hC dX6_output_10 rfl (n := 11) rfl ?_
  refine hg_cSi hC (tM_X6_isIn (hg_Eof hC) X.2.1 (d + 0) _ _ _ _ _ hw) ss_RX6_107 dX6_output_11 rfl (rest := [.ref (hg_ad X 0)]) rfl (Nat.le_of_ble_eq_true rfl) (n := 14) rfl (fun r2 σ1 hw => ?_)
  refine hg_iconst hC dX6_output_14 hl_i1 (n := 15) rfl ?_
  refine hg_cVi hC (tM_X6_may (hg_Eof hC) X.2.1 (d + 0) _ _ _ _ hw) sv_RX6_111 dX6_output_15 qM_0 kM_0 c_6 rfl (rest := []) rfl (Nat.le_of_ble_eq_true rfl) (n := 18) rfl (fun r4 σ3 hw => ?_)
  refine hg_if_eq hC dX6_output_18 (tg := 30) rfl (n := 21) rfl (fun h9 => ?_) (fun h9 => ?_)
  · have hw := hw.1 h9
    refine hg_iconst hC dX6_output_30 hl_i0 (n := 31) rfl ?_
    exact hg_sub [] rfl (tbM_X6_output_31 hC hR  (0 : Int32) σ3 hw)
  · have hw := hw.2 h9
    refine hg_aload_n hC dX6_output_21 rfl 0 rfl (n := 22) rfl ?_
    refine hg_getr hC fl_RX6_90 dX6_output_22 qM_0 kM_0 fM_6_38 rM_0_38 (n := 25) rfl ?_
    refine hg_iload_n hC dX6_output_25 rfl 1 rfl (n := 26) rfl ?_
    obtain ⟨h9, hw⟩ := hw
    refine hg_iald hC dX6_output_26 qM_26 kM_26 h9 (n := 27) rfl ?_
    refine hg_goto hC dX6_output_27 (tg := 31) rfl ?_
    exact hg_sub [] rfl (tbM_X6_output_31 hC hR  (σ3 26 (x1).toNatClampNeg) σ3 hw)
def bM_X6_countJumps_46 (P : Int32 → hg_M → Prop) (J4 : Int32 → Int32 → hg_M → Prop) (x2 : Int32) (t0 : Int32) (t1 : Int32) (σ : hg_M) : Prop := ∀ v1 : Int32, v1 = (t0 + t1) → ∀ v2 : Int32, v2 = x2 + (1 : Int32) → J4 v1 v2 σ
def bM_X6_countJumps_41 (P : Int32 → hg_M → Prop) (J4 : Int32 → Int32 → hg_M → Prop) (x2 : Int32) (t0 : Int32) (σ : hg_M) : Prop := bM_X6_countJumps_46 P J4 x2 t0 (1 : Int32) σ
def lM_X6_countJumps_4 (P : Int32 → hg_M → Prop)  : Nat → Int32 → Int32 → hg_M → Prop
  | 0, _, _, _ => False
  | n + 1, x1, x2, σ => (((σ 0 20) ≤ x2 → P x1 σ) ∧ (¬ ((σ 0 20) ≤ x2) → vp_in ((6 : Int32) * x2) 24000 ∧ ((((σ 12 (((6 : Int32) * x2)).toNatClampNeg) = (16 : Int32) → bM_X6_countJumps_41 P (fun k0 k1 k2 => lM_X6_countJumps_4 P n k0 k1 k2) x2 x1 σ) ∧ (¬ ((σ 12 (((6 : Int32) * x2)).toNatClampNeg) = (16 : Int32)) → vp_in ((6 : Int32) * x2) 24000 ∧ ((((σ 12 (((6 : Int32) * x2)).toNatClampNeg) ≠ (17 : Int32) → bM_X6_countJumps_46 P (fun k0 k1 k2 => lM_X6_countJumps_4 P n k0 k1 k2) x2 x1 (0 : Int32) σ) ∧ ((σ 12 (((6 : Int32) * x2)).toNatClampNeg) = (17 : Int32) → bM_X6_countJumps_41 P (fun k0 k1 k2 => lM_X6_countJumps_4 P n k0 k1 k2) x2 x1 σ))))))))
def wM_X6_countJumps  (σ : hg_M) (P : Int32 → hg_M → Prop) : Prop := (∃ f9, lM_X6_countJumps_4 P f9 (0 : Int32) (0 : Int32) σ)
set_option maxRecDepth 4000 in
theorem tbM_X6_countJumps_46 {d : Nat} {E : hg_Et} {X : hg_X} {P : Int32 → hg_M → Prop} {J4 : Int32 → Int32 → hg_M → Prop} (hC : hg_C hg_FM 3 (d + 1) E cX6_countJumps RX6 X) (hR : hg_Rni hg_FM (some .int) hg_rM P X) (hJ4 : ∀ (x1 : Int32) (x2 : Int32) (σ : hg_M), J4 x1 x2 σ → hg_G hg_FM 3 X 4 [(0, .ref (hg_ad X 0)), (1, .int x1), (2, .int x2)] [] σ hg_rM) (x2 : Int32) (t0 : Int32) (t1 : Int32) (σ : hg_M) (hw : bM_X6_countJumps_46 P J4 x2 t0 t1 σ) : hg_G hg_FM 3 X 46 [(0, .ref (hg_ad X 0)), (2, .int x2)] [.int t1, .int t0] σ hg_rM := by
  unfold bM_X6_countJumps_46 at hw
  refine hg_iadd hC dX6_countJumps_46 (n := 47) rfl ?_
  refine hg_topi (fun v1 ev1 => ?_)
  have hw := hw v1 ev1
  refine hg_istore_n hC (L1 := [(1, .int v1), (0, .ref (hg_ad X 0)), (2, .int x2)]) dX6_countJumps_47 rfl (by decide) rfl (n := 48) rfl ?_
  obtain ⟨v2, ev2⟩ : ∃ z, z = x2 + (1 : Int32) := ⟨_, rfl⟩
  have hw := hw v2 ev2
  refine hg_iinc hC (v := v2) (L1 := [(2, .int v2), (1, .int v1), (0, .ref (hg_ad X 0))]) dX6_countJumps_48 2 rfl (by rw [hl_i1, ev2]) (by decide) rfl (n := 51) rfl ?_
  refine hg_goto hC dX6_countJumps_51 (tg := 4) rfl ?_
  exact hg_sub [2, 1, 0] rfl (hJ4 v1 v2 σ hw)
set_option maxRecDepth 4000 in
theorem tbM_X6_countJumps_41 {d : Nat} {E : hg_Et} {X : hg_X} {P : Int32 → hg_M → Prop} {J4 : Int32 → Int32 → hg_M → Prop} (hC : hg_C hg_FM 3 (d + 1) E cX6_countJumps RX6 X) (hR : hg_Rni hg_FM (some .int) hg_rM P X) (hJ4 : ∀ (x1 : Int32) (x2 : Int32) (σ : hg_M), J4 x1 x2 σ → hg_G hg_FM 3 X 4 [(0, .ref (hg_ad X 0)), (1, .int x1), (2, .int x2)] [] σ hg_rM) (x2 : Int32) (t0 : Int32) (σ : hg_M) (hw : bM_X6_countJumps_41 P J4 x2 t0 σ) : hg_G hg_FM 3 X 41 [(0, .ref (hg_ad X 0)), (2, .int x2)] [.int t0] σ hg_rM := by
  unfold bM_X6_countJumps_41 at hw
  refine hg_iconst hC dX6_countJumps_41 hl_i1 (n := 42) rfl ?_
  refine hg_goto hC dX6_countJumps_42 (tg := 46) rfl ?_
  exact tbM_X6_countJumps_46 hC hR hJ4 x2 t0 (1 : Int32) σ hw
set_option maxRecDepth 4000 in
theorem tlM_X6_countJumps_4 {d : Nat} {E : hg_Et} {X : hg_X} {P : Int32 → hg_M → Prop}  (hC : hg_C hg_FM 3 (d + 1) E cX6_countJumps RX6 X) (hR : hg_Rni hg_FM (some .int) hg_rM P X)  (n : Nat) : ∀ (x1 : Int32) (x2 : Int32) (σ : hg_M), lM_X6_countJumps_4 P n x1 x2 σ → hg_G hg_FM 3 X 4 [(0, .ref (hg_ad X 0)), (1, .int x1), (2, .int x2)] [] σ hg_rM := by
  induction n with
  | zero =>
    intro x1 x2 σ hw
    rw [lM_X6_countJumps_4] at hw
    exact hw.elim
  | succ n ih =>
    intro x1 x2 σ hw
    rw [lM_X6_countJumps_4] at hw
    refine hg_iload_n hC dX6_countJumps_4 rfl 2 rfl (n := 5) rfl ?_
    refine hg_aload_n hC dX6_countJumps_5 rfl 0 rfl (n := 6) rfl ?_
    refine hg_geti hC fl_RX6_199 dX6_countJumps_6 qM_0 kM_0 fM_6_20 (n := 9) rfl ?_
    refine hg_icmp_ge hC dX6_countJumps_9 (tg := 54) rfl (n := 12) rfl (fun h9 => ?_) (fun h9 => ?_)
    · have hw := hw.1 h9
      refine hg_iload_n hC dX6_countJumps_54 rfl 1 rfl (n := 55) rfl ?_
      exact hg_reti hC hR dX6_countJumps_55 hw
    · have hw := hw.2 h9
      refine hg_iload_n hC dX6_countJumps_12 rfl 1 rfl (n := 13) rfl ?_
      refine hg_aload_n hC dX6_countJumps_13 rfl 0 rfl (n := 14) rfl ?_
      refine hg_getr hC fl_RX6_44 dX6_countJumps_14 qM_0 kM_0 fM_6_19 rM_0_19 (n := 17) rfl ?_
      refine hg_bipush hC dX6_countJumps_17 hl_b6 (n := 19) rfl ?_
      refine hg_iload_n hC dX6_countJumps_19 rfl 2 rfl (n := 20) rfl ?_
      refine hg_imul hC dX6_countJumps_20 (n := 21) rfl ?_
      obtain ⟨h9, hw⟩ := hw
      refine hg_iald hC dX6_countJumps_21 qM_12 kM_12 h9 (n := 22) rfl ?_
      refine hg_bipush hC dX6_countJumps_22 hl_b16 (n := 24) rfl ?_
      refine hg_icmp_eq hC dX6_countJumps_24 (tg := 41) rfl (n := 27) rfl (fun h9 => ?_) (fun h9 => ?_)
      · have hw := hw.1 h9
        exact hg_sub [0, 2] rfl (tbM_X6_countJumps_41 hC hR ih x2 x1 σ hw)
      · have hw := hw.2 h9
        refine hg_aload_n hC dX6_countJumps_27 rfl 0 rfl (n := 28) rfl ?_
        refine hg_getr hC fl_RX6_44 dX6_countJumps_28 qM_0 kM_0 fM_6_19 rM_0_19 (n := 31) rfl ?_
        refine hg_bipush hC dX6_countJumps_31 hl_b6 (n := 33) rfl ?_
        refine hg_iload_n hC dX6_countJumps_33 rfl 2 rfl (n := 34) rfl ?_
        refine hg_imul hC dX6_countJumps_34 (n := 35) rfl ?_
        obtain ⟨h9, hw⟩ := hw
        refine hg_iald hC dX6_countJumps_35 qM_12 kM_12 h9 (n := 36) rfl ?_
        refine hg_bipush hC dX6_countJumps_36 hl_b17 (n := 38) rfl ?_
        refine hg_icmp_ne hC dX6_countJumps_38 (tg := 45) rfl (n := 41) rfl (fun h9 => ?_) (fun h9 => ?_)
        · have hw := hw.1 h9
          refine hg_iconst hC dX6_countJumps_45 hl_i0 (n := 46) rfl ?_
          exact hg_sub [0, 2] rfl (tbM_X6_countJumps_46 hC hR ih x2 x1 (0 : Int32) σ hw)
        · have hw := hw.2 h9
          exact hg_sub [0, 2] rfl (tbM_X6_countJumps_41 hC hR ih x2 x1 σ hw)
set_option maxRecDepth 4000 in
theorem tM_X6_countJumps {E : hg_Et} (hE : hg_Eok E) (l : Launch) (d : Nat)  (σ : hg_M) (P : Int32 → hg_M → Prop) (hw : wM_X6_countJumps  σ P) : hg_Ni hg_FM E l yX6_countJumps cX6_countJumps 3 (some .int) (d + 1) (fun ad => [.ref (ad 0)]) hg_rM σ P := by
  refine hg_ni hE (by decide) (fun _ => Nat.le_of_ble_eq_true rfl) (fun X hC hR hl => ?_)
  subst hl
  have hC : hg_C hg_FM 3 (d + 1) E cX6_countJumps RX6 X := hC
  show hg_G hg_FM 3 X 0 [(0, .ref (hg_ad X 0))] [] σ hg_rM
  unfold wM_X6_countJumps at hw
  refine hg_iconst hC dX6_countJumps_0 hl_i0 (n := 1) rfl ?_
  refine hg_istore_n hC (L1 := [(1, .int (0 : Int32)), (0, .ref (hg_ad X 0))]) dX6_countJumps_1 rfl (by decide) rfl (n := 2) rfl ?_
  refine hg_iconst hC dX6_countJumps_2 hl_i0 (n := 3) rfl ?_
  refine hg_istore_n hC (L1 := [(2, .int (0 : Int32)), (1, .int (0 : Int32)), (0, .ref (hg_ad X 0))]) dX6_countJumps_3 rfl (by decide) rfl (n := 4) rfl ?_
  obtain ⟨n9, hw⟩ := hw
  exact hg_sub [2, 1, 0] rfl (tlM_X6_countJumps_4 hC hR  n9 (0 : Int32) (0 : Int32) σ hw)
def bM_X6_countConverted_27 (P : Int32 → hg_M → Prop) (J4 : Int32 → Int32 → hg_M → Prop) (x2 : Int32) (t0 : Int32) (t1 : Int32) (σ : hg_M) : Prop := ∀ v1 : Int32, v1 = (t0 + t1) → ∀ v2 : Int32, v2 = x2 + (1 : Int32) → J4 v1 v2 σ
def lM_X6_countConverted_4 (P : Int32 → hg_M → Prop)  : Nat → Int32 → Int32 → hg_M → Prop
  | 0, _, _, _ => False
  | n + 1, x1, x2, σ => (((σ 0 9) ≤ x2 → P x1 σ) ∧ (¬ ((σ 0 9) ≤ x2) → vp_in x2 60 ∧ ((((σ 13 (x2).toNatClampNeg) = 0 → bM_X6_countConverted_27 P (fun k0 k1 k2 => lM_X6_countConverted_4 P n k0 k1 k2) x2 x1 (0 : Int32) σ) ∧ (¬ (σ 13 (x2).toNatClampNeg) = 0 → bM_X6_countConverted_27 P (fun k0 k1 k2 => lM_X6_countConverted_4 P n k0 k1 k2) x2 x1 (1 : Int32) σ)))))
def wM_X6_countConverted  (σ : hg_M) (P : Int32 → hg_M → Prop) : Prop := (∃ f9, lM_X6_countConverted_4 P f9 (0 : Int32) (0 : Int32) σ)
set_option maxRecDepth 4000 in
theorem tbM_X6_countConverted_27 {d : Nat} {E : hg_Et} {X : hg_X} {P : Int32 → hg_M → Prop} {J4 : Int32 → Int32 → hg_M → Prop} (hC : hg_C hg_FM 3 (d + 1) E cX6_countConverted RX6 X) (hR : hg_Rni hg_FM (some .int) hg_rM P X) (hJ4 : ∀ (x1 : Int32) (x2 : Int32) (σ : hg_M), J4 x1 x2 σ → hg_G hg_FM 3 X 4 [(0, .ref (hg_ad X 0)), (1, .int x1), (2, .int x2)] [] σ hg_rM) (x2 : Int32) (t0 : Int32) (t1 : Int32) (σ : hg_M) (hw : bM_X6_countConverted_27 P J4 x2 t0 t1 σ) : hg_G hg_FM 3 X 27 [(0, .ref (hg_ad X 0)), (2, .int x2)] [.int t1, .int t0] σ hg_rM := by
  unfold bM_X6_countConverted_27 at hw
  refine hg_iadd hC dX6_countConverted_27 (n := 28) rfl ?_
  refine hg_topi (fun v1 ev1 => ?_)
  have hw := hw v1 ev1
  refine hg_istore_n hC (L1 := [(1, .int v1), (0, .ref (hg_ad X 0)), (2, .int x2)]) dX6_countConverted_28 rfl (by decide) rfl (n := 29) rfl ?_
  obtain ⟨v2, ev2⟩ : ∃ z, z = x2 + (1 : Int32) := ⟨_, rfl⟩
  have hw := hw v2 ev2
  refine hg_iinc hC (v := v2) (L1 := [(2, .int v2), (1, .int v1), (0, .ref (hg_ad X 0))]) dX6_countConverted_29 2 rfl (by rw [hl_i1, ev2]) (by decide) rfl (n := 32) rfl ?_
  refine hg_goto hC dX6_countConverted_32 (tg := 4) rfl ?_
  exact hg_sub [2, 1, 0] rfl (hJ4 v1 v2 σ hw)
set_option maxRecDepth 4000 in
theorem tlM_X6_countConverted_4 {d : Nat} {E : hg_Et} {X : hg_X} {P : Int32 → hg_M → Prop}  (hC : hg_C hg_FM 3 (d + 1) E cX6_countConverted RX6 X) (hR : hg_Rni hg_FM (some .int) hg_rM P X)  (n : Nat) : ∀ (x1 : Int32) (x2 : Int32) (σ : hg_M), lM_X6_countConverted_4 P n x1 x2 σ → hg_G hg_FM 3 X 4 [(0, .ref (hg_ad X 0)), (1, .int x1), (2, .int x2)] [] σ hg_rM := by
  induction n with
  | zero =>
    intro x1 x2 σ hw
    rw [lM_X6_countConverted_4] at hw
    exact hw.elim
  | succ n ih =>
    intro x1 x2 σ hw
    rw [lM_X6_countConverted_4] at hw
    refine hg_iload_n hC dX6_countConverted_4 rfl 2 rfl (n := 5) rfl ?_
    refine hg_aload_n hC dX6_countConverted_5 rfl 0 rfl (n := 6) rfl ?_
    refine hg_geti hC fl_RX6_192 dX6_countConverted_6 qM_0 kM_0 fM_6_9 (n := 9) rfl ?_
    refine hg_icmp_ge hC dX6_countConverted_9 (tg := 35) rfl (n := 12) rfl (fun h9 => ?_) (fun h9 => ?_)
    · have hw := hw.1 h9
      refine hg_iload_n hC dX6_countConverted_35 rfl 1 rfl (n := 36) rfl ?_
      exact hg_reti hC hR dX6_countConverted_36 hw
    · have hw := hw.2 h9
      refine hg_iload_n hC dX6_countConverted_12 rfl 1 rfl (n := 13) rfl ?_
      refine hg_aload_n hC dX6_countConverted_13 rfl 0 rfl (n := 14) rfl ?_
      refine hg_getr hC fl_RX6_51 dX6_countConverted_14 qM_0 kM_0 fM_6_23 rM_0_23 (n := 17) rfl ?_
      refine hg_iload_n hC dX6_countConverted_17 rfl 2 rfl (n := 18) rfl ?_
      obtain ⟨h9, hw⟩ := hw
      refine hg_zald hC dX6_countConverted_18 qM_13 kM_13 h9 (n := 19) rfl ?_
      refine hg_if_eq hC dX6_countConverted_19 (tg := 26) rfl (n := 22) rfl (fun h9 => ?_) (fun h9 => ?_)
      · have hw := hw.1 h9
        refine hg_iconst hC dX6_countConverted_26 hl_i0 (n := 27) rfl ?_
        exact hg_sub [0, 2] rfl (tbM_X6_countConverted_27 hC hR ih x2 x1 (0 : Int32) σ hw)
      · have hw := hw.2 h9
        refine hg_iconst hC dX6_countConverted_22 hl_i1 (n := 23) rfl ?_
        refine hg_goto hC dX6_countConverted_23 (tg := 27) rfl ?_
        exact hg_sub [0, 2] rfl (tbM_X6_countConverted_27 hC hR ih x2 x1 (1 : Int32) σ hw)
set_option maxRecDepth 4000 in
theorem tM_X6_countConverted {E : hg_Et} (hE : hg_Eok E) (l : Launch) (d : Nat)  (σ : hg_M) (P : Int32 → hg_M → Prop) (hw : wM_X6_countConverted  σ P) : hg_Ni hg_FM E l yX6_countConverted cX6_countConverted 3 (some .int) (d + 1) (fun ad => [.ref (ad 0)]) hg_rM σ P := by
  refine hg_ni hE (by decide) (fun _ => Nat.le_of_ble_eq_true rfl) (fun X hC hR hl => ?_)
  subst hl
  have hC : hg_C hg_FM 3 (d + 1) E cX6_countConverted RX6 X := hC
  show hg_G hg_FM 3 X 0 [(0, .ref (hg_ad X 0))] [] σ hg_rM
  unfold wM_X6_countConverted at hw
  refine hg_iconst hC dX6_countConverted_0 hl_i0 (n := 1) rfl ?_
  refine hg_istore_n hC (L1 := [(1, .int (0 : Int32)), (0, .ref (hg_ad X 0))]) dX6_countConverted_1 rfl (by decide) rfl (n := 2) rfl ?_
  refine hg_iconst hC dX6_countConverted_2 hl_i0 (n := 3) rfl ?_
  refine hg_istore_n hC (L1 := [(2, .int (0 : Int32)), (1, .int (0 : Int32)), (0, .ref (hg_ad X 0))]) dX6_countConverted_3 rfl (by decide) rfl (n := 4) rfl ?_
  obtain ⟨n9, hw⟩ := hw
  exact hg_sub [2, 1, 0] rfl (tlM_X6_countConverted_4 hC hR  n9 (0 : Int32) (0 : Int32) σ hw)
def wM_X6_count (x1 : Int32) (σ : hg_M) (P : Int32 → hg_M → Prop) : Prop := wM_X6_isIn (x1).toInt64 (0 : Int64) (8 : Int64) σ (fun r2 σ1 => wM_X6_may r2 (1 : Int32) σ1 (fun r4 σ3 => ((r4 ≠ 0 → ((((x1).toInt < 0 ∨ 7 < (x1).toInt) → P (σ3 0 41) σ3) ∧ ((x1).toInt = 0 → P (σ3 0 9) σ3) ∧ ((x1).toInt = 1 → P (σ3 0 20) σ3) ∧ ((x1).toInt = 2 → P (σ3 0 21) σ3) ∧ ((x1).toInt = 3 → wM_X6_countJumps σ3 (fun r6 σ5 => P r6 σ5)) ∧ ((x1).toInt = 4 → wM_X6_countConverted σ3 (fun r8 σ7 => P r8 σ7)) ∧ ((x1).toInt = 5 → P (σ3 0 39) σ3) ∧ ((x1).toInt = 6 → P (σ3 0 4) σ3) ∧ ((x1).toInt = 7 → P (σ3 0 40) σ3))) ∧ (r4 = 0 → P (0 : Int32) σ3))))
set_option maxRecDepth 4000 in
theorem tM_X6_count {E : hg_Et} (hE : hg_Eok E) (l : Launch) (d : Nat) (x1 : Int32) (σ : hg_M) (P : Int32 → hg_M → Prop) (hw : wM_X6_count x1 σ P) : hg_Ni hg_FM E l yX6_count cX6_count 2 (some .int) (d + 2) (fun ad => [.ref (ad 0), .int x1]) hg_rM σ P := by
  refine hg_ni hE (by decide) (fun _ => Nat.le_of_ble_eq_true rfl) (fun X hC hR hl => ?_)
  subst hl
  have hC : hg_C hg_FM 2 (d + 2) E cX6_count RX6 X := hC
  show hg_G hg_FM 2 X 0 [(0, .ref (hg_ad X 0)), (1, .int x1)] [] σ hg_rM
  unfold wM_X6_count at hw
  refine hg_aload_n hC dX6_count_0 rfl 0 rfl (n := 1) rfl ?_
  refine hg_iload_n hC dX6_count_1 rfl 1 rfl (n := 2) rfl ?_
  refine hg_i2l hC dX6_count_2 rfl (n := 3) rfl ?_
  refine hg_lconst hC dX6_count_3 hl_l0 (n := 4) rfl ?_
  refine hg_ldc2 hC dX6_count_4 kl_RX6_117 (n := 7) rfl ?_
  refine hg_cSi hC (tM_X6_isIn (hg_Eof hC) X.2.1 (d + 0) _ _ _ _ _ hw) ss_RX6_107 dX6_count_7 rfl (rest := [.ref (hg_ad X 0)]) rfl (Nat.le_of_ble_eq_true rfl) (n := 10) rfl (fun r2 σ1 hw => ?_)
  refine hg_iconst hC dX6_count_10 hl_i1 (n := 11) rfl ?_
  refine hg_cVi hC (tM_X6_may (hg_Eof hC) X.2.1 (d + 0) _ _ _ _ hw) sv_RX6_111 dX6_count_11 qM_0 kM_0 c_6 rfl (rest := []) rfl (Nat.le_of_ble_eq_true rfl) (n := 14) rfl (fun r4 σ3 hw => ?_)
  refine hg_if_ne hC dX6_count_14 (tg := 19) rfl (n := 17) rfl (fun h9 => ?_) (fun h9 => ?_)
  · have hw := hw.1 h9
    refine hg_iload_n hC dX6_count_19 rfl 1 rfl (n := 20) rfl ?_
    by_cases hsw : (x1).toInt < 0 ∨ 7 < (x1).toInt
    · have hw := hw.1 hsw
      refine hg_tout hC dX6_count_20 hsw (tg := 108) rfl ?_
      refine hg_aload_n hC dX6_count_108 rfl 0 rfl (n := 109) rfl ?_
      refine hg_geti hC fl_RX6_285 dX6_count_109 qM_0 kM_0 fM_6_41 (n := 112) rfl ?_
      exact hg_reti hC hR dX6_count_112 hw
    · rcases (show (x1).toInt = 0 ∨ (x1).toInt = 1 ∨ (x1).toInt = 2 ∨ (x1).toInt = 3 ∨ (x1).toInt = 4 ∨ (x1).toInt = 5 ∨ (x1).toInt = 6 ∨ (x1).toInt = 7 by omega) with hsx | hsx | hsx | hsx | hsx | hsx | hsx | hsx
      · have hw := hw.2.1 hsx
        refine hg_tin hC dX6_count_20 hsx (by decide) (by decide) (by rfl) (tg := 68) rfl ?_
        refine hg_aload_n hC dX6_count_68 rfl 0 rfl (n := 69) rfl ?_
        refine hg_geti hC fl_RX6_192 dX6_count_69 qM_0 kM_0 fM_6_9 (n := 72) rfl ?_
        exact hg_reti hC hR dX6_count_72 hw
      · have hw := hw.2.2.1 hsx
        refine hg_tin hC dX6_count_20 hsx (by decide) (by decide) (by rfl) (tg := 73) rfl ?_
        refine hg_aload_n hC dX6_count_73 rfl 0 rfl (n := 74) rfl ?_
        refine hg_geti hC fl_RX6_199 dX6_count_74 qM_0 kM_0 fM_6_20 (n := 77) rfl ?_
        exact hg_reti hC hR dX6_count_77 hw
      · have hw := hw.2.2.2.1 hsx
        refine hg_tin hC dX6_count_20 hsx (by decide) (by decide) (by rfl) (tg := 78) rfl ?_
        refine hg_aload_n hC dX6_count_78 rfl 0 rfl (n := 79) rfl ?_
        refine hg_geti hC fl_RX6_47 dX6_count_79 qM_0 kM_0 fM_6_21 (n := 82) rfl ?_
        exact hg_reti hC hR dX6_count_82 hw
      · have hw := hw.2.2.2.2.1 hsx
        refine hg_tin hC dX6_count_20 hsx (by decide) (by decide) (by rfl) (tg := 83) rfl ?_
        refine hg_aload_n hC dX6_count_83 rfl 0 rfl (n := 84) rfl ?_
        refine hg_cVi hC (tM_X6_countJumps (hg_Eof hC) X.2.1 (d + 0) _ _ hw) sv_RX6_319 dX6_count_84 qM_0 kM_0 c_6 rfl (rest := []) rfl (Nat.le_of_ble_eq_true rfl) (n := 87) rfl (fun r6 σ5 hw => ?_)
        exact hg_reti hC hR dX6_count_87 hw
      · have hw := hw.2.2.2.2.2.1 hsx
        refine hg_tin hC dX6_count_20 hsx (by decide) (by decide) (by rfl) (tg := 88) rfl ?_
        refine hg_aload_n hC dX6_count_88 rfl 0 rfl (n := 89) rfl ?_
        refine hg_cVi hC (tM_X6_countConverted (hg_Eof hC) X.2.1 (d + 0) _ _ hw) sv_RX6_322 dX6_count_89 qM_0 kM_0 c_6 rfl (rest := []) rfl (Nat.le_of_ble_eq_true rfl) (n := 92) rfl (fun r8 σ7 hw => ?_)
        exact hg_reti hC hR dX6_count_92 hw
      · have hw := hw.2.2.2.2.2.2.1 hsx
        refine hg_tin hC dX6_count_20 hsx (by decide) (by decide) (by rfl) (tg := 93) rfl ?_
        refine hg_aload_n hC dX6_count_93 rfl 0 rfl (n := 94) rfl ?_
        refine hg_geti hC fl_RX6_282 dX6_count_94 qM_0 kM_0 fM_6_39 (n := 97) rfl ?_
        exact hg_reti hC hR dX6_count_97 hw
      · have hw := hw.2.2.2.2.2.2.2.1 hsx
        refine hg_tin hC dX6_count_20 hsx (by decide) (by decide) (by rfl) (tg := 98) rfl ?_
        refine hg_aload_n hC dX6_count_98 rfl 0 rfl (n := 99) rfl ?_
        refine hg_geti hC fl_RX6_119 dX6_count_99 qM_0 kM_0 fM_6_4 (n := 102) rfl ?_
        exact hg_reti hC hR dX6_count_102 hw
      · have hw := hw.2.2.2.2.2.2.2.2 hsx
        refine hg_tin hC dX6_count_20 hsx (by decide) (by decide) (by rfl) (tg := 103) rfl ?_
        refine hg_aload_n hC dX6_count_103 rfl 0 rfl (n := 104) rfl ?_
        refine hg_geti hC fl_RX6_93 dX6_count_104 qM_0 kM_0 fM_6_40 (n := 107) rfl ?_
        exact hg_reti hC hR dX6_count_107 hw
  · have hw := hw.2 h9
    refine hg_iconst hC dX6_count_17 hl_i0 (n := 18) rfl ?_
    exact hg_reti hC hR dX6_count_18 hw
def bM_X6_lowerOne_271 (P : hg_M → Prop)   (σ : hg_M) : Prop := P σ
def bM_X6_lowerOne_196 (P : hg_M → Prop)  (x1 : Int32) (t0 : Int32) (σ : hg_M) : Prop := wM_X6_target x1 σ (fun r32 σ31 => wM_X6_emit (14 : Int32) r32 t0 (0 : Int32) (0 : Int32) σ31 (fun r34 σ33 => bM_X6_lowerOne_271 P σ33))
def bM_X6_lowerOne_195 (P : hg_M → Prop)  (x1 : Int32) (x2 : Int32) (σ : hg_M) : Prop := bM_X6_lowerOne_196 P x1 x2 σ
def bM_X6_lowerOne_136 (P : hg_M → Prop)  (x1 : Int32) (x2 : Int32) (t0 : Int32) (σ : hg_M) : Prop := wM_X6_target x1 σ (fun r40 σ39 => wM_X6_of x1 (2 : Int32) σ39 (fun r42 σ41 => wM_X6_emit r42 r40 x2 t0 (0 : Int32) σ41 (fun r44 σ43 => bM_X6_lowerOne_271 P σ43)))
def bM_X6_lowerOne_135 (P : hg_M → Prop)  (x1 : Int32) (x2 : Int32) (x3 : Int32) (σ : hg_M) : Prop := bM_X6_lowerOne_136 P x1 x2 x3 σ
def bM_X6_lowerOne_112 (P : hg_M → Prop)  (x1 : Int32) (x2 : Int32) (x3 : Int32) (t0 : Int32) (σ : hg_M) : Prop := wM_X6_isOnSide σ (fun r36 σ35 => ((r36 = 0 → bM_X6_lowerOne_135 P x1 x2 x3 σ35) ∧ (¬ r36 = 0 → ((t0 = 0 → bM_X6_lowerOne_135 P x1 x2 x3 σ35) ∧ (¬ t0 = 0 → wM_X6_harmless x3 (1 : Int32) σ35 (fun r38 σ37 => bM_X6_lowerOne_136 P x1 x2 r38 σ37))))))
def bM_X6_lowerOne_111 (P : hg_M → Prop)  (x1 : Int32) (x2 : Int32) (x3 : Int32) (σ : hg_M) : Prop := bM_X6_lowerOne_112 P x1 x2 x3 (0 : Int32) σ
def bM_X6_lowerOne_107 (P : hg_M → Prop)  (x1 : Int32) (x2 : Int32) (x3 : Int32) (σ : hg_M) : Prop := bM_X6_lowerOne_112 P x1 x2 x3 (1 : Int32) σ
def bM_X6_lowerOne_87 (P : hg_M → Prop)  (x1 : Int32) (x2 : Int32) (x3 : Int32) (σ : hg_M) : Prop := wM_X6_of x1 (5 : Int32) σ (fun r46 σ45 => ((r46 = (1 : Int32) → bM_X6_lowerOne_107 P x1 x2 x3 σ45) ∧ (¬ (r46 = (1 : Int32)) → wM_X6_of x1 (6 : Int32) σ45 (fun r48 σ47 => ((r48 ≠ 0 → bM_X6_lowerOne_111 P x1 x2 x3 σ47) ∧ (r48 = 0 → bM_X6_lowerOne_107 P x1 x2 x3 σ47))))))
def wM_X6_lowerOne (x1 : Int32) (σ : hg_M) (P : hg_M → Prop) : Prop := ∀ σ1 : hg_M, σ1 = hg_set σ 0 24 x1 → wM_X6_of x1 (0 : Int32) σ1 (fun r3 σ2 => ((((r3).toInt < 0 ∨ 4 < (r3).toInt) → wM_X6_beginTest x1 σ2 (fun σ4 => bM_X6_lowerOne_271 P σ4)) ∧ ((r3).toInt = 0 → wM_X6_lowerSet x1 σ2 (fun σ5 => bM_X6_lowerOne_271 P σ5)) ∧ ((r3).toInt = 1 → wM_X6_value x1 (3 : Int32) σ2 (fun r7 σ6 => wM_X6_value x1 (5 : Int32) σ6 (fun r9 σ8 => wM_X6_of x1 (2 : Int32) σ8 (fun r11 σ10 => ((r11 = (5 : Int32) → bM_X6_lowerOne_87 P x1 r7 r9 σ10) ∧ (¬ (r11 = (5 : Int32)) → wM_X6_of x1 (2 : Int32) σ10 (fun r13 σ12 => ((r13 ≠ (6 : Int32) → bM_X6_lowerOne_111 P x1 r7 r9 σ12) ∧ (r13 = (6 : Int32) → bM_X6_lowerOne_87 P x1 r7 r9 σ12))))))))) ∧ ((r3).toInt = 2 → wM_X6_value x1 (3 : Int32) σ2 (fun r15 σ14 => wM_X6_isOnSide σ14 (fun r17 σ16 => ((r17 = 0 → bM_X6_lowerOne_195 P x1 r15 σ16) ∧ (¬ r17 = 0 → wM_X6_isPlainIndex x1 σ16 (fun r19 σ18 => ((r19 ≠ 0 → bM_X6_lowerOne_195 P x1 r15 σ18) ∧ (r19 = 0 → wM_X6_harmless r15 (0 : Int32) σ18 (fun r21 σ20 => bM_X6_lowerOne_196 P x1 r21 σ20))))))))) ∧ ((r3).toInt = 3 → wM_X6_value x1 (3 : Int32) σ2 (fun r23 σ22 => wM_X6_value x1 (5 : Int32) σ22 (fun r25 σ24 => wM_X6_lowerStore x1 r23 r25 σ24 (fun σ26 => bM_X6_lowerOne_271 P σ26)))) ∧ ((r3).toInt = 4 → wM_X6_value x1 (3 : Int32) σ2 (fun r28 σ27 => wM_X6_emit (18 : Int32) r28 (0 : Int32) (0 : Int32) (0 : Int32) σ27 (fun r30 σ29 => bM_X6_lowerOne_271 P σ29)))))
set_option maxRecDepth 4000 in
theorem tbM_X6_lowerOne_271 {d : Nat} {E : hg_Et} {X : hg_X} {P : hg_M → Prop}  (hC : hg_C hg_FM 8 (d + 5) E cX6_lowerOne RX6 X) (hR : hg_Rnv hg_FM hg_rM P X)   (σ : hg_M) (hw : bM_X6_lowerOne_271 P  σ) : hg_G hg_FM 8 X 271 [] [] σ hg_rM := by
  unfold bM_X6_lowerOne_271 at hw
  exact hg_retv hC hR dX6_lowerOne_271 hw
set_option maxRecDepth 4000 in
theorem tbM_X6_lowerOne_196 {d : Nat} {E : hg_Et} {X : hg_X} {P : hg_M → Prop}  (hC : hg_C hg_FM 8 (d + 5) E cX6_lowerOne RX6 X) (hR : hg_Rnv hg_FM hg_rM P X)  (x1 : Int32) (t0 : Int32) (σ : hg_M) (hw : bM_X6_lowerOne_196 P x1 t0 σ) : hg_G hg_FM 8 X 196 [(0, .ref (hg_ad X 0)), (1, .int x1)] [.int t0] σ hg_rM := by
  unfold bM_X6_lowerOne_196 at hw
  refine hg_istore_n hC (L1 := [(2, .int t0), (0, .ref (hg_ad X 0)), (1, .int x1)]) dX6_lowerOne_196 rfl (by decide) rfl (n := 197) rfl ?_
  refine hg_aload_n hC dX6_lowerOne_197 rfl 1 rfl (n := 198) rfl ?_
  refine hg_iload_n hC dX6_lowerOne_198 rfl 2 rfl (n := 199) rfl ?_
  refine hg_cVi hC (tM_X6_target (hg_Eof hC) X.2.1 (d + 2) _ _ _ hw) sv_RX6_232 dX6_lowerOne_199 qM_0 kM_0 c_6 rfl (rest := []) rfl (Nat.le_of_ble_eq_true rfl) (n := 202) rfl (fun r32 σ31 hw => ?_)
  refine hg_istore hC (L1 := [(7, .int r32), (2, .int t0), (0, .ref (hg_ad X 0)), (1, .int x1)]) dX6_lowerOne_202 (by decide) rfl (n := 204) rfl ?_
  refine hg_aload_n hC dX6_lowerOne_204 rfl 2 rfl (n := 205) rfl ?_
  refine hg_bipush hC dX6_lowerOne_205 hl_b14 (n := 207) rfl ?_
  refine hg_iload hC dX6_lowerOne_207 0 rfl (n := 209) rfl ?_
  refine hg_iload_n hC dX6_lowerOne_209 rfl 1 rfl (n := 210) rfl ?_
  refine hg_iconst hC dX6_lowerOne_210 hl_i0 (n := 211) rfl ?_
  refine hg_iconst hC dX6_lowerOne_211 hl_i0 (n := 212) rfl ?_
  refine hg_cVi hC (tM_X6_emit (hg_Eof hC) X.2.1 (d + 3) _ _ _ _ _ _ _ hw) sv_RX6_208 dX6_lowerOne_212 qM_0 kM_0 c_6 rfl (rest := []) rfl (Nat.le_of_ble_eq_true rfl) (n := 215) rfl (fun r34 σ33 hw => ?_)
  refine hg_istore hC (L1 := [(4, .int r34), (7, .int r32), (2, .int t0), (0, .ref (hg_ad X 0)), (1, .int x1)]) dX6_lowerOne_215 (by decide) rfl (n := 217) rfl ?_
  refine hg_goto hC dX6_lowerOne_217 (tg := 271) rfl ?_
  exact hg_sub [] rfl (tbM_X6_lowerOne_271 hC hR  σ33 hw)
set_option maxRecDepth 4000 in
theorem tbM_X6_lowerOne_195 {d : Nat} {E : hg_Et} {X : hg_X} {P : hg_M → Prop}  (hC : hg_C hg_FM 8 (d + 5) E cX6_lowerOne RX6 X) (hR : hg_Rnv hg_FM hg_rM P X)  (x1 : Int32) (x2 : Int32) (σ : hg_M) (hw : bM_X6_lowerOne_195 P x1 x2 σ) : hg_G hg_FM 8 X 195 [(0, .ref (hg_ad X 0)), (1, .int x1), (2, .int x2)] [] σ hg_rM := by
  unfold bM_X6_lowerOne_195 at hw
  refine hg_iload_n hC dX6_lowerOne_195 rfl 2 rfl (n := 196) rfl ?_
  exact hg_sub [0, 1] rfl (tbM_X6_lowerOne_196 hC hR  x1 x2 σ hw)
set_option maxRecDepth 4000 in
theorem tbM_X6_lowerOne_136 {d : Nat} {E : hg_Et} {X : hg_X} {P : hg_M → Prop}  (hC : hg_C hg_FM 8 (d + 5) E cX6_lowerOne RX6 X) (hR : hg_Rnv hg_FM hg_rM P X)  (x1 : Int32) (x2 : Int32) (t0 : Int32) (σ : hg_M) (hw : bM_X6_lowerOne_136 P x1 x2 t0 σ) : hg_G hg_FM 8 X 136 [(0, .ref (hg_ad X 0)), (1, .int x1), (2, .int x2)] [.int t0] σ hg_rM := by
  unfold bM_X6_lowerOne_136 at hw
  refine hg_istore_n hC (L1 := [(3, .int t0), (0, .ref (hg_ad X 0)), (1, .int x1), (2, .int x2)]) dX6_lowerOne_136 rfl (by decide) rfl (n := 137) rfl ?_
  refine hg_aload_n hC dX6_lowerOne_137 rfl 1 rfl (n := 138) rfl ?_
  refine hg_iload_n hC dX6_lowerOne_138 rfl 2 rfl (n := 139) rfl ?_
  refine hg_cVi hC (tM_X6_target (hg_Eof hC) X.2.1 (d + 2) _ _ _ hw) sv_RX6_232 dX6_lowerOne_139 qM_0 kM_0 c_6 rfl (rest := []) rfl (Nat.le_of_ble_eq_true rfl) (n := 142) rfl (fun r40 σ39 hw => ?_)
  refine hg_istore hC (L1 := [(6, .int r40), (3, .int t0), (0, .ref (hg_ad X 0)), (1, .int x1), (2, .int x2)]) dX6_lowerOne_142 (by decide) rfl (n := 144) rfl ?_
  refine hg_aload_n hC dX6_lowerOne_144 rfl 2 rfl (n := 145) rfl ?_
  refine hg_aload_n hC dX6_lowerOne_145 rfl 2 rfl (n := 146) rfl ?_
  refine hg_iload_n hC dX6_lowerOne_146 rfl 3 rfl (n := 147) rfl ?_
  refine hg_iconst hC dX6_lowerOne_147 hl_i2 (n := 148) rfl ?_
  refine hg_cVi hC (tM_X6_of (hg_Eof hC) X.2.1 (d + 3) _ _ _ _ hw) sv_RX6_212 dX6_lowerOne_148 qM_0 kM_0 c_6 rfl (rest := [.ref (hg_ad X 0)]) rfl (Nat.le_of_ble_eq_true rfl) (n := 151) rfl (fun r42 σ41 hw => ?_)
  refine hg_iload hC dX6_lowerOne_151 0 rfl (n := 153) rfl ?_
  refine hg_iload_n hC dX6_lowerOne_153 rfl 4 rfl (n := 154) rfl ?_
  refine hg_iload_n hC dX6_lowerOne_154 rfl 1 rfl (n := 155) rfl ?_
  refine hg_iconst hC dX6_lowerOne_155 hl_i0 (n := 156) rfl ?_
  refine hg_cVi hC (tM_X6_emit (hg_Eof hC) X.2.1 (d + 3) _ _ _ _ _ _ _ hw) sv_RX6_208 dX6_lowerOne_156 qM_0 kM_0 c_6 rfl (rest := []) rfl (Nat.le_of_ble_eq_true rfl) (n := 159) rfl (fun r44 σ43 hw => ?_)
  refine hg_istore hC (L1 := [(4, .int r44), (6, .int r40), (3, .int t0), (0, .ref (hg_ad X 0)), (1, .int x1), (2, .int x2)]) dX6_lowerOne_159 (by decide) rfl (n := 161) rfl ?_
  refine hg_goto hC dX6_lowerOne_161 (tg := 271) rfl ?_
  exact hg_sub [] rfl (tbM_X6_lowerOne_271 hC hR  σ43 hw)
set_option maxRecDepth 4000 in
theorem tbM_X6_lowerOne_135 {d : Nat} {E : hg_Et} {X : hg_X} {P : hg_M → Prop}  (hC : hg_C hg_FM 8 (d + 5) E cX6_lowerOne RX6 X) (hR : hg_Rnv hg_FM hg_rM P X)  (x1 : Int32) (x2 : Int32) (x3 : Int32) (σ : hg_M) (hw : bM_X6_lowerOne_135 P x1 x2 x3 σ) : hg_G hg_FM 8 X 135 [(0, .ref (hg_ad X 0)), (1, .int x1), (2, .int x2), (3, .int x3)] [] σ hg_rM := by
  unfold bM_X6_lowerOne_135 at hw
  refine hg_iload_n hC dX6_lowerOne_135 rfl 3 rfl (n := 136) rfl ?_
  exact hg_sub [0, 1, 2] rfl (tbM_X6_lowerOne_136 hC hR  x1 x2 x3 σ hw)
set_option maxRecDepth 4000 in
theorem tbM_X6_lowerOne_112 {d : Nat} {E : hg_Et} {X : hg_X} {P : hg_M → Prop}  (hC : hg_C hg_FM 8 (d + 5) E cX6_lowerOne RX6 X) (hR : hg_Rnv hg_FM hg_rM P X)  (x1 : Int32) (x2 : Int32) (x3 : Int32) (t0 : Int32) (σ : hg_M) (hw : bM_X6_lowerOne_112 P x1 x2 x3 t0 σ) : hg_G hg_FM 8 X 112 [(0, .ref (hg_ad X 0)), (1, .int x1), (2, .int x2), (3, .int x3)] [.int t0] σ hg_rM := by
  unfold bM_X6_lowerOne_112 at hw
  refine hg_istore hC (L1 := [(5, .int t0), (0, .ref (hg_ad X 0)), (1, .int x1), (2, .int x2), (3, .int x3)]) dX6_lowerOne_112 (by decide) rfl (n := 114) rfl ?_
  refine hg_aload_n hC dX6_lowerOne_114 rfl 1 rfl (n := 115) rfl ?_
  refine hg_cVi hC (tM_X6_isOnSide (hg_Eof hC) X.2.1 (d + 3) _ _ hw) sv_RX6_228 dX6_lowerOne_115 qM_0 kM_0 c_6 rfl (rest := []) rfl (Nat.le_of_ble_eq_true rfl) (n := 118) rfl (fun r36 σ35 hw => ?_)
  refine hg_if_eq hC dX6_lowerOne_118 (tg := 135) rfl (n := 121) rfl (fun h9 => ?_) (fun h9 => ?_)
  · have hw := hw.1 h9
    exact hg_sub [1, 2, 3, 4] rfl (tbM_X6_lowerOne_135 hC hR  x1 x2 x3 σ35 hw)
  · have hw := hw.2 h9
    refine hg_iload hC dX6_lowerOne_121 0 rfl (n := 123) rfl ?_
    refine hg_if_eq hC dX6_lowerOne_123 (tg := 135) rfl (n := 126) rfl (fun h9 => ?_) (fun h9 => ?_)
    · have hw := hw.1 h9
      exact hg_sub [1, 2, 3, 4] rfl (tbM_X6_lowerOne_135 hC hR  x1 x2 x3 σ35 hw)
    · have hw := hw.2 h9
      refine hg_aload_n hC dX6_lowerOne_126 rfl 1 rfl (n := 127) rfl ?_
      refine hg_iload_n hC dX6_lowerOne_127 rfl 4 rfl (n := 128) rfl ?_
      refine hg_iconst hC dX6_lowerOne_128 hl_i1 (n := 129) rfl ?_
      refine hg_cVi hC (tM_X6_harmless (hg_Eof hC) X.2.1 (d + 1) _ _ _ _ hw) sv_RX6_238 dX6_lowerOne_129 qM_0 kM_0 c_6 rfl (rest := []) rfl (Nat.le_of_ble_eq_true rfl) (n := 132) rfl (fun r38 σ37 hw => ?_)
      refine hg_goto hC dX6_lowerOne_132 (tg := 136) rfl ?_
      exact hg_sub [1, 2, 3] rfl (tbM_X6_lowerOne_136 hC hR  x1 x2 r38 σ37 hw)
set_option maxRecDepth 4000 in
theorem tbM_X6_lowerOne_111 {d : Nat} {E : hg_Et} {X : hg_X} {P : hg_M → Prop}  (hC : hg_C hg_FM 8 (d + 5) E cX6_lowerOne RX6 X) (hR : hg_Rnv hg_FM hg_rM P X)  (x1 : Int32) (x2 : Int32) (x3 : Int32) (σ : hg_M) (hw : bM_X6_lowerOne_111 P x1 x2 x3 σ) : hg_G hg_FM 8 X 111 [(0, .ref (hg_ad X 0)), (1, .int x1), (2, .int x2), (3, .int x3)] [] σ hg_rM := by
  unfold bM_X6_lowerOne_111 at hw
  refine hg_iconst hC dX6_lowerOne_111 hl_i0 (n := 112) rfl ?_
  exact tbM_X6_lowerOne_112 hC hR  x1 x2 x3 (0 : Int32) σ hw
set_option maxRecDepth 4000 in
theorem tbM_X6_lowerOne_107 {d : Nat} {E : hg_Et} {X : hg_X} {P : hg_M → Prop}  (hC : hg_C hg_FM 8 (d + 5) E cX6_lowerOne RX6 X) (hR : hg_Rnv hg_FM hg_rM P X)  (x1 : Int32) (x2 : Int32) (x3 : Int32) (σ : hg_M) (hw : bM_X6_lowerOne_107 P x1 x2 x3 σ) : hg_G hg_FM 8 X 107 [(0, .ref (hg_ad X 0)), (1, .int x1), (2, .int x2), (3, .int x3)] [] σ hg_rM := by
  unfold bM_X6_lowerOne_107 at hw
  refine hg_iconst hC dX6_lowerOne_107 hl_i1 (n := 108) rfl ?_
  refine hg_goto hC dX6_lowerOne_108 (tg := 112) rfl ?_
  exact tbM_X6_lowerOne_112 hC hR  x1 x2 x3 (1 : Int32) σ hw
set_option maxRecDepth 4000 in
theorem tbM_X6_lowerOne_87 {d : Nat} {E : hg_Et} {X : hg_X} {P : hg_M → Prop}  (hC : hg_C hg_FM 8 (d + 5) E cX6_lowerOne RX6 X) (hR : hg_Rnv hg_FM hg_rM P X)  (x1 : Int32) (x2 : Int32) (x3 : Int32) (σ : hg_M) (hw : bM_X6_lowerOne_87 P x1 x2 x3 σ) : hg_G hg_FM 8 X 87 [(0, .ref (hg_ad X 0)), (1, .int x1), (2, .int x2), (3, .int x3)] [] σ hg_rM := by
  unfold bM_X6_lowerOne_87 at hw
  refine hg_aload_n hC dX6_lowerOne_87 rfl 0 rfl (n := 88) rfl ?_
  refine hg_iload_n hC dX6_lowerOne_88 rfl 1 rfl (n := 89) rfl ?_
  refine hg_iconst hC dX6_lowerOne_89 hl_i5 (n := 90) rfl ?_
  refine hg_cVi hC (tM_X6_of (hg_Eof hC) X.2.1 (d + 3) _ _ _ _ hw) sv_RX6_212 dX6_lowerOne_90 qM_0 kM_0 c_6 rfl (rest := []) rfl (Nat.le_of_ble_eq_true rfl) (n := 93) rfl (fun r46 σ45 hw => ?_)
  refine hg_iconst hC dX6_lowerOne_93 hl_i1 (n := 94) rfl ?_
  refine hg_icmp_eq hC dX6_lowerOne_94 (tg := 107) rfl (n := 97) rfl (fun h9 => ?_) (fun h9 => ?_)
  · have hw := hw.1 h9
    exact tbM_X6_lowerOne_107 hC hR  x1 x2 x3 σ45 hw
  · have hw := hw.2 h9
    refine hg_aload_n hC dX6_lowerOne_97 rfl 0 rfl (n := 98) rfl ?_
    refine hg_iload_n hC dX6_lowerOne_98 rfl 1 rfl (n := 99) rfl ?_
    refine hg_bipush hC dX6_lowerOne_99 hl_b6 (n := 101) rfl ?_
    refine hg_cVi hC (tM_X6_of (hg_Eof hC) X.2.1 (d + 3) _ _ _ _ hw) sv_RX6_212 dX6_lowerOne_101 qM_0 kM_0 c_6 rfl (rest := []) rfl (Nat.le_of_ble_eq_true rfl) (n := 104) rfl (fun r48 σ47 hw => ?_)
    refine hg_if_ne hC dX6_lowerOne_104 (tg := 111) rfl (n := 107) rfl (fun h9 => ?_) (fun h9 => ?_)
    · have hw := hw.1 h9
      exact tbM_X6_lowerOne_111 hC hR  x1 x2 x3 σ47 hw
    · have hw := hw.2 h9
      exact tbM_X6_lowerOne_107 hC hR  x1 x2 x3 σ47 hw
set_option maxRecDepth 4000 in
theorem tM_X6_lowerOne {E : hg_Et} (hE : hg_Eok E) (l : Launch) (d : Nat) (x1 : Int32) (σ : hg_M) (P : hg_M → Prop) (hw : wM_X6_lowerOne x1 σ P) : hg_Nv hg_FM E l yX6_lowerOne cX6_lowerOne 8 (d + 5) (fun ad => [.ref (ad 0), .int x1]) hg_rM σ P := by
  refine hg_nv hE (by decide) (fun _ => Nat.le_of_ble_eq_true rfl) (fun X hC hR hl => ?_)
  subst hl
  have hC : hg_C hg_FM 8 (d + 5) E cX6_lowerOne RX6 X := hC
  show hg_G hg_FM 8 X 0 [(0, .ref (hg_ad X 0)), (1, .int x1)] [] σ hg_rM
  unfold wM_X6_lowerOne at hw
  refine hg_aload_n hC dX6_lowerOne_0 rfl 0 rfl (n := 1) rfl ?_
  refine hg_iload_n hC dX6_lowerOne_1 rfl 1 rfl (n := 2) rfl ?_
  refine hg_puti hC fp_RX6_202 dX6_lowerOne_2 qM_0 kM_0 fM_6_24 rfl rfl (n := 5) rfl (fun σ1 eσ1 => ?_)
  have hw := hw σ1 eσ1
  refine hg_aload_n hC dX6_lowerOne_5 rfl 0 rfl (n := 6) rfl ?_
  refine hg_iload_n hC dX6_lowerOne_6 rfl 1 rfl (n := 7) rfl ?_
  refine hg_iconst hC dX6_lowerOne_7 hl_i0 (n := 8) rfl ?_
  refine hg_cVi hC (tM_X6_of (hg_Eof hC) X.2.1 (d + 3) _ _ _ _ hw) sv_RX6_212 dX6_lowerOne_8 qM_0 kM_0 c_6 rfl (rest := []) rfl (Nat.le_of_ble_eq_true rfl) (n := 11) rfl (fun r3 σ2 hw => ?_)
  by_cases hsw : (r3).toInt < 0 ∨ 4 < (r3).toInt
  · have hw := hw.1 hsw
    refine hg_tout hC dX6_lowerOne_11 hsw (tg := 266) rfl ?_
    refine hg_aload_n hC dX6_lowerOne_266 rfl 0 rfl (n := 267) rfl ?_
    refine hg_iload_n hC dX6_lowerOne_267 rfl 1 rfl (n := 268) rfl ?_
    refine hg_cVv hC (tM_X6_beginTest (hg_Eof hC) X.2.1 (d + 0) _ _ _ hw) sv_RX6_248 dX6_lowerOne_268 qM_0 kM_0 c_6 rfl (rest := []) rfl (Nat.le_of_ble_eq_true rfl) (n := 271) rfl (fun σ4 hw => ?_)
    exact hg_sub [] rfl (tbM_X6_lowerOne_271 hC hR  σ4 hw)
  · rcases (show (r3).toInt = 0 ∨ (r3).toInt = 1 ∨ (r3).toInt = 2 ∨ (r3).toInt = 3 ∨ (r3).toInt = 4 by omega) with hsx | hsx | hsx | hsx | hsx
    · have hw := hw.2.1 hsx
      refine hg_tin hC dX6_lowerOne_11 hsx (by decide) (by decide) (by rfl) (tg := 44) rfl ?_
      refine hg_aload_n hC dX6_lowerOne_44 rfl 0 rfl (n := 45) rfl ?_
      refine hg_iload_n hC dX6_lowerOne_45 rfl 1 rfl (n := 46) rfl ?_
      refine hg_cVv hC (tM_X6_lowerSet (hg_Eof hC) X.2.1 (d + 1) _ _ _ hw) sv_RX6_235 dX6_lowerOne_46 qM_0 kM_0 c_6 rfl (rest := []) rfl (Nat.le_of_ble_eq_true rfl) (n := 49) rfl (fun σ5 hw => ?_)
      refine hg_goto hC dX6_lowerOne_49 (tg := 271) rfl ?_
      exact hg_sub [] rfl (tbM_X6_lowerOne_271 hC hR  σ5 hw)
    · have hw := hw.2.2.1 hsx
      refine hg_tin hC dX6_lowerOne_11 hsx (by decide) (by decide) (by rfl) (tg := 52) rfl ?_
      refine hg_aload_n hC dX6_lowerOne_52 rfl 0 rfl (n := 53) rfl ?_
      refine hg_iload_n hC dX6_lowerOne_53 rfl 1 rfl (n := 54) rfl ?_
      refine hg_iconst hC dX6_lowerOne_54 hl_i3 (n := 55) rfl ?_
      refine hg_cVi hC (tM_X6_value (hg_Eof hC) X.2.1 (d + 1) _ _ _ _ hw) sv_RX6_222 dX6_lowerOne_55 qM_0 kM_0 c_6 rfl (rest := []) rfl (Nat.le_of_ble_eq_true rfl) (n := 58) rfl (fun r7 σ6 hw => ?_)
      refine hg_istore_n hC (L1 := [(2, .int r7), (0, .ref (hg_ad X 0)), (1, .int x1)]) dX6_lowerOne_58 rfl (by decide) rfl (n := 59) rfl ?_
      refine hg_aload_n hC dX6_lowerOne_59 rfl 1 rfl (n := 60) rfl ?_
      refine hg_iload_n hC dX6_lowerOne_60 rfl 2 rfl (n := 61) rfl ?_
      refine hg_iconst hC dX6_lowerOne_61 hl_i5 (n := 62) rfl ?_
      refine hg_cVi hC (tM_X6_value (hg_Eof hC) X.2.1 (d + 1) _ _ _ _ hw) sv_RX6_222 dX6_lowerOne_62 qM_0 kM_0 c_6 rfl (rest := []) rfl (Nat.le_of_ble_eq_true rfl) (n := 65) rfl (fun r9 σ8 hw => ?_)
      refine hg_istore_n hC (L1 := [(3, .int r9), (2, .int r7), (0, .ref (hg_ad X 0)), (1, .int x1)]) dX6_lowerOne_65 rfl (by decide) rfl (n := 66) rfl ?_
      refine hg_aload_n hC dX6_lowerOne_66 rfl 2 rfl (n := 67) rfl ?_
      refine hg_iload_n hC dX6_lowerOne_67 rfl 3 rfl (n := 68) rfl ?_
      refine hg_iconst hC dX6_lowerOne_68 hl_i2 (n := 69) rfl ?_
      refine hg_cVi hC (tM_X6_of (hg_Eof hC) X.2.1 (d + 3) _ _ _ _ hw) sv_RX6_212 dX6_lowerOne_69 qM_0 kM_0 c_6 rfl (rest := []) rfl (Nat.le_of_ble_eq_true rfl) (n := 72) rfl (fun r11 σ10 hw => ?_)
      refine hg_iconst hC dX6_lowerOne_72 hl_i5 (n := 73) rfl ?_
      refine hg_icmp_eq hC dX6_lowerOne_73 (tg := 87) rfl (n := 76) rfl (fun h9 => ?_) (fun h9 => ?_)
      · have hw := hw.1 h9
        exact hg_sub [2, 3, 1, 0] rfl (tbM_X6_lowerOne_87 hC hR  x1 r7 r9 σ10 hw)
      · have hw := hw.2 h9
        refine hg_aload_n hC dX6_lowerOne_76 rfl 2 rfl (n := 77) rfl ?_
        refine hg_iload_n hC dX6_lowerOne_77 rfl 3 rfl (n := 78) rfl ?_
        refine hg_iconst hC dX6_lowerOne_78 hl_i2 (n := 79) rfl ?_
        refine hg_cVi hC (tM_X6_of (hg_Eof hC) X.2.1 (d + 3) _ _ _ _ hw) sv_RX6_212 dX6_lowerOne_79 qM_0 kM_0 c_6 rfl (rest := []) rfl (Nat.le_of_ble_eq_true rfl) (n := 82) rfl (fun r13 σ12 hw => ?_)
        refine hg_bipush hC dX6_lowerOne_82 hl_b6 (n := 84) rfl ?_
        refine hg_icmp_ne hC dX6_lowerOne_84 (tg := 111) rfl (n := 87) rfl (fun h9 => ?_) (fun h9 => ?_)
        · have hw := hw.1 h9
          exact hg_sub [2, 3, 1, 0] rfl (tbM_X6_lowerOne_111 hC hR  x1 r7 r9 σ12 hw)
        · have hw := hw.2 h9
          exact hg_sub [2, 3, 1, 0] rfl (tbM_X6_lowerOne_87 hC hR  x1 r7 r9 σ12 hw)
    · have hw := hw.2.2.2.1 hsx
      refine hg_tin hC dX6_lowerOne_11 hsx (by decide) (by decide) (by rfl) (tg := 164) rfl ?_
      refine hg_aload_n hC dX6_lowerOne_164 rfl 0 rfl (n := 165) rfl ?_
      refine hg_iload_n hC dX6_lowerOne_165 rfl 1 rfl (n := 166) rfl ?_
      refine hg_iconst hC dX6_lowerOne_166 hl_i3 (n := 167) rfl ?_
      refine hg_cVi hC (tM_X6_value (hg_Eof hC) X.2.1 (d + 1) _ _ _ _ hw) sv_RX6_222 dX6_lowerOne_167 qM_0 kM_0 c_6 rfl (rest := []) rfl (Nat.le_of_ble_eq_true rfl) (n := 170) rfl (fun r15 σ14 hw => ?_)
      refine hg_istore_n hC (L1 := [(2, .int r15), (0, .ref (hg_ad X 0)), (1, .int x1)]) dX6_lowerOne_170 rfl (by decide) rfl (n := 171) rfl ?_
      refine hg_aload_n hC dX6_lowerOne_171 rfl 1 rfl (n := 172) rfl ?_
      refine hg_cVi hC (tM_X6_isOnSide (hg_Eof hC) X.2.1 (d + 3) _ _ hw) sv_RX6_228 dX6_lowerOne_172 qM_0 kM_0 c_6 rfl (rest := []) rfl (Nat.le_of_ble_eq_true rfl) (n := 175) rfl (fun r17 σ16 hw => ?_)
      refine hg_if_eq hC dX6_lowerOne_175 (tg := 195) rfl (n := 178) rfl (fun h9 => ?_) (fun h9 => ?_)
      · have hw := hw.1 h9
        exact hg_sub [1, 2, 0] rfl (tbM_X6_lowerOne_195 hC hR  x1 r15 σ16 hw)
      · have hw := hw.2 h9
        refine hg_aload_n hC dX6_lowerOne_178 rfl 1 rfl (n := 179) rfl ?_
        refine hg_iload_n hC dX6_lowerOne_179 rfl 2 rfl (n := 180) rfl ?_
        refine hg_cVi hC (tM_X6_isPlainIndex (hg_Eof hC) X.2.1 (d + 2) _ _ _ hw) sv_RX6_241 dX6_lowerOne_180 qM_0 kM_0 c_6 rfl (rest := []) rfl (Nat.le_of_ble_eq_true rfl) (n := 183) rfl (fun r19 σ18 hw => ?_)
        refine hg_if_ne hC dX6_lowerOne_183 (tg := 195) rfl (n := 186) rfl (fun h9 => ?_) (fun h9 => ?_)
        · have hw := hw.1 h9
          exact hg_sub [1, 2, 0] rfl (tbM_X6_lowerOne_195 hC hR  x1 r15 σ18 hw)
        · have hw := hw.2 h9
          refine hg_aload_n hC dX6_lowerOne_186 rfl 1 rfl (n := 187) rfl ?_
          refine hg_iload_n hC dX6_lowerOne_187 rfl 0 rfl (n := 188) rfl ?_
          refine hg_iconst hC dX6_lowerOne_188 hl_i0 (n := 189) rfl ?_
          refine hg_cVi hC (tM_X6_harmless (hg_Eof hC) X.2.1 (d + 1) _ _ _ _ hw) sv_RX6_238 dX6_lowerOne_189 qM_0 kM_0 c_6 rfl (rest := []) rfl (Nat.le_of_ble_eq_true rfl) (n := 192) rfl (fun r21 σ20 hw => ?_)
          refine hg_goto hC dX6_lowerOne_192 (tg := 196) rfl ?_
          exact hg_sub [1, 2] rfl (tbM_X6_lowerOne_196 hC hR  x1 r21 σ20 hw)
    · have hw := hw.2.2.2.2.1 hsx
      refine hg_tin hC dX6_lowerOne_11 hsx (by decide) (by decide) (by rfl) (tg := 220) rfl ?_
      refine hg_aload_n hC dX6_lowerOne_220 rfl 0 rfl (n := 221) rfl ?_
      refine hg_iload_n hC dX6_lowerOne_221 rfl 1 rfl (n := 222) rfl ?_
      refine hg_iconst hC dX6_lowerOne_222 hl_i3 (n := 223) rfl ?_
      refine hg_cVi hC (tM_X6_value (hg_Eof hC) X.2.1 (d + 1) _ _ _ _ hw) sv_RX6_222 dX6_lowerOne_223 qM_0 kM_0 c_6 rfl (rest := []) rfl (Nat.le_of_ble_eq_true rfl) (n := 226) rfl (fun r23 σ22 hw => ?_)
      refine hg_istore_n hC (L1 := [(2, .int r23), (0, .ref (hg_ad X 0)), (1, .int x1)]) dX6_lowerOne_226 rfl (by decide) rfl (n := 227) rfl ?_
      refine hg_aload_n hC dX6_lowerOne_227 rfl 1 rfl (n := 228) rfl ?_
      refine hg_iload_n hC dX6_lowerOne_228 rfl 2 rfl (n := 229) rfl ?_
      refine hg_iconst hC dX6_lowerOne_229 hl_i5 (n := 230) rfl ?_
      refine hg_cVi hC (tM_X6_value (hg_Eof hC) X.2.1 (d + 1) _ _ _ _ hw) sv_RX6_222 dX6_lowerOne_230 qM_0 kM_0 c_6 rfl (rest := []) rfl (Nat.le_of_ble_eq_true rfl) (n := 233) rfl (fun r25 σ24 hw => ?_)
      refine hg_istore_n hC (L1 := [(3, .int r25), (2, .int r23), (0, .ref (hg_ad X 0)), (1, .int x1)]) dX6_lowerOne_233 rfl (by decide) rfl (n := 234) rfl ?_
      refine hg_aload_n hC dX6_lowerOne_234 rfl 2 rfl (n := 235) rfl ?_
      refine hg_iload_n hC dX6_lowerOne_235 rfl 3 rfl (n := 236) rfl ?_
      refine hg_iload_n hC dX6_lowerOne_236 rfl 1 rfl (n := 237) rfl ?_
      refine hg_iload_n hC dX6_lowerOne_237 rfl 0 rfl (n := 238) rfl ?_
      refine hg_cVv hC (tM_X6_lowerStore (hg_Eof hC) X.2.1 (d + 0) _ _ _ _ _ hw) sv_RX6_244 dX6_lowerOne_238 qM_0 kM_0 c_6 rfl (rest := []) rfl (Nat.le_of_ble_eq_true rfl) (n := 241) rfl (fun σ26 hw => ?_)
      refine hg_goto hC dX6_lowerOne_241 (tg := 271) rfl ?_
      exact hg_sub [] rfl (tbM_X6_lowerOne_271 hC hR  σ26 hw)
    · have hw := hw.2.2.2.2.2 hsx
      refine hg_tin hC dX6_lowerOne_11 hsx (by decide) (by decide) (by rfl) (tg := 244) rfl ?_
      refine hg_aload_n hC dX6_lowerOne_244 rfl 0 rfl (n := 245) rfl ?_
      refine hg_iload_n hC dX6_lowerOne_245 rfl 1 rfl (n := 246) rfl ?_
      refine hg_iconst hC dX6_lowerOne_246 hl_i3 (n := 247) rfl ?_
      refine hg_cVi hC (tM_X6_value (hg_Eof hC) X.2.1 (d + 1) _ _ _ _ hw) sv_RX6_222 dX6_lowerOne_247 qM_0 kM_0 c_6 rfl (rest := []) rfl (Nat.le_of_ble_eq_true rfl) (n := 250) rfl (fun r28 σ27 hw => ?_)
      refine hg_istore_n hC (L1 := [(2, .int r28), (0, .ref (hg_ad X 0)), (1, .int x1)]) dX6_lowerOne_250 rfl (by decide) rfl (n := 251) rfl ?_
      refine hg_aload_n hC dX6_lowerOne_251 rfl 1 rfl (n := 252) rfl ?_
      refine hg_bipush hC dX6_lowerOne_252 hl_b18 (n := 254) rfl ?_
      refine hg_iload_n hC dX6_lowerOne_254 rfl 0 rfl (n := 255) rfl ?_
      refine hg_iconst hC dX6_lowerOne_255 hl_i0 (n := 256) rfl ?_
      refine hg_iconst hC dX6_lowerOne_256 hl_i0 (n := 257) rfl ?_
      refine hg_iconst hC dX6_lowerOne_257 hl_i0 (n := 258) rfl ?_
      refine hg_cVi hC (tM_X6_emit (hg_Eof hC) X.2.1 (d + 3) _ _ _ _ _ _ _ hw) sv_RX6_208 dX6_lowerOne_258 qM_0 kM_0 c_6 rfl (rest := []) rfl (Nat.le_of_ble_eq_true rfl) (n := 261) rfl (fun r30 σ29 hw => ?_)
      refine hg_istore hC (L1 := [(4, .int r30), (2, .int r28), (0, .ref (hg_ad X 0)), (1, .int x1)]) dX6_lowerOne_261 (by decide) rfl (n := 263) rfl ?_
      refine hg_goto hC dX6_lowerOne_263 (tg := 271) rfl ?_
      exact hg_sub [] rfl (tbM_X6_lowerOne_271 hC hR  σ29 hw)
def bM_X6_lowerAll_180 (P : hg_M → Prop) (J42 : Int32 → Int32 → Int32 → hg_M → Prop) (x2 : Int32) (x3 : Int32) (x4 : Int32) (σ : hg_M) : Prop := J42 x2 x3 x4 σ
def bM_X6_lowerAll_165 (P : hg_M → Prop) (J42 : Int32 → Int32 → Int32 → hg_M → Prop) (x2 : Int32) (x3 : Int32) (t0 : Int32) (σ : hg_M) : Prop := ((t0 = 0 → bM_X6_lowerAll_180 P J42 x2 x3 t0 σ) ∧ (¬ t0 = 0 → wM_X6_lowerOne x3 σ (fun σ10 => ∀ v11 : Int32, v11 = x3 + (1 : Int32) → bM_X6_lowerAll_180 P J42 x2 v11 t0 σ10)))
def bM_X6_lowerAll_155 (P : hg_M → Prop) (J42 : Int32 → Int32 → Int32 → hg_M → Prop) (x2 : Int32) (x3 : Int32) (σ : hg_M) : Prop := ((x2 ≤ x3 → bM_X6_lowerAll_165 P J42 x2 x3 (0 : Int32) σ) ∧ (¬ (x2 ≤ x3) → bM_X6_lowerAll_165 P J42 x2 x3 (1 : Int32) σ))
def bM_X6_lowerAll_152 (P : hg_M → Prop) (J42 : Int32 → Int32 → Int32 → hg_M → Prop) (J50 : Int32 → Int32 → Int32 → hg_M → Prop) (x2 : Int32) (x3 : Int32) (x5 : Int32) (σ : hg_M) : Prop := J50 x2 x3 x5 σ
def bM_X6_lowerAll_141 (P : hg_M → Prop) (J42 : Int32 → Int32 → Int32 → hg_M → Prop) (J50 : Int32 → Int32 → Int32 → hg_M → Prop) (x2 : Int32) (x3 : Int32) (x5 : Int32) (x6 : Int32) (σ : hg_M) : Prop := ((x5 = 0 → bM_X6_lowerAll_152 P J42 J50 x2 x3 x5 σ) ∧ (¬ x5 = 0 → wM_X6_endFirst x6 σ (fun σ9 => bM_X6_lowerAll_152 P J42 J50 x2 x3 x5 σ9)))
def bM_X6_lowerAll_115 (P : hg_M → Prop) (J42 : Int32 → Int32 → Int32 → hg_M → Prop) (J50 : Int32 → Int32 → Int32 → hg_M → Prop) (x2 : Int32) (x3 : Int32) (x6 : Int32) (t0 : Int32) (σ : hg_M) : Prop := ((t0 = 0 → bM_X6_lowerAll_141 P J42 J50 x2 x3 t0 x6 σ) ∧ (¬ t0 = 0 → vp_in x6 8 ∧ ((((σ 16 (x6).toNatClampNeg) = 0 → bM_X6_lowerAll_141 P J42 J50 x2 x3 t0 x6 σ) ∧ (¬ (σ 16 (x6).toNatClampNeg) = 0 → wM_X6_endSecond x6 σ (fun σ8 => bM_X6_lowerAll_152 P J42 J50 x2 x3 t0 σ8))))))
def bM_X6_lowerAll_107 (P : hg_M → Prop) (J42 : Int32 → Int32 → Int32 → hg_M → Prop) (J50 : Int32 → Int32 → Int32 → hg_M → Prop) (x2 : Int32) (x3 : Int32) (x6 : Int32) (t0 : Int32) (t1 : Int32) (σ : hg_M) : Prop := ((t0 ≠ t1 → bM_X6_lowerAll_115 P J42 J50 x2 x3 x6 (0 : Int32) σ) ∧ (t0 = t1 → bM_X6_lowerAll_115 P J42 J50 x2 x3 x6 (1 : Int32) σ))
def lM_X6_lowerAll_50 (P : hg_M → Prop) (J42 : Int32 → Int32 → Int32 → hg_M → Prop) : Nat → Int32 → Int32 → Int32 → hg_M → Prop
  | 0, _, _, _, _ => False
  | n + 1, x2, x3, x5, σ => ((x5 = 0 → bM_X6_lowerAll_155 P J42 x2 x3 σ) ∧ (¬ x5 = 0 → (((σ 0 26) ≤ 0 → bM_X6_lowerAll_155 P J42 x2 x3 σ) ∧ (¬ (σ 0 26) ≤ 0 → ∀ v6 : Int32, v6 = ((σ 0 26) - (1 : Int32)) → vp_in v6 8 ∧ (∀ v7 : Int32, v7 = (σ 15 (v6).toNatClampNeg) → vp_in v6 8 ∧ ((((σ 16 (v6).toNatClampNeg) = 0 → vp_in v7 60 ∧ (bM_X6_lowerAll_107 P J42 (fun k0 k1 k2 k3 => lM_X6_lowerAll_50 P J42 n k0 k1 k2 k3) x2 x3 v6 x3 (σ 8 (v7).toNatClampNeg) σ)) ∧ (¬ (σ 16 (v6).toNatClampNeg) = 0 → vp_in v7 60 ∧ (bM_X6_lowerAll_107 P J42 (fun k0 k1 k2 k3 => lM_X6_lowerAll_50 P J42 n k0 k1 k2 k3) x2 x3 v6 x3 (σ 9 (v7).toNatClampNeg) σ)))))))))
def lM_X6_lowerAll_42 (P : hg_M → Prop)  : Nat → Int32 → Int32 → Int32 → hg_M → Prop
  | 0, _, _, _, _ => False
  | n + 1, x2, x3, x4, σ => ((x4 = 0 → P σ) ∧ (¬ x4 = 0 → (∃ f9, lM_X6_lowerAll_50 P (fun k0 k1 k2 k3 => lM_X6_lowerAll_42 P n k0 k1 k2 k3) f9 x2 x3 (1 : Int32) σ)))
def lM_X6_lowerAll_18 (P : hg_M → Prop)  : Nat → Int32 → Int32 → Int32 → hg_M → Prop
  | 0, _, _, _, _ => False
  | n + 1, x1, x2, x3, σ => (((16 : Int32) ≤ x3 → (∃ f9, lM_X6_lowerAll_42 P f9 x2 x1 (1 : Int32) σ)) ∧ (¬ ((16 : Int32) ≤ x3) → vp_in x3 16 ∧ (∀ σ4 : hg_M, σ4 = hg_set σ 14 (x3).toNatClampNeg x3 → ∀ v5 : Int32, v5 = x3 + (1 : Int32) → lM_X6_lowerAll_18 P n x1 x2 v5 σ4)))
def wM_X6_lowerAll (x1 : Int32) (x2 : Int32) (σ : hg_M) (P : hg_M → Prop) : Prop := ∀ σ1 : hg_M, σ1 = hg_set σ 0 20 (0 : Int32) → ∀ σ2 : hg_M, σ2 = hg_set σ1 0 21 (16 : Int32) → ∀ σ3 : hg_M, σ3 = hg_set σ2 0 26 (0 : Int32) → (∃ f9, lM_X6_lowerAll_18 P f9 x1 x2 (0 : Int32) σ3)
set_option maxRecDepth 4000 in
theorem tbM_X6_lowerAll_180 {d : Nat} {E : hg_Et} {X : hg_X} {P : hg_M → Prop} {J42 : Int32 → Int32 → Int32 → hg_M → Prop} (hC : hg_C hg_FM 8 (d + 6) E cX6_lowerAll RX6 X) (hR : hg_Rnv hg_FM hg_rM P X) (hJ42 : ∀ (x2 : Int32) (x3 : Int32) (x4 : Int32) (σ : hg_M), J42 x2 x3 x4 σ → hg_G hg_FM 8 X 42 [(0, .ref (hg_ad X 0)), (2, .int x2), (3, .int x3), (4, .int x4)] [] σ hg_rM) (x2 : Int32) (x3 : Int32) (x4 : Int32) (σ : hg_M) (hw : bM_X6_lowerAll_180 P J42 x2 x3 x4 σ) : hg_G hg_FM 8 X 180 [(0, .ref (hg_ad X 0)), (2, .int x2), (3, .int x3), (4, .int x4)] [] σ hg_rM := by
  unfold bM_X6_lowerAll_180 at hw
  refine hg_goto hC dX6_lowerAll_180 (tg := 42) rfl ?_
  exact hJ42 x2 x3 x4 σ hw
set_option maxRecDepth 4000 in
theorem tbM_X6_lowerAll_165 {d : Nat} {E : hg_Et} {X : hg_X} {P : hg_M → Prop} {J42 : Int32 → Int32 → Int32 → hg_M → Prop} (hC : hg_C hg_FM 8 (d + 6) E cX6_lowerAll RX6 X) (hR : hg_Rnv hg_FM hg_rM P X) (hJ42 : ∀ (x2 : Int32) (x3 : Int32) (x4 : Int32) (σ : hg_M), J42 x2 x3 x4 σ → hg_G hg_FM 8 X 42 [(0, .ref (hg_ad X 0)), (2, .int x2), (3, .int x3), (4, .int x4)] [] σ hg_rM) (x2 : Int32) (x3 : Int32) (t0 : Int32) (σ : hg_M) (hw : bM_X6_lowerAll_165 P J42 x2 x3 t0 σ) : hg_G hg_FM 8 X 165 [(0, .ref (hg_ad X 0)), (2, .int x2), (3, .int x3)] [.int t0] σ hg_rM := by
  unfold bM_X6_lowerAll_165 at hw
  refine hg_istore hC (L1 := [(4, .int t0), (0, .ref (hg_ad X 0)), (2, .int x2), (3, .int x3)]) dX6_lowerAll_165 (by decide) rfl (n := 167) rfl ?_
  refine hg_iload hC dX6_lowerAll_167 0 rfl (n := 169) rfl ?_
  refine hg_if_eq hC dX6_lowerAll_169 (tg := 180) rfl (n := 172) rfl (fun h9 => ?_) (fun h9 => ?_)
  · have hw := hw.1 h9
    exact hg_sub [1, 2, 3, 0] rfl (tbM_X6_lowerAll_180 hC hR hJ42 x2 x3 t0 σ hw)
  · have hw := hw.2 h9
    refine hg_aload_n hC dX6_lowerAll_172 rfl 1 rfl (n := 173) rfl ?_
    refine hg_iload_n hC dX6_lowerAll_173 rfl 3 rfl (n := 174) rfl ?_
    refine hg_cVv hC (tM_X6_lowerOne (hg_Eof hC) X.2.1 (d + 0) _ _ _ hw) sv_RX6_257 dX6_lowerAll_174 qM_0 kM_0 c_6 rfl (rest := []) rfl (Nat.le_of_ble_eq_true rfl) (n := 177) rfl (fun σ10 hw => ?_)
    obtain ⟨v11, ev11⟩ : ∃ z, z = x3 + (1 : Int32) := ⟨_, rfl⟩
    have hw := hw v11 ev11
    refine hg_iinc hC (v := v11) (L1 := [(3, .int v11), (4, .int t0), (0, .ref (hg_ad X 0)), (2, .int x2)]) dX6_lowerAll_177 3 rfl (by rw [hl_i1, ev11]) (by decide) rfl (n := 180) rfl ?_
    exact hg_sub [2, 3, 0, 1] rfl (tbM_X6_lowerAll_180 hC hR hJ42 x2 v11 t0 σ10 hw)
set_option maxRecDepth 4000 in
theorem tbM_X6_lowerAll_155 {d : Nat} {E : hg_Et} {X : hg_X} {P : hg_M → Prop} {J42 : Int32 → Int32 → Int32 → hg_M → Prop} (hC : hg_C hg_FM 8 (d + 6) E cX6_lowerAll RX6 X) (hR : hg_Rnv hg_FM hg_rM P X) (hJ42 : ∀ (x2 : Int32) (x3 : Int32) (x4 : Int32) (σ : hg_M), J42 x2 x3 x4 σ → hg_G hg_FM 8 X 42 [(0, .ref (hg_ad X 0)), (2, .int x2), (3, .int x3), (4, .int x4)] [] σ hg_rM) (x2 : Int32) (x3 : Int32) (σ : hg_M) (hw : bM_X6_lowerAll_155 P J42 x2 x3 σ) : hg_G hg_FM 8 X 155 [(0, .ref (hg_ad X 0)), (2, .int x2), (3, .int x3)] [] σ hg_rM := by
  unfold bM_X6_lowerAll_155 at hw
  refine hg_iload_n hC dX6_lowerAll_155 rfl 2 rfl (n := 156) rfl ?_
  refine hg_iload_n hC dX6_lowerAll_156 rfl 1 rfl (n := 157) rfl ?_
  refine hg_icmp_ge hC dX6_lowerAll_157 (tg := 164) rfl (n := 160) rfl (fun h9 => ?_) (fun h9 => ?_)
  · have hw := hw.1 h9
    refine hg_iconst hC dX6_lowerAll_164 hl_i0 (n := 165) rfl ?_
    exact tbM_X6_lowerAll_165 hC hR hJ42 x2 x3 (0 : Int32) σ hw
  · have hw := hw.2 h9
    refine hg_iconst hC dX6_lowerAll_160 hl_i1 (n := 161) rfl ?_
    refine hg_goto hC dX6_lowerAll_161 (tg := 165) rfl ?_
    exact tbM_X6_lowerAll_165 hC hR hJ42 x2 x3 (1 : Int32) σ hw
set_option maxRecDepth 4000 in
theorem tbM_X6_lowerAll_152 {d : Nat} {E : hg_Et} {X : hg_X} {P : hg_M → Prop} {J42 : Int32 → Int32 → Int32 → hg_M → Prop} {J50 : Int32 → Int32 → Int32 → hg_M → Prop} (hC : hg_C hg_FM 8 (d + 6) E cX6_lowerAll RX6 X) (hR : hg_Rnv hg_FM hg_rM P X) (hJ42 : ∀ (x2 : Int32) (x3 : Int32) (x4 : Int32) (σ : hg_M), J42 x2 x3 x4 σ → hg_G hg_FM 8 X 42 [(0, .ref (hg_ad X 0)), (2, .int x2), (3, .int x3), (4, .int x4)] [] σ hg_rM) (hJ50 : ∀ (x2 : Int32) (x3 : Int32) (x5 : Int32) (σ : hg_M), J50 x2 x3 x5 σ → hg_G hg_FM 8 X 50 [(0, .ref (hg_ad X 0)), (2, .int x2), (3, .int x3), (5, .int x5)] [] σ hg_rM) (x2 : Int32) (x3 : Int32) (x5 : Int32) (σ : hg_M) (hw : bM_X6_lowerAll_152 P J42 J50 x2 x3 x5 σ) : hg_G hg_FM 8 X 152 [(0, .ref (hg_ad X 0)), (2, .int x2), (3, .int x3), (5, .int x5)] [] σ hg_rM := by
  unfold bM_X6_lowerAll_152 at hw
  refine hg_goto hC dX6_lowerAll_152 (tg := 50) rfl ?_
  exact hJ50 x2 x3 x5 σ hw
set_option maxRecDepth 4000 in
theorem tbM_X6_lowerAll_141 {d : Nat} {E : hg_Et} {X : hg_X} {P : hg_M → Prop} {J42 : Int32 → Int32 → Int32 → hg_M → Prop} {J50 : Int32 → Int32 → Int32 → hg_M → Prop} (hC : hg_C hg_FM 8 (d + 6) E cX6_lowerAll RX6 X) (hR : hg_Rnv hg_FM hg_rM P X) (hJ42 : ∀ (x2 : Int32) (x3 : Int32) (x4 : Int32) (σ : hg_M), J42 x2 x3 x4 σ → hg_G hg_FM 8 X 42 [(0, .ref (hg_ad X 0)), (2, .int x2), (3, .int x3), (4, .int x4)] [] σ hg_rM) (hJ50 : ∀ (x2 : Int32) (x3 : Int32) (x5 : Int32) (σ : hg_M), J50 x2 x3 x5 σ → hg_G hg_FM 8 X 50 [(0, .ref (hg_ad X 0)), (2, .int x2), (3, .int x3), (5, .int x5)] [] σ hg_rM) (x2 : Int32) (x3 : Int32) (x5 : Int32) (x6 : Int32) (σ : hg_M) (hw : bM_X6_lowerAll_141 P J42 J50 x2 x3 x5 x6 σ) : hg_G hg_FM 8 X 141 [(0, .ref (hg_ad X 0)), (2, .int x2), (3, .int x3), (5, .int x5), (6, .int x6)] [] σ hg_rM := by
  unfold bM_X6_lowerAll_141 at hw
  refine hg_iload hC dX6_lowerAll_141 3 rfl (n := 143) rfl ?_
  refine hg_if_eq hC dX6_lowerAll_143 (tg := 152) rfl (n := 146) rfl (fun h9 => ?_) (fun h9 => ?_)
  · have hw := hw.1 h9
    exact hg_sub [0, 1, 2, 3] rfl (tbM_X6_lowerAll_152 hC hR hJ42 hJ50 x2 x3 x5 σ hw)
  · have hw := hw.2 h9
    refine hg_aload_n hC dX6_lowerAll_146 rfl 0 rfl (n := 147) rfl ?_
    refine hg_iload hC dX6_lowerAll_147 4 rfl (n := 149) rfl ?_
    refine hg_cVv hC (tM_X6_endFirst (hg_Eof hC) X.2.1 (d + 2) _ _ _ hw) sv_RX6_254 dX6_lowerAll_149 qM_0 kM_0 c_6 rfl (rest := []) rfl (Nat.le_of_ble_eq_true rfl) (n := 152) rfl (fun σ9 hw => ?_)
    exact hg_sub [0, 1, 2, 3] rfl (tbM_X6_lowerAll_152 hC hR hJ42 hJ50 x2 x3 x5 σ9 hw)
set_option maxRecDepth 4000 in
theorem tbM_X6_lowerAll_115 {d : Nat} {E : hg_Et} {X : hg_X} {P : hg_M → Prop} {J42 : Int32 → Int32 → Int32 → hg_M → Prop} {J50 : Int32 → Int32 → Int32 → hg_M → Prop} (hC : hg_C hg_FM 8 (d + 6) E cX6_lowerAll RX6 X) (hR : hg_Rnv hg_FM hg_rM P X) (hJ42 : ∀ (x2 : Int32) (x3 : Int32) (x4 : Int32) (σ : hg_M), J42 x2 x3 x4 σ → hg_G hg_FM 8 X 42 [(0, .ref (hg_ad X 0)), (2, .int x2), (3, .int x3), (4, .int x4)] [] σ hg_rM) (hJ50 : ∀ (x2 : Int32) (x3 : Int32) (x5 : Int32) (σ : hg_M), J50 x2 x3 x5 σ → hg_G hg_FM 8 X 50 [(0, .ref (hg_ad X 0)), (2, .int x2), (3, .int x3), (5, .int x5)] [] σ hg_rM) (x2 : Int32) (x3 : Int32) (x6 : Int32) (t0 : Int32) (σ : hg_M) (hw : bM_X6_lowerAll_115 P J42 J50 x2 x3 x6 t0 σ) : hg_G hg_FM 8 X 115 [(0, .ref (hg_ad X 0)), (2, .int x2), (3, .int x3), (6, .int x6)] [.int t0] σ hg_rM := by
  unfold bM_X6_lowerAll_115 at hw
  refine hg_istore hC (L1 := [(5, .int t0), (0, .ref (hg_ad X 0)), (2, .int x2), (3, .int x3), (6, .int x6)]) dX6_lowerAll_115 (by decide) rfl (n := 117) rfl ?_
  refine hg_iload hC dX6_lowerAll_117 0 rfl (n := 119) rfl ?_
  refine hg_if_eq hC dX6_lowerAll_119 (tg := 141) rfl (n := 122) rfl (fun h9 => ?_) (fun h9 => ?_)
  · have hw := hw.1 h9
    exact hg_sub [1, 2, 3, 0, 4] rfl (tbM_X6_lowerAll_141 hC hR hJ42 hJ50 x2 x3 t0 x6 σ hw)
  · have hw := hw.2 h9
    refine hg_aload_n hC dX6_lowerAll_122 rfl 1 rfl (n := 123) rfl ?_
    refine hg_getr hC fl_RX6_60 dX6_lowerAll_123 qM_0 kM_0 fM_6_28 rM_0_28 (n := 126) rfl ?_
    refine hg_iload hC dX6_lowerAll_126 4 rfl (n := 128) rfl ?_
    obtain ⟨h9, hw⟩ := hw
    refine hg_zald hC dX6_lowerAll_128 qM_16 kM_16 h9 (n := 129) rfl ?_
    refine hg_if_eq hC dX6_lowerAll_129 (tg := 141) rfl (n := 132) rfl (fun h9 => ?_) (fun h9 => ?_)
    · have hw := hw.1 h9
      exact hg_sub [1, 2, 3, 0, 4] rfl (tbM_X6_lowerAll_141 hC hR hJ42 hJ50 x2 x3 t0 x6 σ hw)
    · have hw := hw.2 h9
      refine hg_aload_n hC dX6_lowerAll_132 rfl 1 rfl (n := 133) rfl ?_
      refine hg_iload hC dX6_lowerAll_133 4 rfl (n := 135) rfl ?_
      refine hg_cVv hC (tM_X6_endSecond (hg_Eof hC) X.2.1 (d + 3) _ _ _ hw) sv_RX6_251 dX6_lowerAll_135 qM_0 kM_0 c_6 rfl (rest := []) rfl (Nat.le_of_ble_eq_true rfl) (n := 138) rfl (fun σ8 hw => ?_)
      refine hg_goto hC dX6_lowerAll_138 (tg := 152) rfl ?_
      exact hg_sub [1, 2, 3, 0] rfl (tbM_X6_lowerAll_152 hC hR hJ42 hJ50 x2 x3 t0 σ8 hw)
set_option maxRecDepth 4000 in
theorem tbM_X6_lowerAll_107 {d : Nat} {E : hg_Et} {X : hg_X} {P : hg_M → Prop} {J42 : Int32 → Int32 → Int32 → hg_M → Prop} {J50 : Int32 → Int32 → Int32 → hg_M → Prop} (hC : hg_C hg_FM 8 (d + 6) E cX6_lowerAll RX6 X) (hR : hg_Rnv hg_FM hg_rM P X) (hJ42 : ∀ (x2 : Int32) (x3 : Int32) (x4 : Int32) (σ : hg_M), J42 x2 x3 x4 σ → hg_G hg_FM 8 X 42 [(0, .ref (hg_ad X 0)), (2, .int x2), (3, .int x3), (4, .int x4)] [] σ hg_rM) (hJ50 : ∀ (x2 : Int32) (x3 : Int32) (x5 : Int32) (σ : hg_M), J50 x2 x3 x5 σ → hg_G hg_FM 8 X 50 [(0, .ref (hg_ad X 0)), (2, .int x2), (3, .int x3), (5, .int x5)] [] σ hg_rM) (x2 : Int32) (x3 : Int32) (x6 : Int32) (t0 : Int32) (t1 : Int32) (σ : hg_M) (hw : bM_X6_lowerAll_107 P J42 J50 x2 x3 x6 t0 t1 σ) : hg_G hg_FM 8 X 107 [(0, .ref (hg_ad X 0)), (2, .int x2), (3, .int x3), (6, .int x6)] [.int t1, .int t0] σ hg_rM := by
  unfold bM_X6_lowerAll_107 at hw
  refine hg_icmp_ne hC dX6_lowerAll_107 (tg := 114) rfl (n := 110) rfl (fun h9 => ?_) (fun h9 => ?_)
  · have hw := hw.1 h9
    refine hg_iconst hC dX6_lowerAll_114 hl_i0 (n := 115) rfl ?_
    exact tbM_X6_lowerAll_115 hC hR hJ42 hJ50 x2 x3 x6 (0 : Int32) σ hw
  · have hw := hw.2 h9
    refine hg_iconst hC dX6_lowerAll_110 hl_i1 (n := 111) rfl ?_
    refine hg_goto hC dX6_lowerAll_111 (tg := 115) rfl ?_
    exact tbM_X6_lowerAll_115 hC hR hJ42 hJ50 x2 x3 x6 (1 : Int32) σ hw
set_option maxRecDepth 4000 in
theorem tlM_X6_lowerAll_50 {d : Nat} {E : hg_Et} {X : hg_X} {P : hg_M → Prop} {J42 : Int32 → Int32 → Int32 → hg_M → Prop} (hC : hg_C hg_FM 8 (d + 6) E cX6_lowerAll RX6 X) (hR : hg_Rnv hg_FM hg_rM P X) (hJ42 : ∀ (x2 : Int32) (x3 : Int32) (x4 : Int32) (σ : hg_M), J42 x2 x3 x4 σ → hg_G hg_FM 8 X 42 [(0, .ref (hg_ad X 0)), (2, .int x2), (3, .int x3), (4, .int x4)] [] σ hg_rM) (n : Nat) : ∀ (x2 : Int32) (x3 : Int32) (x5 : Int32) (σ : hg_M), lM_X6_lowerAll_50 P J42 n x2 x3 x5 σ → hg_G hg_FM 8 X 50 [(0, .ref (hg_ad X 0)), (2, .int x2), (3, .int x3), (5, .int x5)] [] σ hg_rM := by
  induction n with
  | zero =>
    intro x2 x3 x5 σ hw
    rw [lM_X6_lowerAll_50] at hw
    exact hw.elim
  | succ n ih =>
    intro x2 x3 x5 σ hw
    rw [lM_X6_lowerAll_50] at hw
    refine hg_iload hC dX6_lowerAll_50 3 rfl (n := 52) rfl ?_
    refine hg_if_eq hC dX6_lowerAll_52 (tg := 155) rfl (n := 55) rfl (fun h9 => ?_) (fun h9 => ?_)
    · have hw := hw.1 h9
      exact hg_sub [0, 1, 2] rfl (tbM_X6_lowerAll_155 hC hR hJ42 x2 x3 σ hw)
    · have hw := hw.2 h9
      refine hg_aload_n hC dX6_lowerAll_55 rfl 0 rfl (n := 56) rfl ?_
      refine hg_geti hC fl_RX6_219 dX6_lowerAll_56 qM_0 kM_0 fM_6_26 (n := 59) rfl ?_
      refine hg_if_le hC dX6_lowerAll_59 (tg := 155) rfl (n := 62) rfl (fun h9 => ?_) (fun h9 => ?_)
      · have hw := hw.1 h9
        exact hg_sub [0, 1, 2] rfl (tbM_X6_lowerAll_155 hC hR hJ42 x2 x3 σ hw)
      · have hw := hw.2 h9
        refine hg_aload_n hC dX6_lowerAll_62 rfl 0 rfl (n := 63) rfl ?_
        refine hg_geti hC fl_RX6_219 dX6_lowerAll_63 qM_0 kM_0 fM_6_26 (n := 66) rfl ?_
        refine hg_iconst hC dX6_lowerAll_66 hl_i1 (n := 67) rfl ?_
        refine hg_isub hC dX6_lowerAll_67 (n := 68) rfl ?_
        refine hg_topi (fun v6 ev6 => ?_)
        have hw := hw v6 ev6
        refine hg_istore hC (L1 := [(6, .int v6), (0, .ref (hg_ad X 0)), (2, .int x2), (3, .int x3), (5, .int x5)]) dX6_lowerAll_68 (by decide) rfl (n := 70) rfl ?_
        refine hg_aload_n hC dX6_lowerAll_70 rfl 1 rfl (n := 71) rfl ?_
        refine hg_getr hC fl_RX6_57 dX6_lowerAll_71 qM_0 kM_0 fM_6_27 rM_0_27 (n := 74) rfl ?_
        refine hg_iload hC dX6_lowerAll_74 0 rfl (n := 76) rfl ?_
        obtain ⟨h9, hw⟩ := hw
        refine hg_iald hC dX6_lowerAll_76 qM_15 kM_15 h9 (n := 77) rfl ?_
        refine hg_topi (fun v7 ev7 => ?_)
        have hw := hw v7 ev7
        refine hg_istore hC (L1 := [(7, .int v7), (6, .int v6), (0, .ref (hg_ad X 0)), (2, .int x2), (3, .int x3), (5, .int x5)]) dX6_lowerAll_77 (by decide) rfl (n := 79) rfl ?_
        refine hg_iload_n hC dX6_lowerAll_79 rfl 4 rfl (n := 80) rfl ?_
        refine hg_aload_n hC dX6_lowerAll_80 rfl 2 rfl (n := 81) rfl ?_
        refine hg_getr hC fl_RX6_60 dX6_lowerAll_81 qM_0 kM_0 fM_6_28 rM_0_28 (n := 84) rfl ?_
        refine hg_iload hC dX6_lowerAll_84 1 rfl (n := 86) rfl ?_
        obtain ⟨h9, hw⟩ := hw
        refine hg_zald hC dX6_lowerAll_86 qM_16 kM_16 h9 (n := 87) rfl ?_
        refine hg_if_eq hC dX6_lowerAll_87 (tg := 100) rfl (n := 90) rfl (fun h9 => ?_) (fun h9 => ?_)
        · have hw := hw.1 h9
          refine hg_aload_n hC dX6_lowerAll_100 rfl 2 rfl (n := 101) rfl ?_
          refine hg_getr hC fl_RX6_31 dX6_lowerAll_101 qM_0 kM_0 fM_6_14 rM_0_14 (n := 104) rfl ?_
          refine hg_iload hC dX6_lowerAll_104 0 rfl (n := 106) rfl ?_
          obtain ⟨h9, hw⟩ := hw
          refine hg_iald hC dX6_lowerAll_106 qM_8 kM_8 h9 (n := 107) rfl ?_
          exact hg_sub [2, 3, 4, 1] rfl (tbM_X6_lowerAll_107 hC hR hJ42 ih x2 x3 v6 x3 (σ 8 (v7).toNatClampNeg) σ hw)
        · have hw := hw.2 h9
          refine hg_aload_n hC dX6_lowerAll_90 rfl 2 rfl (n := 91) rfl ?_
          refine hg_getr hC fl_RX6_34 dX6_lowerAll_91 qM_0 kM_0 fM_6_15 rM_0_15 (n := 94) rfl ?_
          refine hg_iload hC dX6_lowerAll_94 0 rfl (n := 96) rfl ?_
          obtain ⟨h9, hw⟩ := hw
          refine hg_iald hC dX6_lowerAll_96 qM_9 kM_9 h9 (n := 97) rfl ?_
          refine hg_goto hC dX6_lowerAll_97 (tg := 107) rfl ?_
          exact hg_sub [2, 3, 4, 1] rfl (tbM_X6_lowerAll_107 hC hR hJ42 ih x2 x3 v6 x3 (σ 9 (v7).toNatClampNeg) σ hw)
set_option maxRecDepth 4000 in
theorem tlM_X6_lowerAll_42 {d : Nat} {E : hg_Et} {X : hg_X} {P : hg_M → Prop}  (hC : hg_C hg_FM 8 (d + 6) E cX6_lowerAll RX6 X) (hR : hg_Rnv hg_FM hg_rM P X)  (n : Nat) : ∀ (x2 : Int32) (x3 : Int32) (x4 : Int32) (σ : hg_M), lM_X6_lowerAll_42 P n x2 x3 x4 σ → hg_G hg_FM 8 X 42 [(0, .ref (hg_ad X 0)), (2, .int x2), (3, .int x3), (4, .int x4)] [] σ hg_rM := by
  induction n with
  | zero =>
    intro x2 x3 x4 σ hw
    rw [lM_X6_lowerAll_42] at hw
    exact hw.elim
  | succ n ih =>
    intro x2 x3 x4 σ hw
    rw [lM_X6_lowerAll_42] at hw
    refine hg_iload hC dX6_lowerAll_42 3 rfl (n := 44) rfl ?_
    refine hg_if_eq hC dX6_lowerAll_44 (tg := 183) rfl (n := 47) rfl (fun h9 => ?_) (fun h9 => ?_)
    · have hw := hw.1 h9
      exact hg_retv hC hR dX6_lowerAll_183 hw
    · have hw := hw.2 h9
      refine hg_iconst hC dX6_lowerAll_47 hl_i1 (n := 48) rfl ?_
      refine hg_istore hC (L1 := [(5, .int (1 : Int32)), (0, .ref (hg_ad X 0)), (2, .int x2), (3, .int x3), (4, .int x4)]) dX6_lowerAll_48 (by decide) rfl (n := 50) rfl ?_
      obtain ⟨n9, hw⟩ := hw
      exact hg_sub [1, 2, 3, 0] rfl (tlM_X6_lowerAll_50 hC hR ih n9 x2 x3 (1 : Int32) σ hw)
set_option maxRecDepth 4000 in
theorem tlM_X6_lowerAll_18 {d : Nat} {E : hg_Et} {X : hg_X} {P : hg_M → Prop}  (hC : hg_C hg_FM 8 (d + 6) E cX6_lowerAll RX6 X) (hR : hg_Rnv hg_FM hg_rM P X)  (n : Nat) : ∀ (x1 : Int32) (x2 : Int32) (x3 : Int32) (σ : hg_M), lM_X6_lowerAll_18 P n x1 x2 x3 σ → hg_G hg_FM 8 X 18 [(0, .ref (hg_ad X 0)), (1, .int x1), (2, .int x2), (3, .int x3)] [] σ hg_rM := by
  induction n with
  | zero =>
    intro x1 x2 x3 σ hw
    rw [lM_X6_lowerAll_18] at hw
    exact hw.elim
  | succ n ih =>
    intro x1 x2 x3 σ hw
    rw [lM_X6_lowerAll_18] at hw
    refine hg_iload_n hC dX6_lowerAll_18 rfl 3 rfl (n := 19) rfl ?_
    refine hg_bipush hC dX6_lowerAll_19 hl_b16 (n := 21) rfl ?_
    refine hg_icmp_ge hC dX6_lowerAll_21 (tg := 37) rfl (n := 24) rfl (fun h9 => ?_) (fun h9 => ?_)
    · have hw := hw.1 h9
      refine hg_iload_n hC dX6_lowerAll_37 rfl 1 rfl (n := 38) rfl ?_
      refine hg_istore_n hC (L1 := [(3, .int x1), (0, .ref (hg_ad X 0)), (1, .int x1), (2, .int x2)]) dX6_lowerAll_38 rfl (by decide) rfl (n := 39) rfl ?_
      refine hg_iconst hC dX6_lowerAll_39 hl_i1 (n := 40) rfl ?_
      refine hg_istore hC (L1 := [(4, .int (1 : Int32)), (3, .int x1), (0, .ref (hg_ad X 0)), (1, .int x1), (2, .int x2)]) dX6_lowerAll_40 (by decide) rfl (n := 42) rfl ?_
      obtain ⟨n9, hw⟩ := hw
      exact hg_sub [2, 4, 1, 0] rfl (tlM_X6_lowerAll_42 hC hR  n9 x2 x1 (1 : Int32) σ hw)
    · have hw := hw.2 h9
      refine hg_aload_n hC dX6_lowerAll_24 rfl 0 rfl (n := 25) rfl ?_
      refine hg_getr hC fl_RX6_54 dX6_lowerAll_25 qM_0 kM_0 fM_6_25 rM_0_25 (n := 28) rfl ?_
      refine hg_iload_n hC dX6_lowerAll_28 rfl 3 rfl (n := 29) rfl ?_
      refine hg_iload_n hC dX6_lowerAll_29 rfl 3 rfl (n := 30) rfl ?_
      obtain ⟨h9, hw⟩ := hw
      refine hg_iast hC dX6_lowerAll_30 qM_14 kM_14 h9 (n := 31) rfl (fun σ4 eσ4 => ?_)
      have hw := hw σ4 eσ4
      obtain ⟨v5, ev5⟩ : ∃ z, z = x3 + (1 : Int32) := ⟨_, rfl⟩
      have hw := hw v5 ev5
      refine hg_iinc hC (v := v5) (L1 := [(3, .int v5), (0, .ref (hg_ad X 0)), (1, .int x1), (2, .int x2)]) dX6_lowerAll_31 3 rfl (by rw [hl_i1, ev5]) (by decide) rfl (n := 34) rfl ?_
      refine hg_goto hC dX6_lowerAll_34 (tg := 18) rfl ?_
      exact hg_sub [1, 2, 3, 0] rfl (ih x1 x2 v5 σ4 hw)
set_option maxRecDepth 4000 in
theorem tM_X6_lowerAll {E : hg_Et} (hE : hg_Eok E) (l : Launch) (d : Nat) (x1 : Int32) (x2 : Int32) (σ : hg_M) (P : hg_M → Prop) (hw : wM_X6_lowerAll x1 x2 σ P) : hg_Nv hg_FM E l yX6_lowerAll cX6_lowerAll 8 (d + 6) (fun ad => [.ref (ad 0), .int x1, .int x2]) hg_rM σ P := by
  refine hg_nv hE (by decide) (fun _ => Nat.le_of_ble_eq_true rfl) (fun X hC hR hl => ?_)
  subst hl
  have hC : hg_C hg_FM 8 (d + 6) E cX6_lowerAll RX6 X := hC
  show hg_G hg_FM 8 X 0 [(0, .ref (hg_ad X 0)), (1, .int x1), (2, .int x2)] [] σ hg_rM
  unfold wM_X6_lowerAll at hw
  refine hg_aload_n hC dX6_lowerAll_0 rfl 0 rfl (n := 1) rfl ?_
  refine hg_iconst hC dX6_lowerAll_1 hl_i0 (n := 2) rfl ?_
  refine hg_puti hC fp_RX6_199 dX6_lowerAll_2 qM_0 kM_0 fM_6_20 rfl rfl (n := 5) rfl (fun σ1 eσ1 => ?_)
  have hw := hw σ1 eσ1
  refine hg_aload_n hC dX6_lowerAll_5 rfl 0 rfl (n := 6) rfl ?_
  refine hg_bipush hC dX6_lowerAll_6 hl_b16 (n := 8) rfl ?_
  refine hg_puti hC fp_RX6_47 dX6_lowerAll_8 qM_0 kM_0 fM_6_21 rfl rfl (n := 11) rfl (fun σ2 eσ2 => ?_)
  have hw := hw σ2 eσ2
  refine hg_aload_n hC dX6_lowerAll_11 rfl 0 rfl (n := 12) rfl ?_
  refine hg_iconst hC dX6_lowerAll_12 hl_i0 (n := 13) rfl ?_
  refine hg_puti hC fp_RX6_219 dX6_lowerAll_13 qM_0 kM_0 fM_6_26 rfl rfl (n := 16) rfl (fun σ3 eσ3 => ?_)
  have hw := hw σ3 eσ3
  refine hg_iconst hC dX6_lowerAll_16 hl_i0 (n := 17) rfl ?_
  refine hg_istore_n hC (L1 := [(3, .int (0 : Int32)), (0, .ref (hg_ad X 0)), (1, .int x1), (2, .int x2)]) dX6_lowerAll_17 rfl (by decide) rfl (n := 18) rfl ?_
  obtain ⟨n9, hw⟩ := hw
  exact hg_sub [1, 2, 3, 0] rfl (tlM_X6_lowerAll_18 hC hR  n9 x1 x2 (0 : Int32) σ3 hw)
def bM_X6_mayConvert_103 (P : Int32 → hg_M → Prop)  (t0 : Int32) (σ : hg_M) : Prop := ((t0 = 0 ∨ t0 = 1) ∧ P t0 σ)
def bM_X6_mayConvert_59 (P : Int32 → hg_M → Prop) (J7 : Int32 → Int32 → Int32 → Int32 → hg_M → Prop) (x1 : Int32) (x2 : Int32) (x4 : Int32) (t0 : Int32) (σ : hg_M) : Prop := ∀ v8 : Int32, v8 = x4 + (1 : Int32) → J7 x1 x2 t0 v8 σ
def bM_X6_mayConvert_58 (P : Int32 → hg_M → Prop) (J7 : Int32 → Int32 → Int32 → Int32 → hg_M → Prop) (x1 : Int32) (x2 : Int32) (x4 : Int32) (σ : hg_M) : Prop := bM_X6_mayConvert_59 P J7 x1 x2 x4 (0 : Int32) σ
def bM_X6_mayConvert_54 (P : Int32 → hg_M → Prop) (J7 : Int32 → Int32 → Int32 → Int32 → hg_M → Prop) (x1 : Int32) (x2 : Int32) (x4 : Int32) (σ : hg_M) : Prop := bM_X6_mayConvert_59 P J7 x1 x2 x4 (1 : Int32) σ
def lM_X6_mayConvert_7 (P : Int32 → hg_M → Prop)  : Nat → Int32 → Int32 → Int32 → Int32 → hg_M → Prop
  | 0, _, _, _, _, _ => False
  | n + 1, x1, x2, x3, x4, σ => vp_in x1 60 ∧ ((((σ 9 (x1).toNatClampNeg) ≤ x4 → ((x3 ≠ 0 → vp_in x1 60 ∧ (∀ σ2 : hg_M, σ2 = hg_set σ 13 (x1).toNatClampNeg (vp_nar .boolean (1 : Int32)) → vp_in x1 60 ∧ (wM_X6_lowerAll x1 (σ2 9 (x1).toNatClampNeg) σ2 (fun σ3 => ((x2 < (σ3 0 20) → bM_X6_mayConvert_103 P (0 : Int32) σ3) ∧ (¬ (x2 < (σ3 0 20)) → bM_X6_mayConvert_103 P (1 : Int32) σ3)))))) ∧ (x3 = 0 → (((0 : Int32) = 0 ∨ (0 : Int32) = 1) ∧ P (0 : Int32) σ)))) ∧ (¬ ((σ 9 (x1).toNatClampNeg) ≤ x4) → ((x3 = 0 → bM_X6_mayConvert_58 P (fun k0 k1 k2 k3 k4 => lM_X6_mayConvert_7 P n k0 k1 k2 k3 k4) x1 x2 x4 σ) ∧ (¬ x3 = 0 → wM_X6_of x4 (0 : Int32) σ (fun r5 σ4 => ((r5 = (4 : Int32) → bM_X6_mayConvert_58 P (fun k0 k1 k2 k3 k4 => lM_X6_mayConvert_7 P n k0 k1 k2 k3 k4) x1 x2 x4 σ4) ∧ (¬ (r5 = (4 : Int32)) → wM_X6_of x4 (0 : Int32) σ4 (fun r7 σ6 => ((r7 ≠ (5 : Int32) → bM_X6_mayConvert_54 P (fun k0 k1 k2 k3 k4 => lM_X6_mayConvert_7 P n k0 k1 k2 k3 k4) x1 x2 x4 σ6) ∧ (r7 = (5 : Int32) → vp_in x4 60 ∧ ((((σ6 13 (x4).toNatClampNeg) = 0 → bM_X6_mayConvert_58 P (fun k0 k1 k2 k3 k4 => lM_X6_mayConvert_7 P n k0 k1 k2 k3 k4) x1 x2 x4 σ6) ∧ (¬ (σ6 13 (x4).toNatClampNeg) = 0 → bM_X6_mayConvert_54 P (fun k0 k1 k2 k3 k4 => lM_X6_mayConvert_7 P n k0 k1 k2 k3 k4) x1 x2 x4 σ6))))))))))))))
def wM_X6_mayConvert (x1 : Int32) (x2 : Int32) (σ : hg_M) (P : Int32 → hg_M → Prop) : Prop := ∀ v1 : Int32, v1 = (x1 + (1 : Int32)) → (∃ f9, lM_X6_mayConvert_7 P f9 x1 x2 (1 : Int32) v1 σ)
set_option maxRecDepth 4000 in
theorem tbM_X6_mayConvert_103 {d : Nat} {E : hg_Et} {X : hg_X} {P : Int32 → hg_M → Prop}  (hC : hg_C hg_FM 5 (d + 7) E cX6_mayConvert RX6 X) (hR : hg_Rni hg_FM (some .boolean) hg_rM P X)  (t0 : Int32) (σ : hg_M) (hw : bM_X6_mayConvert_103 P t0 σ) : hg_G hg_FM 5 X 103 [] [.int t0] σ hg_rM := by
  unfold bM_X6_mayConvert_103 at hw
  exact hg_retz hC hR dX6_mayConvert_103 hw
set_option maxRecDepth 4000 in
theorem tbM_X6_mayConvert_59 {d : Nat} {E : hg_Et} {X : hg_X} {P : Int32 → hg_M → Prop} {J7 : Int32 → Int32 → Int32 → Int32 → hg_M → Prop} (hC : hg_C hg_FM 5 (d + 7) E cX6_mayConvert RX6 X) (hR : hg_Rni hg_FM (some .boolean) hg_rM P X) (hJ7 : ∀ (x1 : Int32) (x2 : Int32) (x3 : Int32) (x4 : Int32) (σ : hg_M), J7 x1 x2 x3 x4 σ → hg_G hg_FM 5 X 7 [(0, .ref (hg_ad X 0)), (1, .int x1), (2, .int x2), (3, .int x3), (4, .int x4)] [] σ hg_rM) (x1 : Int32) (x2 : Int32) (x4 : Int32) (t0 : Int32) (σ : hg_M) (hw : bM_X6_mayConvert_59 P J7 x1 x2 x4 t0 σ) : hg_G hg_FM 5 X 59 [(0, .ref (hg_ad X 0)), (1, .int x1), (2, .int x2), (4, .int x4)] [.int t0] σ hg_rM := by
  unfold bM_X6_mayConvert_59 at hw
  refine hg_istore_n hC (L1 := [(3, .int t0), (0, .ref (hg_ad X 0)), (1, .int x1), (2, .int x2), (4, .int x4)]) dX6_mayConvert_59 rfl (by decide) rfl (n := 60) rfl ?_
  obtain ⟨v8, ev8⟩ : ∃ z, z = x4 + (1 : Int32) := ⟨_, rfl⟩
  have hw := hw v8 ev8
  refine hg_iinc hC (v := v8) (L1 := [(4, .int v8), (3, .int t0), (0, .ref (hg_ad X 0)), (1, .int x1), (2, .int x2)]) dX6_mayConvert_60 4 rfl (by rw [hl_i1, ev8]) (by decide) rfl (n := 63) rfl ?_
  refine hg_goto hC dX6_mayConvert_63 (tg := 7) rfl ?_
  exact hg_sub [2, 3, 4, 1, 0] rfl (hJ7 x1 x2 t0 v8 σ hw)
set_option maxRecDepth 4000 in
theorem tbM_X6_mayConvert_58 {d : Nat} {E : hg_Et} {X : hg_X} {P : Int32 → hg_M → Prop} {J7 : Int32 → Int32 → Int32 → Int32 → hg_M → Prop} (hC : hg_C hg_FM 5 (d + 7) E cX6_mayConvert RX6 X) (hR : hg_Rni hg_FM (some .boolean) hg_rM P X) (hJ7 : ∀ (x1 : Int32) (x2 : Int32) (x3 : Int32) (x4 : Int32) (σ : hg_M), J7 x1 x2 x3 x4 σ → hg_G hg_FM 5 X 7 [(0, .ref (hg_ad X 0)), (1, .int x1), (2, .int x2), (3, .int x3), (4, .int x4)] [] σ hg_rM) (x1 : Int32) (x2 : Int32) (x4 : Int32) (σ : hg_M) (hw : bM_X6_mayConvert_58 P J7 x1 x2 x4 σ) : hg_G hg_FM 5 X 58 [(0, .ref (hg_ad X 0)), (1, .int x1), (2, .int x2), (4, .int x4)] [] σ hg_rM := by
  unfold bM_X6_mayConvert_58 at hw
  refine hg_iconst hC dX6_mayConvert_58 hl_i0 (n := 59) rfl ?_
  exact tbM_X6_mayConvert_59 hC hR hJ7 x1 x2 x4 (0 : Int32) σ hw
set_option maxRecDepth 4000 in
theorem tbM_X6_mayConvert_54 {d : Nat} {E : hg_Et} {X : hg_X} {P : Int32 → hg_M → Prop} {J7 : Int32 → Int32 → Int32 → Int32 → hg_M → Prop} (hC : hg_C hg_FM 5 (d + 7) E cX6_mayConvert RX6 X) (hR : hg_Rni hg_FM (some .boolean) hg_rM P X) (hJ7 : ∀ (x1 : Int32) (x2 : Int32) (x3 : Int32) (x4 : Int32) (σ : hg_M), J7 x1 x2 x3 x4 σ → hg_G hg_FM 5 X 7 [(0, .ref (hg_ad X 0)), (1, .int x1), (2, .int x2), (3, .int x3), (4, .int x4)] [] σ hg_rM) (x1 : Int32) (x2 : Int32) (x4 : Int32) (σ : hg_M) (hw : bM_X6_mayConvert_54 P J7 x1 x2 x4 σ) : hg_G hg_FM 5 X 54 [(0, .ref (hg_ad X 0)), (1, .int x1), (2, .int x2), (4, .int x4)] [] σ hg_rM := by
  unfold bM_X6_mayConvert_54 at hw
  refine hg_iconst hC dX6_mayConvert_54 hl_i1 (n := 55) rfl ?_
  refine hg_goto hC dX6_mayConvert_55 (tg := 59) rfl ?_
  exact tbM_X6_mayConvert_59 hC hR hJ7 x1 x2 x4 (1 : Int32) σ hw
set_option maxRecDepth 4000 in
theorem tlM_X6_mayConvert_7 {d : Nat} {E : hg_Et} {X : hg_X} {P : Int32 → hg_M → Prop}  (hC : hg_C hg_FM 5 (d + 7) E cX6_mayConvert RX6 X) (hR : hg_Rni hg_FM (some .boolean) hg_rM P X)  (n : Nat) : ∀ (x1 : Int32) (x2 : Int32) (x3 : Int32) (x4 : Int32) (σ : hg_M), lM_X6_mayConvert_7 P n x1 x2 x3 x4 σ → hg_G hg_FM 5 X 7 [(0, .ref (hg_ad X 0)), (1, .int x1), (2, .int x2), (3, .int x3), (4, .int x4)] [] σ hg_rM := by
  induction n with
  | zero =>
    intro x1 x2 x3 x4 σ hw
    rw [lM_X6_mayConvert_7] at hw
    exact hw.elim
  | succ n ih =>
    intro x1 x2 x3 x4 σ hw
    rw [lM_X6_mayConvert_7] at hw
    refine hg_iload hC dX6_mayConvert_7 4 rfl (n := 9) rfl ?_
    refine hg_aload_n hC dX6_mayConvert_9 rfl 0 rfl (n := 10) rfl ?_
    refine hg_getr hC fl_RX6_34 dX6_mayConvert_10 qM_0 kM_0 fM_6_15 rM_0_15 (n := 13) rfl ?_
    refine hg_iload_n hC dX6_mayConvert_13 rfl 1 rfl (n := 14) rfl ?_
    obtain ⟨h9, hw⟩ := hw
    refine hg_iald hC dX6_mayConvert_14 qM_9 kM_9 h9 (n := 15) rfl ?_
    refine hg_icmp_ge hC dX6_mayConvert_15 (tg := 66) rfl (n := 18) rfl (fun h9 => ?_) (fun h9 => ?_)
    · have hw := hw.1 h9
      refine hg_iload_n hC dX6_mayConvert_66 rfl 3 rfl (n := 67) rfl ?_
      refine hg_if_ne hC dX6_mayConvert_67 (tg := 72) rfl (n := 70) rfl (fun h9 => ?_) (fun h9 => ?_)
      · have hw := hw.1 h9
        refine hg_aload_n hC dX6_mayConvert_72 rfl 0 rfl (n := 73) rfl ?_
        refine hg_getr hC fl_RX6_51 dX6_mayConvert_73 qM_0 kM_0 fM_6_23 rM_0_23 (n := 76) rfl ?_
        refine hg_iload_n hC dX6_mayConvert_76 rfl 1 rfl (n := 77) rfl ?_
        refine hg_iconst hC dX6_mayConvert_77 hl_i1 (n := 78) rfl ?_
        obtain ⟨h9, hw⟩ := hw
        refine hg_zast hC dX6_mayConvert_78 qM_13 kM_13 h9 (n := 79) rfl (fun σ2 eσ2 => ?_)
        have hw := hw σ2 eσ2
        refine hg_aload_n hC dX6_mayConvert_79 rfl 0 rfl (n := 80) rfl ?_
        refine hg_iload_n hC dX6_mayConvert_80 rfl 1 rfl (n := 81) rfl ?_
        refine hg_aload_n hC dX6_mayConvert_81 rfl 0 rfl (n := 82) rfl ?_
        refine hg_getr hC fl_RX6_34 dX6_mayConvert_82 qM_0 kM_0 fM_6_15 rM_0_15 (n := 85) rfl ?_
        refine hg_iload_n hC dX6_mayConvert_85 rfl 1 rfl (n := 86) rfl ?_
        obtain ⟨h9, hw⟩ := hw
        refine hg_iald hC dX6_mayConvert_86 qM_9 kM_9 h9 (n := 87) rfl ?_
        refine hg_cVv hC (tM_X6_lowerAll (hg_Eof hC) X.2.1 (d + 0) _ _ _ _ hw) sv_RX6_260 dX6_mayConvert_87 qM_0 kM_0 c_6 rfl (rest := []) rfl (Nat.le_of_ble_eq_true rfl) (n := 90) rfl (fun σ3 hw => ?_)
        refine hg_aload_n hC dX6_mayConvert_90 rfl 0 rfl (n := 91) rfl ?_
        refine hg_geti hC fl_RX6_199 dX6_mayConvert_91 qM_0 kM_0 fM_6_20 (n := 94) rfl ?_
        refine hg_iload_n hC dX6_mayConvert_94 rfl 2 rfl (n := 95) rfl ?_
        refine hg_icmp_gt hC dX6_mayConvert_95 (tg := 102) rfl (n := 98) rfl (fun h9 => ?_) (fun h9 => ?_)
        · have hw := hw.1 h9
          refine hg_iconst hC dX6_mayConvert_102 hl_i0 (n := 103) rfl ?_
          exact hg_sub [] rfl (tbM_X6_mayConvert_103 hC hR  (0 : Int32) σ3 hw)
        · have hw := hw.2 h9
          refine hg_iconst hC dX6_mayConvert_98 hl_i1 (n := 99) rfl ?_
          refine hg_goto hC dX6_mayConvert_99 (tg := 103) rfl ?_
          exact hg_sub [] rfl (tbM_X6_mayConvert_103 hC hR  (1 : Int32) σ3 hw)
      · have hw := hw.2 h9
        refine hg_iconst hC dX6_mayConvert_70 hl_i0 (n := 71) rfl ?_
        exact hg_retz hC hR dX6_mayConvert_71 hw
    · have hw := hw.2 h9
      refine hg_iload_n hC dX6_mayConvert_18 rfl 3 rfl (n := 19) rfl ?_
      refine hg_if_eq hC dX6_mayConvert_19 (tg := 58) rfl (n := 22) rfl (fun h9 => ?_) (fun h9 => ?_)
      · have hw := hw.1 h9
        exact hg_sub [0, 1, 2, 4] rfl (tbM_X6_mayConvert_58 hC hR ih x1 x2 x4 σ hw)
      · have hw := hw.2 h9
        refine hg_aload_n hC dX6_mayConvert_22 rfl 0 rfl (n := 23) rfl ?_
        refine hg_iload hC dX6_mayConvert_23 4 rfl (n := 25) rfl ?_
        refine hg_iconst hC dX6_mayConvert_25 hl_i0 (n := 26) rfl ?_
        refine hg_cVi hC (tM_X6_of (hg_Eof hC) X.2.1 (d + 5) _ _ _ _ hw) sv_RX6_212 dX6_mayConvert_26 qM_0 kM_0 c_6 rfl (rest := []) rfl (Nat.le_of_ble_eq_true rfl) (n := 29) rfl (fun r5 σ4 hw => ?_)
        refine hg_iconst hC dX6_mayConvert_29 hl_i4 (n := 30) rfl ?_
        refine hg_icmp_eq hC dX6_mayConvert_30 (tg := 58) rfl (n := 33) rfl (fun h9 => ?_) (fun h9 => ?_)
        · have hw := hw.1 h9
          exact hg_sub [0, 1, 2, 4] rfl (tbM_X6_mayConvert_58 hC hR ih x1 x2 x4 σ4 hw)
        · have hw := hw.2 h9
          refine hg_aload_n hC dX6_mayConvert_33 rfl 0 rfl (n := 34) rfl ?_
          refine hg_iload hC dX6_mayConvert_34 4 rfl (n := 36) rfl ?_
          refine hg_iconst hC dX6_mayConvert_36 hl_i0 (n := 37) rfl ?_
          refine hg_cVi hC (tM_X6_of (hg_Eof hC) X.2.1 (d + 5) _ _ _ _ hw) sv_RX6_212 dX6_mayConvert_37 qM_0 kM_0 c_6 rfl (rest := []) rfl (Nat.le_of_ble_eq_true rfl) (n := 40) rfl (fun r7 σ6 hw => ?_)
          refine hg_iconst hC dX6_mayConvert_40 hl_i5 (n := 41) rfl ?_
          refine hg_icmp_ne hC dX6_mayConvert_41 (tg := 54) rfl (n := 44) rfl (fun h9 => ?_) (fun h9 => ?_)
          · have hw := hw.1 h9
            exact hg_sub [0, 1, 2, 4] rfl (tbM_X6_mayConvert_54 hC hR ih x1 x2 x4 σ6 hw)
          · have hw := hw.2 h9
            refine hg_aload_n hC dX6_mayConvert_44 rfl 0 rfl (n := 45) rfl ?_
            refine hg_getr hC fl_RX6_51 dX6_mayConvert_45 qM_0 kM_0 fM_6_23 rM_0_23 (n := 48) rfl ?_
            refine hg_iload hC dX6_mayConvert_48 4 rfl (n := 50) rfl ?_
            obtain ⟨h9, hw⟩ := hw
            refine hg_zald hC dX6_mayConvert_50 qM_13 kM_13 h9 (n := 51) rfl ?_
            refine hg_if_eq hC dX6_mayConvert_51 (tg := 58) rfl (n := 54) rfl (fun h9 => ?_) (fun h9 => ?_)
            · have hw := hw.1 h9
              exact hg_sub [0, 1, 2, 4] rfl (tbM_X6_mayConvert_58 hC hR ih x1 x2 x4 σ6 hw)
            · have hw := hw.2 h9
              exact hg_sub [0, 1, 2, 4] rfl (tbM_X6_mayConvert_54 hC hR ih x1 x2 x4 σ6 hw)
set_option maxRecDepth 4000 in
theorem tM_X6_mayConvert {E : hg_Et} (hE : hg_Eok E) (l : Launch) (d : Nat) (x1 : Int32) (x2 : Int32) (σ : hg_M) (P : Int32 → hg_M → Prop) (hw : wM_X6_mayConvert x1 x2 σ P) : hg_Ni hg_FM E l yX6_mayConvert cX6_mayConvert 5 (some .boolean) (d + 7) (fun ad => [.ref (ad 0), .int x1, .int x2]) hg_rM σ P := by
  refine hg_ni hE (by decide) (fun _ => Nat.le_of_ble_eq_true rfl) (fun X hC hR hl => ?_)
  subst hl
  have hC : hg_C hg_FM 5 (d + 7) E cX6_mayConvert RX6 X := hC
  show hg_G hg_FM 5 X 0 [(0, .ref (hg_ad X 0)), (1, .int x1), (2, .int x2)] [] σ hg_rM
  unfold wM_X6_mayConvert at hw
  refine hg_iconst hC dX6_mayConvert_0 hl_i1 (n := 1) rfl ?_
  refine hg_istore_n hC (L1 := [(3, .int (1 : Int32)), (0, .ref (hg_ad X 0)), (1, .int x1), (2, .int x2)]) dX6_mayConvert_1 rfl (by decide) rfl (n := 2) rfl ?_
  refine hg_iload_n hC dX6_mayConvert_2 rfl 2 rfl (n := 3) rfl ?_
  refine hg_iconst hC dX6_mayConvert_3 hl_i1 (n := 4) rfl ?_
  refine hg_iadd hC dX6_mayConvert_4 (n := 5) rfl ?_
  refine hg_topi (fun v1 ev1 => ?_)
  have hw := hw v1 ev1
  refine hg_istore hC (L1 := [(4, .int v1), (3, .int (1 : Int32)), (0, .ref (hg_ad X 0)), (1, .int x1), (2, .int x2)]) dX6_mayConvert_5 (by decide) rfl (n := 7) rfl ?_
  obtain ⟨n9, hw⟩ := hw
  exact hg_sub [2, 3, 4, 1, 0] rfl (tlM_X6_mayConvert_7 hC hR  n9 x1 x2 (1 : Int32) v1 σ hw)
def bM_X6_lower_59 (P : Int32 → hg_M → Prop) (J26 : Int32 → Int32 → hg_M → Prop) (x1 : Int32) (x2 : Int32) (t1 : Int32) (t2 : Int32) (σ : hg_M) : Prop := vp_in t1 60 ∧ (∀ σ12 : hg_M, σ12 = hg_set σ 13 (t1).toNatClampNeg (vp_nar .boolean t2) → ∀ v13 : Int32, v13 = x2 + (-1 : Int32) → J26 x1 v13 σ12)
def bM_X6_lower_58 (P : Int32 → hg_M → Prop) (J26 : Int32 → Int32 → hg_M → Prop) (x1 : Int32) (x2 : Int32) (t1 : Int32) (σ : hg_M) : Prop := bM_X6_lower_59 P J26 x1 x2 t1 (0 : Int32) σ
def lM_X6_lower_26 (P : Int32 → hg_M → Prop)  : Nat → Int32 → Int32 → hg_M → Prop
  | 0, _, _, _ => False
  | n + 1, x1, x2, σ => ((x2 < 0 → wM_X6_lowerAll (0 : Int32) (σ 0 9) σ (fun σ6 => ((1 : Int32) = 0 ∨ (1 : Int32) = 1) ∧ (∀ σ7 : hg_M, σ7 = hg_set σ6 0 22 (1 : Int32) → P (σ7 0 20) σ7))) ∧ (¬ x2 < 0 → wM_X6_of x2 (0 : Int32) σ (fun r9 σ8 => ((r9 ≠ (5 : Int32) → bM_X6_lower_58 P (fun k0 k1 k2 => lM_X6_lower_26 P n k0 k1 k2) x1 x2 x2 σ8) ∧ (r9 = (5 : Int32) → wM_X6_mayConvert x2 x1 σ8 (fun r11 σ10 => ((r11 = 0 → bM_X6_lower_58 P (fun k0 k1 k2 => lM_X6_lower_26 P n k0 k1 k2) x1 x2 x2 σ10) ∧ (¬ r11 = 0 → bM_X6_lower_59 P (fun k0 k1 k2 => lM_X6_lower_26 P n k0 k1 k2) x1 x2 x2 (1 : Int32) σ10))))))))
def wM_X6_lower (x1 : Int32) (σ : hg_M) (P : Int32 → hg_M → Prop) : Prop := wM_X6_isIn (x1).toInt64 (0 : Int64) (400 : Int64) σ (fun r2 σ1 => wM_X6_may r2 (1 : Int32) σ1 (fun r4 σ3 => ((r4 ≠ 0 → ∀ v5 : Int32, v5 = ((σ3 0 9) - (1 : Int32)) → (∃ f9, lM_X6_lower_26 P f9 x1 v5 σ3)) ∧ (r4 = 0 → P (0 : Int32) σ3))))
set_option maxRecDepth 4000 in
theorem tbM_X6_lower_59 {d : Nat} {E : hg_Et} {X : hg_X} {P : Int32 → hg_M → Prop} {J26 : Int32 → Int32 → hg_M → Prop} (hC : hg_C hg_FM 3 (d + 8) E cX6_lower RX6 X) (hR : hg_Rni hg_FM (some .int) hg_rM P X) (hJ26 : ∀ (x1 : Int32) (x2 : Int32) (σ : hg_M), J26 x1 x2 σ → hg_G hg_FM 3 X 26 [(0, .ref (hg_ad X 0)), (1, .int x1), (2, .int x2)] [] σ hg_rM) (x1 : Int32) (x2 : Int32) (t1 : Int32) (t2 : Int32) (σ : hg_M) (hw : bM_X6_lower_59 P J26 x1 x2 t1 t2 σ) : hg_G hg_FM 3 X 59 [(0, .ref (hg_ad X 0)), (1, .int x1), (2, .int x2)] [.int t2, .int t1, .ref (hg_ad X 13)] σ hg_rM := by
  unfold bM_X6_lower_59 at hw
  obtain ⟨h9, hw⟩ := hw
  refine hg_zast hC dX6_lower_59 qM_13 kM_13 h9 (n := 60) rfl (fun σ12 eσ12 => ?_)
  have hw := hw σ12 eσ12
  obtain ⟨v13, ev13⟩ : ∃ z, z = x2 + (-1 : Int32) := ⟨_, rfl⟩
  have hw := hw v13 ev13
  refine hg_iinc hC (v := v13) (L1 := [(2, .int v13), (0, .ref (hg_ad X 0)), (1, .int x1)]) dX6_lower_60 2 rfl (by rw [hl_im1, ev13]) (by decide) rfl (n := 63) rfl ?_
  refine hg_goto hC dX6_lower_63 (tg := 26) rfl ?_
  exact hg_sub [1, 2, 0] rfl (hJ26 x1 v13 σ12 hw)
set_option maxRecDepth 4000 in
theorem tbM_X6_lower_58 {d : Nat} {E : hg_Et} {X : hg_X} {P : Int32 → hg_M → Prop} {J26 : Int32 → Int32 → hg_M → Prop} (hC : hg_C hg_FM 3 (d + 8) E cX6_lower RX6 X) (hR : hg_Rni hg_FM (some .int) hg_rM P X) (hJ26 : ∀ (x1 : Int32) (x2 : Int32) (σ : hg_M), J26 x1 x2 σ → hg_G hg_FM 3 X 26 [(0, .ref (hg_ad X 0)), (1, .int x1), (2, .int x2)] [] σ hg_rM) (x1 : Int32) (x2 : Int32) (t1 : Int32) (σ : hg_M) (hw : bM_X6_lower_58 P J26 x1 x2 t1 σ) : hg_G hg_FM 3 X 58 [(0, .ref (hg_ad X 0)), (1, .int x1), (2, .int x2)] [.int t1, .ref (hg_ad X 13)] σ hg_rM := by
  unfold bM_X6_lower_58 at hw
  refine hg_iconst hC dX6_lower_58 hl_i0 (n := 59) rfl ?_
  exact tbM_X6_lower_59 hC hR hJ26 x1 x2 t1 (0 : Int32) σ hw
set_option maxRecDepth 4000 in
theorem tlM_X6_lower_26 {d : Nat} {E : hg_Et} {X : hg_X} {P : Int32 → hg_M → Prop}  (hC : hg_C hg_FM 3 (d + 8) E cX6_lower RX6 X) (hR : hg_Rni hg_FM (some .int) hg_rM P X)  (n : Nat) : ∀ (x1 : Int32) (x2 : Int32) (σ : hg_M), lM_X6_lower_26 P n x1 x2 σ → hg_G hg_FM 3 X 26 [(0, .ref (hg_ad X 0)), (1, .int x1), (2, .int x2)] [] σ hg_rM := by
  induction n with
  | zero =>
    intro x1 x2 σ hw
    rw [lM_X6_lower_26] at hw
    exact hw.elim
  | succ n ih =>
    intro x1 x2 σ hw
    rw [lM_X6_lower_26] at hw
    refine hg_iload_n hC dX6_lower_26 rfl 2 rfl (n := 27) rfl ?_
    refine hg_if_lt hC dX6_lower_27 (tg := 66) rfl (n := 30) rfl (fun h9 => ?_) (fun h9 => ?_)
    · have hw := hw.1 h9
      refine hg_aload_n hC dX6_lower_66 rfl 0 rfl (n := 67) rfl ?_
      refine hg_iconst hC dX6_lower_67 hl_i0 (n := 68) rfl ?_
      refine hg_aload_n hC dX6_lower_68 rfl 0 rfl (n := 69) rfl ?_
      refine hg_geti hC fl_RX6_192 dX6_lower_69 qM_0 kM_0 fM_6_9 (n := 72) rfl ?_
      refine hg_cVv hC (tM_X6_lowerAll (hg_Eof hC) X.2.1 (d + 1) _ _ _ _ hw) sv_RX6_260 dX6_lower_72 qM_0 kM_0 c_6 rfl (rest := []) rfl (Nat.le_of_ble_eq_true rfl) (n := 75) rfl (fun σ6 hw => ?_)
      refine hg_aload_n hC dX6_lower_75 rfl 0 rfl (n := 76) rfl ?_
      refine hg_iconst hC dX6_lower_76 hl_i1 (n := 77) rfl ?_
      obtain ⟨h9, hw⟩ := hw
      refine hg_puti hC fp_RX6_195 dX6_lower_77 qM_0 kM_0 fM_6_22 (hg_nz h9) (hg_fz h9) (n := 80) rfl (fun σ7 eσ7 => ?_)
      have hw := hw σ7 eσ7
      refine hg_aload_n hC dX6_lower_80 rfl 0 rfl (n := 81) rfl ?_
      refine hg_geti hC fl_RX6_199 dX6_lower_81 qM_0 kM_0 fM_6_20 (n := 84) rfl ?_
      exact hg_reti hC hR dX6_lower_84 hw
    · have hw := hw.2 h9
      refine hg_aload_n hC dX6_lower_30 rfl 0 rfl (n := 31) rfl ?_
      refine hg_getr hC fl_RX6_51 dX6_lower_31 qM_0 kM_0 fM_6_23 rM_0_23 (n := 34) rfl ?_
      refine hg_iload_n hC dX6_lower_34 rfl 2 rfl (n := 35) rfl ?_
      refine hg_aload_n hC dX6_lower_35 rfl 0 rfl (n := 36) rfl ?_
      refine hg_iload_n hC dX6_lower_36 rfl 2 rfl (n := 37) rfl ?_
      refine hg_iconst hC dX6_lower_37 hl_i0 (n := 38) rfl ?_
      refine hg_cVi hC (tM_X6_of (hg_Eof hC) X.2.1 (d + 6) _ _ _ _ hw) sv_RX6_212 dX6_lower_38 qM_0 kM_0 c_6 rfl (rest := [.int x2, .ref (hg_ad X 13)]) rfl (Nat.le_of_ble_eq_true rfl) (n := 41) rfl (fun r9 σ8 hw => ?_)
      refine hg_iconst hC dX6_lower_41 hl_i5 (n := 42) rfl ?_
      refine hg_icmp_ne hC dX6_lower_42 (tg := 58) rfl (n := 45) rfl (fun h9 => ?_) (fun h9 => ?_)
      · have hw := hw.1 h9
        exact tbM_X6_lower_58 hC hR ih x1 x2 x2 σ8 hw
      · have hw := hw.2 h9
        refine hg_aload_n hC dX6_lower_45 rfl 0 rfl (n := 46) rfl ?_
        refine hg_iload_n hC dX6_lower_46 rfl 2 rfl (n := 47) rfl ?_
        refine hg_iload_n hC dX6_lower_47 rfl 1 rfl (n := 48) rfl ?_
        refine hg_cVi hC (tM_X6_mayConvert (hg_Eof hC) X.2.1 (d + 0) _ _ _ _ hw) sv_RX6_265 dX6_lower_48 qM_0 kM_0 c_6 rfl (rest := [.int x2, .ref (hg_ad X 13)]) rfl (Nat.le_of_ble_eq_true rfl) (n := 51) rfl (fun r11 σ10 hw => ?_)
        refine hg_if_eq hC dX6_lower_51 (tg := 58) rfl (n := 54) rfl (fun h9 => ?_) (fun h9 => ?_)
        · have hw := hw.1 h9
          exact tbM_X6_lower_58 hC hR ih x1 x2 x2 σ10 hw
        · have hw := hw.2 h9
          refine hg_iconst hC dX6_lower_54 hl_i1 (n := 55) rfl ?_
          refine hg_goto hC dX6_lower_55 (tg := 59) rfl ?_
          exact tbM_X6_lower_59 hC hR ih x1 x2 x2 (1 : Int32) σ10 hw
set_option maxRecDepth 4000 in
theorem tM_X6_lower {E : hg_Et} (hE : hg_Eok E) (l : Launch) (d : Nat) (x1 : Int32) (σ : hg_M) (P : Int32 → hg_M → Prop) (hw : wM_X6_lower x1 σ P) : hg_Ni hg_FM E l yX6_lower cX6_lower 3 (some .int) (d + 8) (fun ad => [.ref (ad 0), .int x1]) hg_rM σ P := by
  refine hg_ni hE (by decide) (fun _ => Nat.le_of_ble_eq_true rfl) (fun X hC hR hl => ?_)
  subst hl
  have hC : hg_C hg_FM 3 (d + 8) E cX6_lower RX6 X := hC
  show hg_G hg_FM 3 X 0 [(0, .ref (hg_ad X 0)), (1, .int x1)] [] σ hg_rM
  unfold wM_X6_lower at hw
  refine hg_aload_n hC dX6_lower_0 rfl 0 rfl (n := 1) rfl ?_
  refine hg_iload_n hC dX6_lower_1 rfl 1 rfl (n := 2) rfl ?_
  refine hg_i2l hC dX6_lower_2 rfl (n := 3) rfl ?_
  refine hg_lconst hC dX6_lower_3 hl_l0 (n := 4) rfl ?_
  refine hg_ldc2 hC dX6_lower_4 kl_RX6_263 (n := 7) rfl ?_
  refine hg_cSi hC (tM_X6_isIn (hg_Eof hC) X.2.1 (d + 6) _ _ _ _ _ hw) ss_RX6_107 dX6_lower_7 rfl (rest := [.ref (hg_ad X 0)]) rfl (Nat.le_of_ble_eq_true rfl) (n := 10) rfl (fun r2 σ1 hw => ?_)
  refine hg_iconst hC dX6_lower_10 hl_i1 (n := 11) rfl ?_
  refine hg_cVi hC (tM_X6_may (hg_Eof hC) X.2.1 (d + 6) _ _ _ _ hw) sv_RX6_111 dX6_lower_11 qM_0 kM_0 c_6 rfl (rest := []) rfl (Nat.le_of_ble_eq_true rfl) (n := 14) rfl (fun r4 σ3 hw => ?_)
  refine hg_if_ne hC dX6_lower_14 (tg := 19) rfl (n := 17) rfl (fun h9 => ?_) (fun h9 => ?_)
  · have hw := hw.1 h9
    refine hg_aload_n hC dX6_lower_19 rfl 0 rfl (n := 20) rfl ?_
    refine hg_geti hC fl_RX6_192 dX6_lower_20 qM_0 kM_0 fM_6_9 (n := 23) rfl ?_
    refine hg_iconst hC dX6_lower_23 hl_i1 (n := 24) rfl ?_
    refine hg_isub hC dX6_lower_24 (n := 25) rfl ?_
    refine hg_topi (fun v5 ev5 => ?_)
    have hw := hw v5 ev5
    refine hg_istore_n hC (L1 := [(2, .int v5), (0, .ref (hg_ad X 0)), (1, .int x1)]) dX6_lower_25 rfl (by decide) rfl (n := 26) rfl ?_
    obtain ⟨n9, hw⟩ := hw
    exact hg_sub [1, 2, 0] rfl (tlM_X6_lower_26 hC hR  n9 x1 v5 σ3 hw)
  · have hw := hw.2 h9
    refine hg_iconst hC dX6_lower_17 hl_i0 (n := 18) rfl ?_
    exact hg_reti hC hR dX6_lower_18 hw
def bM_X6_trim_236 (P : Int32 → hg_M → Prop) (J173 : Int32 → Int32 → Int32 → hg_M → Prop) (x1 : Int32) (x3 : Int32) (x4 : Int32) (σ : hg_M) : Prop := ∀ v17 : Int32, v17 = x4 + (1 : Int32) → J173 x1 x3 v17 σ
def lM_X6_trim_195 (P : Int32 → hg_M → Prop) (J173 : Int32 → Int32 → Int32 → hg_M → Prop) : Nat → Int32 → Int32 → Int32 → Int32 → hg_M → Prop
  | 0, _, _, _, _, _ => False
  | n + 1, x1, x3, x4, x5, σ => (((6 : Int32) ≤ x5 → ∀ v14 : Int32, v14 = x3 + (1 : Int32) → bM_X6_trim_236 P J173 x1 v14 x4 σ) ∧ (¬ ((6 : Int32) ≤ x5) → vp_in (((6 : Int32) * x4) + x5) 24000 ∧ (vp_in (((6 : Int32) * x3) + x5) 24000 ∧ (∀ σ15 : hg_M, σ15 = hg_set σ 12 ((((6 : Int32) * x3) + x5)).toNatClampNeg (σ 12 ((((6 : Int32) * x4) + x5)).toNatClampNeg) → ∀ v16 : Int32, v16 = x5 + (1 : Int32) → lM_X6_trim_195 P J173 n x1 x3 x4 v16 σ15))))
def lM_X6_trim_173 (P : Int32 → hg_M → Prop)  : Nat → Int32 → Int32 → Int32 → hg_M → Prop
  | 0, _, _, _, _ => False
  | n + 1, x1, x3, x4, σ => (((σ 0 20) ≤ x4 → ∀ σ13 : hg_M, σ13 = hg_set σ 0 20 x3 → P x1 σ13) ∧ (¬ ((σ 0 20) ≤ x4) → vp_in x4 4000 ∧ ((((σ 23 (x4).toNatClampNeg) ≠ 0 → bM_X6_trim_236 P (fun k0 k1 k2 k3 => lM_X6_trim_173 P n k0 k1 k2 k3) x1 x3 x4 σ) ∧ ((σ 23 (x4).toNatClampNeg) = 0 → (∃ f9, lM_X6_trim_195 P (fun k0 k1 k2 k3 => lM_X6_trim_173 P n k0 k1 k2 k3) f9 x1 x3 x4 (0 : Int32) σ))))))
def bM_X6_trim_162 (P : Int32 → hg_M → Prop) (J79 : Int32 → Int32 → hg_M → Prop) (x1 : Int32) (x3 : Int32) (σ : hg_M) : Prop := ∀ v12 : Int32, v12 = x3 + (1 : Int32) → J79 x1 v12 σ
def bM_X6_trim_124 (P : Int32 → hg_M → Prop) (J79 : Int32 → Int32 → hg_M → Prop) (x1 : Int32) (x3 : Int32) (t0 : Int32) (σ : hg_M) : Prop := ((t0 ≤ 0 → bM_X6_trim_162 P J79 x1 x3 σ) ∧ (¬ t0 ≤ 0 → vp_in (((6 : Int32) * x3) + t0) 24000 ∧ (vp_in (((6 : Int32) * x3) + t0) 24000 ∧ (wM_X6_goneBefore (σ 12 ((((6 : Int32) * x3) + t0)).toNatClampNeg) σ (fun r10 σ9 => vp_in (((6 : Int32) * x3) + t0) 24000 ∧ (∀ σ11 : hg_M, σ11 = hg_set σ9 12 ((((6 : Int32) * x3) + t0)).toNatClampNeg ((σ 12 ((((6 : Int32) * x3) + t0)).toNatClampNeg) - r10) → bM_X6_trim_162 P J79 x1 x3 σ11))))))
def lM_X6_trim_79 (P : Int32 → hg_M → Prop)  : Nat → Int32 → Int32 → hg_M → Prop
  | 0, _, _, _ => False
  | n + 1, x1, x3, σ => (((σ 0 20) ≤ x3 → (∃ f9, lM_X6_trim_173 P f9 x1 (0 : Int32) (0 : Int32) σ)) ∧ (¬ ((σ 0 20) ≤ x3) → vp_in ((6 : Int32) * x3) 24000 ∧ ((((σ 12 (((6 : Int32) * x3)).toNatClampNeg) ≠ (16 : Int32) → vp_in ((6 : Int32) * x3) 24000 ∧ ((((σ 12 (((6 : Int32) * x3)).toNatClampNeg) ≠ (17 : Int32) → bM_X6_trim_124 P (fun k0 k1 k2 => lM_X6_trim_79 P n k0 k1 k2) x1 x3 (0 : Int32) σ) ∧ ((σ 12 (((6 : Int32) * x3)).toNatClampNeg) = (17 : Int32) → bM_X6_trim_124 P (fun k0 k1 k2 => lM_X6_trim_79 P n k0 k1 k2) x1 x3 (2 : Int32) σ)))) ∧ ((σ 12 (((6 : Int32) * x3)).toNatClampNeg) = (16 : Int32) → bM_X6_trim_124 P (fun k0 k1 k2 => lM_X6_trim_79 P n k0 k1 k2) x1 x3 (1 : Int32) σ)))))
def bM_X6_trim_68 (P : Int32 → hg_M → Prop) (J32 : Int32 → Int32 → hg_M → Prop) (J40 : Int32 → Int32 → Int32 → hg_M → Prop) (x1 : Int32) (x2 : Int32) (x3 : Int32) (σ : hg_M) : Prop := ∀ v8 : Int32, v8 = x3 + (1 : Int32) → J40 x1 x2 v8 σ
def lM_X6_trim_40 (P : Int32 → hg_M → Prop) (J32 : Int32 → Int32 → hg_M → Prop) : Nat → Int32 → Int32 → Int32 → hg_M → Prop
  | 0, _, _, _, _ => False
  | n + 1, x1, x2, x3, σ => (((σ 0 20) ≤ x3 → J32 x1 x2 σ) ∧ (¬ ((σ 0 20) ≤ x3) → wM_X6_isUseless x3 σ (fun r5 σ4 => ((r5 = 0 → bM_X6_trim_68 P J32 (fun k0 k1 k2 k3 => lM_X6_trim_40 P J32 n k0 k1 k2 k3) x1 x2 x3 σ4) ∧ (¬ r5 = 0 → vp_in x3 4000 ∧ (∀ σ6 : hg_M, σ6 = hg_set σ4 23 (x3).toNatClampNeg (vp_nar .boolean (1 : Int32)) → ∀ v7 : Int32, v7 = x1 + (1 : Int32) → bM_X6_trim_68 P J32 (fun k0 k1 k2 k3 => lM_X6_trim_40 P J32 n k0 k1 k2 k3) v7 (1 : Int32) x3 σ6))))))
def lM_X6_trim_32 (P : Int32 → hg_M → Prop)  : Nat → Int32 → Int32 → hg_M → Prop
  | 0, _, _, _ => False
  | n + 1, x1, x2, σ => ((x2 = 0 → (∃ f9, lM_X6_trim_79 P f9 x1 (0 : Int32) σ)) ∧ (¬ x2 = 0 → (∃ f9, lM_X6_trim_40 P (fun k0 k1 k2 => lM_X6_trim_32 P n k0 k1 k2) f9 x1 (0 : Int32) (0 : Int32) σ)))
def lM_X6_trim_7 (P : Int32 → hg_M → Prop)  : Nat → Int32 → hg_M → Prop
  | 0, _, _ => False
  | n + 1, x1, σ => (((σ 0 20) ≤ x1 → (∃ f9, lM_X6_trim_32 P f9 (0 : Int32) (1 : Int32) σ)) ∧ (¬ ((σ 0 20) ≤ x1) → vp_in x1 4000 ∧ (∀ σ2 : hg_M, σ2 = hg_set σ 23 (x1).toNatClampNeg (vp_nar .boolean (0 : Int32)) → ∀ v3 : Int32, v3 = x1 + (1 : Int32) → lM_X6_trim_7 P n v3 σ2)))
def wM_X6_trim  (σ : hg_M) (P : Int32 → hg_M → Prop) : Prop := ∀ σ1 : hg_M, σ1 = hg_set σ 0 0 (0 : Int32) → (∃ f9, lM_X6_trim_7 P f9 (0 : Int32) σ1)
set_option maxRecDepth 4000 in
theorem tbM_X6_trim_236 {d : Nat} {E : hg_Et} {X : hg_X} {P : Int32 → hg_M → Prop} {J173 : Int32 → Int32 → Int32 → hg_M → Prop} (hC : hg_C hg_FM 6 (d + 3) E cX6_trim RX6 X) (hR : hg_Rni hg_FM (some .int) hg_rM P X) (hJ173 : ∀ (x1 : Int32) (x3 : Int32) (x4 : Int32) (σ : hg_M), J173 x1 x3 x4 σ → hg_G hg_FM 6 X 173 [(0, .ref (hg_ad X 0)), (1, .int x1), (3, .int x3), (4, .int x4)] [] σ hg_rM) (x1 : Int32) (x3 : Int32) (x4 : Int32) (σ : hg_M) (hw : bM_X6_trim_236 P J173 x1 x3 x4 σ) : hg_G hg_FM 6 X 236 [(0, .ref (hg_ad X 0)), (1, .int x1), (3, .int x3), (4, .int x4)] [] σ hg_rM := by
  unfold bM_X6_trim_236 at hw
  obtain ⟨v17, ev17⟩ : ∃ z, z = x4 + (1 : Int32) := ⟨_, rfl⟩
  have hw := hw v17 ev17
  refine hg_iinc hC (v := v17) (L1 := [(4, .int v17), (0, .ref (hg_ad X 0)), (1, .int x1), (3, .int x3)]) dX6_trim_236 3 rfl (by rw [hl_i1, ev17]) (by decide) rfl (n := 239) rfl ?_
  refine hg_goto hC dX6_trim_239 (tg := 173) rfl ?_
  exact hg_sub [1, 2, 3, 0] rfl (hJ173 x1 x3 v17 σ hw)
set_option maxRecDepth 4000 in
theorem tlM_X6_trim_195 {d : Nat} {E : hg_Et} {X : hg_X} {P : Int32 → hg_M → Prop} {J173 : Int32 → Int32 → Int32 → hg_M → Prop} (hC : hg_C hg_FM 6 (d + 3) E cX6_trim RX6 X) (hR : hg_Rni hg_FM (some .int) hg_rM P X) (hJ173 : ∀ (x1 : Int32) (x3 : Int32) (x4 : Int32) (σ : hg_M), J173 x1 x3 x4 σ → hg_G hg_FM 6 X 173 [(0, .ref (hg_ad X 0)), (1, .int x1), (3, .int x3), (4, .int x4)] [] σ hg_rM) (n : Nat) : ∀ (x1 : Int32) (x3 : Int32) (x4 : Int32) (x5 : Int32) (σ : hg_M), lM_X6_trim_195 P J173 n x1 x3 x4 x5 σ → hg_G hg_FM 6 X 195 [(0, .ref (hg_ad X 0)), (1, .int x1), (3, .int x3), (4, .int x4), (5, .int x5)] [] σ hg_rM := by
  induction n with
  | zero =>
    intro x1 x3 x4 x5 σ hw
    rw [lM_X6_trim_195] at hw
    exact hw.elim
  | succ n ih =>
    intro x1 x3 x4 x5 σ hw
    rw [lM_X6_trim_195] at hw
    refine hg_iload hC dX6_trim_195 4 rfl (n := 197) rfl ?_
    refine hg_bipush hC dX6_trim_197 hl_b6 (n := 199) rfl ?_
    refine hg_icmp_ge hC dX6_trim_199 (tg := 233) rfl (n := 202) rfl (fun h9 => ?_) (fun h9 => ?_)
    · have hw := hw.1 h9
      obtain ⟨v14, ev14⟩ : ∃ z, z = x3 + (1 : Int32) := ⟨_, rfl⟩
      have hw := hw v14 ev14
      refine hg_iinc hC (v := v14) (L1 := [(3, .int v14), (0, .ref (hg_ad X 0)), (1, .int x1), (4, .int x4), (5, .int x5)]) dX6_trim_233 2 rfl (by rw [hl_i1, ev14]) (by decide) rfl (n := 236) rfl ?_
      exact hg_sub [1, 2, 0, 3] rfl (tbM_X6_trim_236 hC hR hJ173 x1 v14 x4 σ hw)
    · have hw := hw.2 h9
      refine hg_aload_n hC dX6_trim_202 rfl 0 rfl (n := 203) rfl ?_
      refine hg_getr hC fl_RX6_44 dX6_trim_203 qM_0 kM_0 fM_6_19 rM_0_19 (n := 206) rfl ?_
      refine hg_bipush hC dX6_trim_206 hl_b6 (n := 208) rfl ?_
      refine hg_iload_n hC dX6_trim_208 rfl 2 rfl (n := 209) rfl ?_
      refine hg_imul hC dX6_trim_209 (n := 210) rfl ?_
      refine hg_iload hC dX6_trim_210 4 rfl (n := 212) rfl ?_
      refine hg_iadd hC dX6_trim_212 (n := 213) rfl ?_
      refine hg_aload_n hC dX6_trim_213 rfl 0 rfl (n := 214) rfl ?_
      refine hg_getr hC fl_RX6_44 dX6_trim_214 qM_0 kM_0 fM_6_19 rM_0_19 (n := 217) rfl ?_
      refine hg_bipush hC dX6_trim_217 hl_b6 (n := 219) rfl ?_
      refine hg_iload hC dX6_trim_219 3 rfl (n := 221) rfl ?_
      refine hg_imul hC dX6_trim_221 (n := 222) rfl ?_
      refine hg_iload hC dX6_trim_222 4 rfl (n := 224) rfl ?_
      refine hg_iadd hC dX6_trim_224 (n := 225) rfl ?_
      obtain ⟨h9, hw⟩ := hw
      refine hg_iald hC dX6_trim_225 qM_12 kM_12 h9 (n := 226) rfl ?_
      obtain ⟨h9, hw⟩ := hw
      refine hg_iast hC dX6_trim_226 qM_12 kM_12 h9 (n := 227) rfl (fun σ15 eσ15 => ?_)
      have hw := hw σ15 eσ15
      obtain ⟨v16, ev16⟩ : ∃ z, z = x5 + (1 : Int32) := ⟨_, rfl⟩
      have hw := hw v16 ev16
      refine hg_iinc hC (v := v16) (L1 := [(5, .int v16), (0, .ref (hg_ad X 0)), (1, .int x1), (3, .int x3), (4, .int x4)]) dX6_trim_227 4 rfl (by rw [hl_i1, ev16]) (by decide) rfl (n := 230) rfl ?_
      refine hg_goto hC dX6_trim_230 (tg := 195) rfl ?_
      exact hg_sub [1, 2, 3, 4, 0] rfl (ih x1 x3 x4 v16 σ15 hw)
set_option maxRecDepth 4000 in
theorem tlM_X6_trim_173 {d : Nat} {E : hg_Et} {X : hg_X} {P : Int32 → hg_M → Prop}  (hC : hg_C hg_FM 6 (d + 3) E cX6_trim RX6 X) (hR : hg_Rni hg_FM (some .int) hg_rM P X)  (n : Nat) : ∀ (x1 : Int32) (x3 : Int32) (x4 : Int32) (σ : hg_M), lM_X6_trim_173 P n x1 x3 x4 σ → hg_G hg_FM 6 X 173 [(0, .ref (hg_ad X 0)), (1, .int x1), (3, .int x3), (4, .int x4)] [] σ hg_rM := by
  induction n with
  | zero =>
    intro x1 x3 x4 σ hw
    rw [lM_X6_trim_173] at hw
    exact hw.elim
  | succ n ih =>
    intro x1 x3 x4 σ hw
    rw [lM_X6_trim_173] at hw
    refine hg_iload hC dX6_trim_173 3 rfl (n := 175) rfl ?_
    refine hg_aload_n hC dX6_trim_175 rfl 0 rfl (n := 176) rfl ?_
    refine hg_geti hC fl_RX6_199 dX6_trim_176 qM_0 kM_0 fM_6_20 (n := 179) rfl ?_
    refine hg_icmp_ge hC dX6_trim_179 (tg := 242) rfl (n := 182) rfl (fun h9 => ?_) (fun h9 => ?_)
    · have hw := hw.1 h9
      refine hg_aload_n hC dX6_trim_242 rfl 0 rfl (n := 243) rfl ?_
      refine hg_iload_n hC dX6_trim_243 rfl 2 rfl (n := 244) rfl ?_
      refine hg_puti hC fp_RX6_199 dX6_trim_244 qM_0 kM_0 fM_6_20 rfl rfl (n := 247) rfl (fun σ13 eσ13 => ?_)
      have hw := hw σ13 eσ13
      refine hg_iload_n hC dX6_trim_247 rfl 1 rfl (n := 248) rfl ?_
      exact hg_reti hC hR dX6_trim_248 hw
    · have hw := hw.2 h9
      refine hg_aload_n hC dX6_trim_182 rfl 0 rfl (n := 183) rfl ?_
      refine hg_getr hC fl_RX6_81 dX6_trim_183 qM_0 kM_0 fM_6_35 rM_0_35 (n := 186) rfl ?_
      refine hg_iload hC dX6_trim_186 3 rfl (n := 188) rfl ?_
      obtain ⟨h9, hw⟩ := hw
      refine hg_zald hC dX6_trim_188 qM_23 kM_23 h9 (n := 189) rfl ?_
      refine hg_if_ne hC dX6_trim_189 (tg := 236) rfl (n := 192) rfl (fun h9 => ?_) (fun h9 => ?_)
      · have hw := hw.1 h9
        exact tbM_X6_trim_236 hC hR ih x1 x3 x4 σ hw
      · have hw := hw.2 h9
        refine hg_iconst hC dX6_trim_192 hl_i0 (n := 193) rfl ?_
        refine hg_istore hC (L1 := [(5, .int (0 : Int32)), (0, .ref (hg_ad X 0)), (1, .int x1), (3, .int x3), (4, .int x4)]) dX6_trim_193 (by decide) rfl (n := 195) rfl ?_
        obtain ⟨n9, hw⟩ := hw
        exact hg_sub [1, 2, 3, 4, 0] rfl (tlM_X6_trim_195 hC hR ih n9 x1 x3 x4 (0 : Int32) σ hw)
set_option maxRecDepth 4000 in
theorem tbM_X6_trim_162 {d : Nat} {E : hg_Et} {X : hg_X} {P : Int32 → hg_M → Prop} {J79 : Int32 → Int32 → hg_M → Prop} (hC : hg_C hg_FM 6 (d + 3) E cX6_trim RX6 X) (hR : hg_Rni hg_FM (some .int) hg_rM P X) (hJ79 : ∀ (x1 : Int32) (x3 : Int32) (σ : hg_M), J79 x1 x3 σ → hg_G hg_FM 6 X 79 [(0, .ref (hg_ad X 0)), (1, .int x1), (3, .int x3)] [] σ hg_rM) (x1 : Int32) (x3 : Int32) (σ : hg_M) (hw : bM_X6_trim_162 P J79 x1 x3 σ) : hg_G hg_FM 6 X 162 [(0, .ref (hg_ad X 0)), (1, .int x1), (3, .int x3)] [] σ hg_rM := by
  unfold bM_X6_trim_162 at hw
  obtain ⟨v12, ev12⟩ : ∃ z, z = x3 + (1 : Int32) := ⟨_, rfl⟩
  have hw := hw v12 ev12
  refine hg_iinc hC (v := v12) (L1 := [(3, .int v12), (0, .ref (hg_ad X 0)), (1, .int x1)]) dX6_trim_162 2 rfl (by rw [hl_i1, ev12]) (by decide) rfl (n := 165) rfl ?_
  refine hg_goto hC dX6_trim_165 (tg := 79) rfl ?_
  exact hg_sub [1, 2, 0] rfl (hJ79 x1 v12 σ hw)
set_option maxRecDepth 4000 in
theorem tbM_X6_trim_124 {d : Nat} {E : hg_Et} {X : hg_X} {P : Int32 → hg_M → Prop} {J79 : Int32 → Int32 → hg_M → Prop} (hC : hg_C hg_FM 6 (d + 3) E cX6_trim RX6 X) (hR : hg_Rni hg_FM (some .int) hg_rM P X) (hJ79 : ∀ (x1 : Int32) (x3 : Int32) (σ : hg_M), J79 x1 x3 σ → hg_G hg_FM 6 X 79 [(0, .ref (hg_ad X 0)), (1, .int x1), (3, .int x3)] [] σ hg_rM) (x1 : Int32) (x3 : Int32) (t0 : Int32) (σ : hg_M) (hw : bM_X6_trim_124 P J79 x1 x3 t0 σ) : hg_G hg_FM 6 X 124 [(0, .ref (hg_ad X 0)), (1, .int x1), (3, .int x3)] [.int t0] σ hg_rM := by
  unfold bM_X6_trim_124 at hw
  refine hg_istore hC (L1 := [(4, .int t0), (0, .ref (hg_ad X 0)), (1, .int x1), (3, .int x3)]) dX6_trim_124 (by decide) rfl (n := 126) rfl ?_
  refine hg_iload hC dX6_trim_126 0 rfl (n := 128) rfl ?_
  refine hg_if_le hC dX6_trim_128 (tg := 162) rfl (n := 131) rfl (fun h9 => ?_) (fun h9 => ?_)
  · have hw := hw.1 h9
    exact hg_sub [1, 2, 3] rfl (tbM_X6_trim_162 hC hR hJ79 x1 x3 σ hw)
  · have hw := hw.2 h9
    refine hg_aload_n hC dX6_trim_131 rfl 1 rfl (n := 132) rfl ?_
    refine hg_getr hC fl_RX6_44 dX6_trim_132 qM_0 kM_0 fM_6_19 rM_0_19 (n := 135) rfl ?_
    refine hg_bipush hC dX6_trim_135 hl_b6 (n := 137) rfl ?_
    refine hg_iload_n hC dX6_trim_137 rfl 3 rfl (n := 138) rfl ?_
    refine hg_imul hC dX6_trim_138 (n := 139) rfl ?_
    refine hg_iload hC dX6_trim_139 0 rfl (n := 141) rfl ?_
    refine hg_iadd hC dX6_trim_141 (n := 142) rfl ?_
    refine hg_dup2 hC dX6_trim_142 rfl rfl (n := 143) rfl ?_
    obtain ⟨h9, hw⟩ := hw
    refine hg_iald hC dX6_trim_143 qM_12 kM_12 h9 (n := 144) rfl ?_
    refine hg_aload_n hC dX6_trim_144 rfl 1 rfl (n := 145) rfl ?_
    refine hg_aload_n hC dX6_trim_145 rfl 1 rfl (n := 146) rfl ?_
    refine hg_getr hC fl_RX6_44 dX6_trim_146 qM_0 kM_0 fM_6_19 rM_0_19 (n := 149) rfl ?_
    refine hg_bipush hC dX6_trim_149 hl_b6 (n := 151) rfl ?_
    refine hg_iload_n hC dX6_trim_151 rfl 3 rfl (n := 152) rfl ?_
    refine hg_imul hC dX6_trim_152 (n := 153) rfl ?_
    refine hg_iload hC dX6_trim_153 0 rfl (n := 155) rfl ?_
    refine hg_iadd hC dX6_trim_155 (n := 156) rfl ?_
    obtain ⟨h9, hw⟩ := hw
    refine hg_iald hC dX6_trim_156 qM_12 kM_12 h9 (n := 157) rfl ?_
    refine hg_cVi hC (tM_X6_goneBefore (hg_Eof hC) X.2.1 (d + 1) _ _ _ hw) sv_RX6_275 dX6_trim_157 qM_0 kM_0 c_6 rfl (rest := [.int (σ 12 ((((6 : Int32) * x3) + t0)).toNatClampNeg), .int (((6 : Int32) * x3) + t0), .ref (hg_ad X 12)]) rfl (Nat.le_of_ble_eq_true rfl) (n := 160) rfl (fun r10 σ9 hw => ?_)
    refine hg_isub hC dX6_trim_160 (n := 161) rfl ?_
    obtain ⟨h9, hw⟩ := hw
    refine hg_iast hC dX6_trim_161 qM_12 kM_12 h9 (n := 162) rfl (fun σ11 eσ11 => ?_)
    have hw := hw σ11 eσ11
    exact hg_sub [1, 2, 3] rfl (tbM_X6_trim_162 hC hR hJ79 x1 x3 σ11 hw)
set_option maxRecDepth 4000 in
theorem tlM_X6_trim_79 {d : Nat} {E : hg_Et} {X : hg_X} {P : Int32 → hg_M → Prop}  (hC : hg_C hg_FM 6 (d + 3) E cX6_trim RX6 X) (hR : hg_Rni hg_FM (some .int) hg_rM P X)  (n : Nat) : ∀ (x1 : Int32) (x3 : Int32) (σ : hg_M), lM_X6_trim_79 P n x1 x3 σ → hg_G hg_FM 6 X 79 [(0, .ref (hg_ad X 0)), (1, .int x1), (3, .int x3)] [] σ hg_rM := by
  induction n with
  | zero =>
    intro x1 x3 σ hw
    rw [lM_X6_trim_79] at hw
    exact hw.elim
  | succ n ih =>
    intro x1 x3 σ hw
    rw [lM_X6_trim_79] at hw
    refine hg_iload_n hC dX6_trim_79 rfl 2 rfl (n := 80) rfl ?_
    refine hg_aload_n hC dX6_trim_80 rfl 0 rfl (n := 81) rfl ?_
    refine hg_geti hC fl_RX6_199 dX6_trim_81 qM_0 kM_0 fM_6_20 (n := 84) rfl ?_
    refine hg_icmp_ge hC dX6_trim_84 (tg := 168) rfl (n := 87) rfl (fun h9 => ?_) (fun h9 => ?_)
    · have hw := hw.1 h9
      refine hg_iconst hC dX6_trim_168 hl_i0 (n := 169) rfl ?_
      refine hg_istore_n hC (L1 := [(3, .int (0 : Int32)), (0, .ref (hg_ad X 0)), (1, .int x1)]) dX6_trim_169 rfl (by decide) rfl (n := 170) rfl ?_
      refine hg_iconst hC dX6_trim_170 hl_i0 (n := 171) rfl ?_
      refine hg_istore hC (L1 := [(4, .int (0 : Int32)), (3, .int (0 : Int32)), (0, .ref (hg_ad X 0)), (1, .int x1)]) dX6_trim_171 (by decide) rfl (n := 173) rfl ?_
      obtain ⟨n9, hw⟩ := hw
      exact hg_sub [2, 3, 1, 0] rfl (tlM_X6_trim_173 hC hR  n9 x1 (0 : Int32) (0 : Int32) σ hw)
    · have hw := hw.2 h9
      refine hg_aload_n hC dX6_trim_87 rfl 0 rfl (n := 88) rfl ?_
      refine hg_getr hC fl_RX6_44 dX6_trim_88 qM_0 kM_0 fM_6_19 rM_0_19 (n := 91) rfl ?_
      refine hg_bipush hC dX6_trim_91 hl_b6 (n := 93) rfl ?_
      refine hg_iload_n hC dX6_trim_93 rfl 2 rfl (n := 94) rfl ?_
      refine hg_imul hC dX6_trim_94 (n := 95) rfl ?_
      obtain ⟨h9, hw⟩ := hw
      refine hg_iald hC dX6_trim_95 qM_12 kM_12 h9 (n := 96) rfl ?_
      refine hg_bipush hC dX6_trim_96 hl_b16 (n := 98) rfl ?_
      refine hg_icmp_ne hC dX6_trim_98 (tg := 105) rfl (n := 101) rfl (fun h9 => ?_) (fun h9 => ?_)
      · have hw := hw.1 h9
        refine hg_aload_n hC dX6_trim_105 rfl 0 rfl (n := 106) rfl ?_
        refine hg_getr hC fl_RX6_44 dX6_trim_106 qM_0 kM_0 fM_6_19 rM_0_19 (n := 109) rfl ?_
        refine hg_bipush hC dX6_trim_109 hl_b6 (n := 111) rfl ?_
        refine hg_iload_n hC dX6_trim_111 rfl 2 rfl (n := 112) rfl ?_
        refine hg_imul hC dX6_trim_112 (n := 113) rfl ?_
        obtain ⟨h9, hw⟩ := hw
        refine hg_iald hC dX6_trim_113 qM_12 kM_12 h9 (n := 114) rfl ?_
        refine hg_bipush hC dX6_trim_114 hl_b17 (n := 116) rfl ?_
        refine hg_icmp_ne hC dX6_trim_116 (tg := 123) rfl (n := 119) rfl (fun h9 => ?_) (fun h9 => ?_)
        · have hw := hw.1 h9
          refine hg_iconst hC dX6_trim_123 hl_i0 (n := 124) rfl ?_
          exact tbM_X6_trim_124 hC hR ih x1 x3 (0 : Int32) σ hw
        · have hw := hw.2 h9
          refine hg_iconst hC dX6_trim_119 hl_i2 (n := 120) rfl ?_
          refine hg_goto hC dX6_trim_120 (tg := 124) rfl ?_
          exact tbM_X6_trim_124 hC hR ih x1 x3 (2 : Int32) σ hw
      · have hw := hw.2 h9
        refine hg_iconst hC dX6_trim_101 hl_i1 (n := 102) rfl ?_
        refine hg_goto hC dX6_trim_102 (tg := 124) rfl ?_
        exact tbM_X6_trim_124 hC hR ih x1 x3 (1 : Int32) σ hw
set_option maxRecDepth 4000 in
theorem tbM_X6_trim_68 {d : Nat} {E : hg_Et} {X : hg_X} {P : Int32 → hg_M → Prop} {J32 : Int32 → Int32 → hg_M → Prop} {J40 : Int32 → Int32 → Int32 → hg_M → Prop} (hC : hg_C hg_FM 6 (d + 3) E cX6_trim RX6 X) (hR : hg_Rni hg_FM (some .int) hg_rM P X) (hJ32 : ∀ (x1 : Int32) (x2 : Int32) (σ : hg_M), J32 x1 x2 σ → hg_G hg_FM 6 X 32 [(0, .ref (hg_ad X 0)), (1, .int x1), (2, .int x2)] [] σ hg_rM) (hJ40 : ∀ (x1 : Int32) (x2 : Int32) (x3 : Int32) (σ : hg_M), J40 x1 x2 x3 σ → hg_G hg_FM 6 X 40 [(0, .ref (hg_ad X 0)), (1, .int x1), (2, .int x2), (3, .int x3)] [] σ hg_rM) (x1 : Int32) (x2 : Int32) (x3 : Int32) (σ : hg_M) (hw : bM_X6_trim_68 P J32 J40 x1 x2 x3 σ) : hg_G hg_FM 6 X 68 [(0, .ref (hg_ad X 0)), (1, .int x1), (2, .int x2), (3, .int x3)] [] σ hg_rM := by
  unfold bM_X6_trim_68 at hw
  obtain ⟨v8, ev8⟩ : ∃ z, z = x3 + (1 : Int32) := ⟨_, rfl⟩
  have hw := hw v8 ev8
  refine hg_iinc hC (v := v8) (L1 := [(3, .int v8), (0, .ref (hg_ad X 0)), (1, .int x1), (2, .int x2)]) dX6_trim_68 3 rfl (by rw [hl_i1, ev8]) (by decide) rfl (n := 71) rfl ?_
  refine hg_goto hC dX6_trim_71 (tg := 40) rfl ?_
  exact hg_sub [1, 2, 3, 0] rfl (hJ40 x1 x2 v8 σ hw)
set_option maxRecDepth 4000 in
theorem tlM_X6_trim_40 {d : Nat} {E : hg_Et} {X : hg_X} {P : Int32 → hg_M → Prop} {J32 : Int32 → Int32 → hg_M → Prop} (hC : hg_C hg_FM 6 (d + 3) E cX6_trim RX6 X) (hR : hg_Rni hg_FM (some .int) hg_rM P X) (hJ32 : ∀ (x1 : Int32) (x2 : Int32) (σ : hg_M), J32 x1 x2 σ → hg_G hg_FM 6 X 32 [(0, .ref (hg_ad X 0)), (1, .int x1), (2, .int x2)] [] σ hg_rM) (n : Nat) : ∀ (x1 : Int32) (x2 : Int32) (x3 : Int32) (σ : hg_M), lM_X6_trim_40 P J32 n x1 x2 x3 σ → hg_G hg_FM 6 X 40 [(0, .ref (hg_ad X 0)), (1, .int x1), (2, .int x2), (3, .int x3)] [] σ hg_rM := by
  induction n with
  | zero =>
    intro x1 x2 x3 σ hw
    rw [lM_X6_trim_40] at hw
    exact hw.elim
  | succ n ih =>
    intro x1 x2 x3 σ hw
    rw [lM_X6_trim_40] at hw
    refine hg_iload_n hC dX6_trim_40 rfl 3 rfl (n := 41) rfl ?_
    refine hg_aload_n hC dX6_trim_41 rfl 0 rfl (n := 42) rfl ?_
    refine hg_geti hC fl_RX6_199 dX6_trim_42 qM_0 kM_0 fM_6_20 (n := 45) rfl ?_
    refine hg_icmp_ge hC dX6_trim_45 (tg := 74) rfl (n := 48) rfl (fun h9 => ?_) (fun h9 => ?_)
    · have hw := hw.1 h9
      refine hg_goto hC dX6_trim_74 (tg := 32) rfl ?_
      exact hg_sub [0, 1, 2] rfl (hJ32 x1 x2 σ hw)
    · have hw := hw.2 h9
      refine hg_aload_n hC dX6_trim_48 rfl 0 rfl (n := 49) rfl ?_
      refine hg_iload_n hC dX6_trim_49 rfl 3 rfl (n := 50) rfl ?_
      refine hg_cVi hC (tM_X6_isUseless (hg_Eof hC) X.2.1 (d + 0) _ _ _ hw) sv_RX6_272 dX6_trim_50 qM_0 kM_0 c_6 rfl (rest := []) rfl (Nat.le_of_ble_eq_true rfl) (n := 53) rfl (fun r5 σ4 hw => ?_)
      refine hg_if_eq hC dX6_trim_53 (tg := 68) rfl (n := 56) rfl (fun h9 => ?_) (fun h9 => ?_)
      · have hw := hw.1 h9
        exact tbM_X6_trim_68 hC hR hJ32 ih x1 x2 x3 σ4 hw
      · have hw := hw.2 h9
        refine hg_aload_n hC dX6_trim_56 rfl 0 rfl (n := 57) rfl ?_
        refine hg_getr hC fl_RX6_81 dX6_trim_57 qM_0 kM_0 fM_6_35 rM_0_35 (n := 60) rfl ?_
        refine hg_iload_n hC dX6_trim_60 rfl 3 rfl (n := 61) rfl ?_
        refine hg_iconst hC dX6_trim_61 hl_i1 (n := 62) rfl ?_
        obtain ⟨h9, hw⟩ := hw
        refine hg_zast hC dX6_trim_62 qM_23 kM_23 h9 (n := 63) rfl (fun σ6 eσ6 => ?_)
        have hw := hw σ6 eσ6
        obtain ⟨v7, ev7⟩ : ∃ z, z = x1 + (1 : Int32) := ⟨_, rfl⟩
        have hw := hw v7 ev7
        refine hg_iinc hC (v := v7) (L1 := [(1, .int v7), (0, .ref (hg_ad X 0)), (2, .int x2), (3, .int x3)]) dX6_trim_63 1 rfl (by rw [hl_i1, ev7]) (by decide) rfl (n := 66) rfl ?_
        refine hg_iconst hC dX6_trim_66 hl_i1 (n := 67) rfl ?_
        refine hg_istore_n hC (L1 := [(2, .int (1 : Int32)), (1, .int v7), (0, .ref (hg_ad X 0)), (3, .int x3)]) dX6_trim_67 rfl (by decide) rfl (n := 68) rfl ?_
        exact hg_sub [2, 1, 0, 3] rfl (tbM_X6_trim_68 hC hR hJ32 ih v7 (1 : Int32) x3 σ6 hw)
set_option maxRecDepth 4000 in
theorem tlM_X6_trim_32 {d : Nat} {E : hg_Et} {X : hg_X} {P : Int32 → hg_M → Prop}  (hC : hg_C hg_FM 6 (d + 3) E cX6_trim RX6 X) (hR : hg_Rni hg_FM (some .int) hg_rM P X)  (n : Nat) : ∀ (x1 : Int32) (x2 : Int32) (σ : hg_M), lM_X6_trim_32 P n x1 x2 σ → hg_G hg_FM 6 X 32 [(0, .ref (hg_ad X 0)), (1, .int x1), (2, .int x2)] [] σ hg_rM := by
  induction n with
  | zero =>
    intro x1 x2 σ hw
    rw [lM_X6_trim_32] at hw
    exact hw.elim
  | succ n ih =>
    intro x1 x2 σ hw
    rw [lM_X6_trim_32] at hw
    refine hg_iload_n hC dX6_trim_32 rfl 2 rfl (n := 33) rfl ?_
    refine hg_if_eq hC dX6_trim_33 (tg := 77) rfl (n := 36) rfl (fun h9 => ?_) (fun h9 => ?_)
    · have hw := hw.1 h9
      refine hg_iconst hC dX6_trim_77 hl_i0 (n := 78) rfl ?_
      refine hg_istore_n hC (L1 := [(3, .int (0 : Int32)), (0, .ref (hg_ad X 0)), (1, .int x1), (2, .int x2)]) dX6_trim_78 rfl (by decide) rfl (n := 79) rfl ?_
      obtain ⟨n9, hw⟩ := hw
      exact hg_sub [1, 2, 0] rfl (tlM_X6_trim_79 hC hR  n9 x1 (0 : Int32) σ hw)
    · have hw := hw.2 h9
      refine hg_iconst hC dX6_trim_36 hl_i0 (n := 37) rfl ?_
      refine hg_istore_n hC (L1 := [(2, .int (0 : Int32)), (0, .ref (hg_ad X 0)), (1, .int x1)]) dX6_trim_37 rfl (by decide) rfl (n := 38) rfl ?_
      refine hg_iconst hC dX6_trim_38 hl_i0 (n := 39) rfl ?_
      refine hg_istore_n hC (L1 := [(3, .int (0 : Int32)), (2, .int (0 : Int32)), (0, .ref (hg_ad X 0)), (1, .int x1)]) dX6_trim_39 rfl (by decide) rfl (n := 40) rfl ?_
      obtain ⟨n9, hw⟩ := hw
      exact hg_sub [2, 3, 1, 0] rfl (tlM_X6_trim_40 hC hR ih n9 x1 (0 : Int32) (0 : Int32) σ hw)
set_option maxRecDepth 4000 in
theorem tlM_X6_trim_7 {d : Nat} {E : hg_Et} {X : hg_X} {P : Int32 → hg_M → Prop}  (hC : hg_C hg_FM 6 (d + 3) E cX6_trim RX6 X) (hR : hg_Rni hg_FM (some .int) hg_rM P X)  (n : Nat) : ∀ (x1 : Int32) (σ : hg_M), lM_X6_trim_7 P n x1 σ → hg_G hg_FM 6 X 7 [(0, .ref (hg_ad X 0)), (1, .int x1)] [] σ hg_rM := by
  induction n with
  | zero =>
    intro x1 σ hw
    rw [lM_X6_trim_7] at hw
    exact hw.elim
  | succ n ih =>
    intro x1 σ hw
    rw [lM_X6_trim_7] at hw
    refine hg_iload_n hC dX6_trim_7 rfl 1 rfl (n := 8) rfl ?_
    refine hg_aload_n hC dX6_trim_8 rfl 0 rfl (n := 9) rfl ?_
    refine hg_geti hC fl_RX6_199 dX6_trim_9 qM_0 kM_0 fM_6_20 (n := 12) rfl ?_
    refine hg_icmp_ge hC dX6_trim_12 (tg := 28) rfl (n := 15) rfl (fun h9 => ?_) (fun h9 => ?_)
    · have hw := hw.1 h9
      refine hg_iconst hC dX6_trim_28 hl_i0 (n := 29) rfl ?_
      refine hg_istore_n hC (L1 := [(1, .int (0 : Int32)), (0, .ref (hg_ad X 0))]) dX6_trim_29 rfl (by decide) rfl (n := 30) rfl ?_
      refine hg_iconst hC dX6_trim_30 hl_i1 (n := 31) rfl ?_
      refine hg_istore_n hC (L1 := [(2, .int (1 : Int32)), (1, .int (0 : Int32)), (0, .ref (hg_ad X 0))]) dX6_trim_31 rfl (by decide) rfl (n := 32) rfl ?_
      obtain ⟨n9, hw⟩ := hw
      exact hg_sub [2, 1, 0] rfl (tlM_X6_trim_32 hC hR  n9 (0 : Int32) (1 : Int32) σ hw)
    · have hw := hw.2 h9
      refine hg_aload_n hC dX6_trim_15 rfl 0 rfl (n := 16) rfl ?_
      refine hg_getr hC fl_RX6_81 dX6_trim_16 qM_0 kM_0 fM_6_35 rM_0_35 (n := 19) rfl ?_
      refine hg_iload_n hC dX6_trim_19 rfl 1 rfl (n := 20) rfl ?_
      refine hg_iconst hC dX6_trim_20 hl_i0 (n := 21) rfl ?_
      obtain ⟨h9, hw⟩ := hw
      refine hg_zast hC dX6_trim_21 qM_23 kM_23 h9 (n := 22) rfl (fun σ2 eσ2 => ?_)
      have hw := hw σ2 eσ2
      obtain ⟨v3, ev3⟩ : ∃ z, z = x1 + (1 : Int32) := ⟨_, rfl⟩
      have hw := hw v3 ev3
      refine hg_iinc hC (v := v3) (L1 := [(1, .int v3), (0, .ref (hg_ad X 0))]) dX6_trim_22 1 rfl (by rw [hl_i1, ev3]) (by decide) rfl (n := 25) rfl ?_
      refine hg_goto hC dX6_trim_25 (tg := 7) rfl ?_
      exact hg_sub [1, 0] rfl (ih v3 σ2 hw)
set_option maxRecDepth 4000 in
theorem tM_X6_trim {E : hg_Et} (hE : hg_Eok E) (l : Launch) (d : Nat)  (σ : hg_M) (P : Int32 → hg_M → Prop) (hw : wM_X6_trim  σ P) : hg_Ni hg_FM E l yX6_trim cX6_trim 6 (some .int) (d + 3) (fun ad => [.ref (ad 0)]) hg_rM σ P := by
  refine hg_ni hE (by decide) (fun _ => Nat.le_of_ble_eq_true rfl) (fun X hC hR hl => ?_)
  subst hl
  have hC : hg_C hg_FM 6 (d + 3) E cX6_trim RX6 X := hC
  show hg_G hg_FM 6 X 0 [(0, .ref (hg_ad X 0))] [] σ hg_rM
  unfold wM_X6_trim at hw
  refine hg_aload_n hC dX6_trim_0 rfl 0 rfl (n := 1) rfl ?_
  refine hg_iconst hC dX6_trim_1 hl_i0 (n := 2) rfl ?_
  refine hg_puti hC fp_RX6_102 dX6_trim_2 qM_0 kM_0 fM_6_0 rfl rfl (n := 5) rfl (fun σ1 eσ1 => ?_)
  have hw := hw σ1 eσ1
  refine hg_iconst hC dX6_trim_5 hl_i0 (n := 6) rfl ?_
  refine hg_istore_n hC (L1 := [(1, .int (0 : Int32)), (0, .ref (hg_ad X 0))]) dX6_trim_6 rfl (by decide) rfl (n := 7) rfl ?_
  obtain ⟨n9, hw⟩ := hw
  exact hg_sub [1, 0] rfl (tlM_X6_trim_7 hC hR  n9 (0 : Int32) σ1 hw)
def bM_X6_tell_49 (P : Int32 → hg_M → Prop)   (σ : hg_M) : Prop := wM_X6_leave σ (fun σ8 => P (σ8 0 42) σ8)
def lM_X6_tell_11 (P : Int32 → hg_M → Prop)  : Nat → Int32 → hg_M → Prop
  | 0, _, _ => False
  | n + 1, x1, σ => (((σ 0 9) ≤ x1 → bM_X6_tell_49 P σ) ∧ (¬ ((σ 0 9) ≤ x1) → (((σ 0 42) ≠ 0 → bM_X6_tell_49 P σ) ∧ ((σ 0 42) = 0 → ∀ σ3 : hg_M, σ3 = hg_set σ 0 41 ((σ 0 41) + (1 : Int32)) → wM_X6_doStatement x1 σ3 (fun r5 σ4 => wM_X6_behind r5 σ4 (fun r7 σ6 => lM_X6_tell_11 P n r7 σ6))))))
def wM_X6_tell  (σ : hg_M) (P : Int32 → hg_M → Prop) : Prop := ∀ σ1 : hg_M, σ1 = hg_set σ 0 0 (0 : Int32) → wM_X6_begin σ1 (fun σ2 => (∃ f9, lM_X6_tell_11 P f9 (0 : Int32) σ2))
set_option maxRecDepth 4000 in
theorem tbM_X6_tell_49 {d : Nat} {E : hg_Et} {X : hg_X} {P : Int32 → hg_M → Prop}  (hC : hg_C hg_FM 2 (d + 4) E cX6_tell RX6 X) (hR : hg_Rni hg_FM (some .int) hg_rM P X)   (σ : hg_M) (hw : bM_X6_tell_49 P  σ) : hg_G hg_FM 2 X 49 [(0, .ref (hg_ad X 0))] [] σ hg_rM := by
  unfold bM_X6_tell_49 at hw
  refine hg_aload_n hC dX6_tell_49 rfl 0 rfl (n := 50) rfl ?_
  refine hg_cVv hC (tM_X6_leave (hg_Eof hC) X.2.1 (d + 2) _ _ hw) sv_RX6_313 dX6_tell_50 qM_0 kM_0 c_6 rfl (rest := []) rfl (Nat.le_of_ble_eq_true rfl) (n := 53) rfl (fun σ8 hw => ?_)
  refine hg_aload_n hC dX6_tell_53 rfl 0 rfl (n := 54) rfl ?_
  refine hg_geti hC fl_RX6_288 dX6_tell_54 qM_0 kM_0 fM_6_42 (n := 57) rfl ?_
  exact hg_reti hC hR dX6_tell_57 hw
set_option maxRecDepth 4000 in
theorem tlM_X6_tell_11 {d : Nat} {E : hg_Et} {X : hg_X} {P : Int32 → hg_M → Prop}  (hC : hg_C hg_FM 2 (d + 4) E cX6_tell RX6 X) (hR : hg_Rni hg_FM (some .int) hg_rM P X)  (n : Nat) : ∀ (x1 : Int32) (σ : hg_M), lM_X6_tell_11 P n x1 σ → hg_G hg_FM 2 X 11 [(0, .ref (hg_ad X 0)), (1, .int x1)] [] σ hg_rM := by
  induction n with
  | zero =>
    intro x1 σ hw
    rw [lM_X6_tell_11] at hw
    exact hw.elim
  | succ n ih =>
    intro x1 σ hw
    rw [lM_X6_tell_11] at hw
    refine hg_iload_n hC dX6_tell_11 rfl 1 rfl (n := 12) rfl ?_
    refine hg_aload_n hC dX6_tell_12 rfl 0 rfl (n := 13) rfl ?_
    refine hg_geti hC fl_RX6_192 dX6_tell_13 qM_0 kM_0 fM_6_9 (n := 16) rfl ?_
    refine hg_icmp_ge hC dX6_tell_16 (tg := 49) rfl (n := 19) rfl (fun h9 => ?_) (fun h9 => ?_)
    · have hw := hw.1 h9
      exact hg_sub [0] rfl (tbM_X6_tell_49 hC hR  σ hw)
    · have hw := hw.2 h9
      refine hg_aload_n hC dX6_tell_19 rfl 0 rfl (n := 20) rfl ?_
      refine hg_geti hC fl_RX6_288 dX6_tell_20 qM_0 kM_0 fM_6_42 (n := 23) rfl ?_
      refine hg_if_ne hC dX6_tell_23 (tg := 49) rfl (n := 26) rfl (fun h9 => ?_) (fun h9 => ?_)
      · have hw := hw.1 h9
        exact hg_sub [0] rfl (tbM_X6_tell_49 hC hR  σ hw)
      · have hw := hw.2 h9
        refine hg_aload_n hC dX6_tell_26 rfl 0 rfl (n := 27) rfl ?_
        refine hg_dup hC dX6_tell_27 rfl (n := 28) rfl ?_
        refine hg_geti hC fl_RX6_285 dX6_tell_28 qM_0 kM_0 fM_6_41 (n := 31) rfl ?_
        refine hg_iconst hC dX6_tell_31 hl_i1 (n := 32) rfl ?_
        refine hg_iadd hC dX6_tell_32 (n := 33) rfl ?_
        refine hg_puti hC fp_RX6_285 dX6_tell_33 qM_0 kM_0 fM_6_41 rfl rfl (n := 36) rfl (fun σ3 eσ3 => ?_)
        have hw := hw σ3 eσ3
        refine hg_aload_n hC dX6_tell_36 rfl 0 rfl (n := 37) rfl ?_
        refine hg_aload_n hC dX6_tell_37 rfl 0 rfl (n := 38) rfl ?_
        refine hg_iload_n hC dX6_tell_38 rfl 1 rfl (n := 39) rfl ?_
        refine hg_cVi hC (tM_X6_doStatement (hg_Eof hC) X.2.1 (d + 0) _ _ _ hw) sv_RX6_307 dX6_tell_39 qM_0 kM_0 c_6 rfl (rest := [.ref (hg_ad X 0)]) rfl (Nat.le_of_ble_eq_true rfl) (n := 42) rfl (fun r5 σ4 hw => ?_)
        refine hg_cVi hC (tM_X6_behind (hg_Eof hC) X.2.1 (d + 1) _ _ _ hw) sv_RX6_310 dX6_tell_42 qM_0 kM_0 c_6 rfl (rest := []) rfl (Nat.le_of_ble_eq_true rfl) (n := 45) rfl (fun r7 σ6 hw => ?_)
        refine hg_istore_n hC (L1 := [(1, .int r7), (0, .ref (hg_ad X 0))]) dX6_tell_45 rfl (by decide) rfl (n := 46) rfl ?_
        refine hg_goto hC dX6_tell_46 (tg := 11) rfl ?_
        exact hg_sub [1, 0] rfl (ih r7 σ6 hw)
set_option maxRecDepth 4000 in
theorem tM_X6_tell {E : hg_Et} (hE : hg_Eok E) (l : Launch) (d : Nat)  (σ : hg_M) (P : Int32 → hg_M → Prop) (hw : wM_X6_tell  σ P) : hg_Ni hg_FM E l yX6_tell cX6_tell 2 (some .int) (d + 4) (fun ad => [.ref (ad 0)]) hg_rM σ P := by
  refine hg_ni hE (by decide) (fun _ => Nat.le_of_ble_eq_true rfl) (fun X hC hR hl => ?_)
  subst hl
  have hC : hg_C hg_FM 2 (d + 4) E cX6_tell RX6 X := hC
  show hg_G hg_FM 2 X 0 [(0, .ref (hg_ad X 0))] [] σ hg_rM
  unfold wM_X6_tell at hw
  refine hg_aload_n hC dX6_tell_0 rfl 0 rfl (n := 1) rfl ?_
  refine hg_iconst hC dX6_tell_1 hl_i0 (n := 2) rfl ?_
  refine hg_puti hC fp_RX6_102 dX6_tell_2 qM_0 kM_0 fM_6_0 rfl rfl (n := 5) rfl (fun σ1 eσ1 => ?_)
  have hw := hw σ1 eσ1
  refine hg_aload_n hC dX6_tell_5 rfl 0 rfl (n := 6) rfl ?_
  refine hg_cVv hC (tM_X6_begin (hg_Eof hC) X.2.1 (d + 2) _ _ hw) sv_RX6_304 dX6_tell_6 qM_0 kM_0 c_6 rfl (rest := []) rfl (Nat.le_of_ble_eq_true rfl) (n := 9) rfl (fun σ2 hw => ?_)
  refine hg_iconst hC dX6_tell_9 hl_i0 (n := 10) rfl ?_
  refine hg_istore_n hC (L1 := [(1, .int (0 : Int32)), (0, .ref (hg_ad X 0))]) dX6_tell_10 rfl (by decide) rfl (n := 11) rfl ?_
  obtain ⟨n9, hw⟩ := hw
  exact hg_sub [1, 0] rfl (tlM_X6_tell_11 hC hR  n9 (0 : Int32) σ2 hw)
def bM_X6_run_54 (P : Int32 → hg_M → Prop)   (σ : hg_M) : Prop := wM_X6_leave σ (fun σ7 => P (σ7 0 42) σ7)
def lM_X6_run_20 (P : Int32 → hg_M → Prop)  : Nat → Int32 → hg_M → Prop
  | 0, _, _ => False
  | n + 1, x1, σ => (((σ 0 20) ≤ x1 → bM_X6_run_54 P σ) ∧ (¬ ((σ 0 20) ≤ x1) → (((σ 0 42) ≠ 0 → bM_X6_run_54 P σ) ∧ ((σ 0 42) = 0 → ∀ σ4 : hg_M, σ4 = hg_set σ 0 41 ((σ 0 41) + (1 : Int32)) → wM_X6_doStep x1 σ4 (fun r6 σ5 => lM_X6_run_20 P n r6 σ5)))))
def wM_X6_run  (σ : hg_M) (P : Int32 → hg_M → Prop) : Prop := wM_X6_may (σ 0 22) (1 : Int32) σ (fun r2 σ1 => ((r2 ≠ 0 → wM_X6_begin σ1 (fun σ3 => (∃ f9, lM_X6_run_20 P f9 (0 : Int32) σ3))) ∧ (r2 = 0 → P (0 : Int32) σ1)))
set_option maxRecDepth 4000 in
theorem tbM_X6_run_54 {d : Nat} {E : hg_Et} {X : hg_X} {P : Int32 → hg_M → Prop}  (hC : hg_C hg_FM 2 (d + 4) E cX6_run RX6 X) (hR : hg_Rni hg_FM (some .int) hg_rM P X)   (σ : hg_M) (hw : bM_X6_run_54 P  σ) : hg_G hg_FM 2 X 54 [(0, .ref (hg_ad X 0))] [] σ hg_rM := by
  unfold bM_X6_run_54 at hw
  refine hg_aload_n hC dX6_run_54 rfl 0 rfl (n := 55) rfl ?_
  refine hg_cVv hC (tM_X6_leave (hg_Eof hC) X.2.1 (d + 2) _ _ hw) sv_RX6_313 dX6_run_55 qM_0 kM_0 c_6 rfl (rest := []) rfl (Nat.le_of_ble_eq_true rfl) (n := 58) rfl (fun σ7 hw => ?_)
  refine hg_aload_n hC dX6_run_58 rfl 0 rfl (n := 59) rfl ?_
  refine hg_geti hC fl_RX6_288 dX6_run_59 qM_0 kM_0 fM_6_42 (n := 62) rfl ?_
  exact hg_reti hC hR dX6_run_62 hw
set_option maxRecDepth 4000 in
theorem tlM_X6_run_20 {d : Nat} {E : hg_Et} {X : hg_X} {P : Int32 → hg_M → Prop}  (hC : hg_C hg_FM 2 (d + 4) E cX6_run RX6 X) (hR : hg_Rni hg_FM (some .int) hg_rM P X)  (n : Nat) : ∀ (x1 : Int32) (σ : hg_M), lM_X6_run_20 P n x1 σ → hg_G hg_FM 2 X 20 [(0, .ref (hg_ad X 0)), (1, .int x1)] [] σ hg_rM := by
  induction n with
  | zero =>
    intro x1 σ hw
    rw [lM_X6_run_20] at hw
    exact hw.elim
  | succ n ih =>
    intro x1 σ hw
    rw [lM_X6_run_20] at hw
    refine hg_iload_n hC dX6_run_20 rfl 1 rfl (n := 21) rfl ?_
    refine hg_aload_n hC dX6_run_21 rfl 0 rfl (n := 22) rfl ?_
    refine hg_geti hC fl_RX6_199 dX6_run_22 qM_0 kM_0 fM_6_20 (n := 25) rfl ?_
    refine hg_icmp_ge hC dX6_run_25 (tg := 54) rfl (n := 28) rfl (fun h9 => ?_) (fun h9 => ?_)
    · have hw := hw.1 h9
      exact hg_sub [0] rfl (tbM_X6_run_54 hC hR  σ hw)
    · have hw := hw.2 h9
      refine hg_aload_n hC dX6_run_28 rfl 0 rfl (n := 29) rfl ?_
      refine hg_geti hC fl_RX6_288 dX6_run_29 qM_0 kM_0 fM_6_42 (n := 32) rfl ?_
      refine hg_if_ne hC dX6_run_32 (tg := 54) rfl (n := 35) rfl (fun h9 => ?_) (fun h9 => ?_)
      · have hw := hw.1 h9
        exact hg_sub [0] rfl (tbM_X6_run_54 hC hR  σ hw)
      · have hw := hw.2 h9
        refine hg_aload_n hC dX6_run_35 rfl 0 rfl (n := 36) rfl ?_
        refine hg_dup hC dX6_run_36 rfl (n := 37) rfl ?_
        refine hg_geti hC fl_RX6_285 dX6_run_37 qM_0 kM_0 fM_6_41 (n := 40) rfl ?_
        refine hg_iconst hC dX6_run_40 hl_i1 (n := 41) rfl ?_
        refine hg_iadd hC dX6_run_41 (n := 42) rfl ?_
        refine hg_puti hC fp_RX6_285 dX6_run_42 qM_0 kM_0 fM_6_41 rfl rfl (n := 45) rfl (fun σ4 eσ4 => ?_)
        have hw := hw σ4 eσ4
        refine hg_aload_n hC dX6_run_45 rfl 0 rfl (n := 46) rfl ?_
        refine hg_iload_n hC dX6_run_46 rfl 1 rfl (n := 47) rfl ?_
        refine hg_cVi hC (tM_X6_doStep (hg_Eof hC) X.2.1 (d + 0) _ _ _ hw) sv_RX6_316 dX6_run_47 qM_0 kM_0 c_6 rfl (rest := []) rfl (Nat.le_of_ble_eq_true rfl) (n := 50) rfl (fun r6 σ5 hw => ?_)
        refine hg_istore_n hC (L1 := [(1, .int r6), (0, .ref (hg_ad X 0))]) dX6_run_50 rfl (by decide) rfl (n := 51) rfl ?_
        refine hg_goto hC dX6_run_51 (tg := 20) rfl ?_
        exact hg_sub [1, 0] rfl (ih r6 σ5 hw)
set_option maxRecDepth 4000 in
theorem tM_X6_run {E : hg_Et} (hE : hg_Eok E) (l : Launch) (d : Nat)  (σ : hg_M) (P : Int32 → hg_M → Prop) (hw : wM_X6_run  σ P) : hg_Ni hg_FM E l yX6_run cX6_run 2 (some .int) (d + 4) (fun ad => [.ref (ad 0)]) hg_rM σ P := by
  refine hg_ni hE (by decide) (fun _ => Nat.le_of_ble_eq_true rfl) (fun X hC hR hl => ?_)
  subst hl
  have hC : hg_C hg_FM 2 (d + 4) E cX6_run RX6 X := hC
  show hg_G hg_FM 2 X 0 [(0, .ref (hg_ad X 0))] [] σ hg_rM
  unfold wM_X6_run at hw
  refine hg_aload_n hC dX6_run_0 rfl 0 rfl (n := 1) rfl ?_
  refine hg_aload_n hC dX6_run_1 rfl 0 rfl (n := 2) rfl ?_
  refine hg_geti hC fl_RX6_195 dX6_run_2 qM_0 kM_0 fM_6_22 (n := 5) rfl ?_
  refine hg_iconst hC dX6_run_5 hl_i1 (n := 6) rfl ?_
  refine hg_cVi hC (tM_X6_may (hg_Eof hC) X.2.1 (d + 2) _ _ _ _ hw) sv_RX6_111 dX6_run_6 qM_0 kM_0 c_6 rfl (rest := []) rfl (Nat.le_of_ble_eq_true rfl) (n := 9) rfl (fun r2 σ1 hw => ?_)
  refine hg_if_ne hC dX6_run_9 (tg := 14) rfl (n := 12) rfl (fun h9 => ?_) (fun h9 => ?_)
  · have hw := hw.1 h9
    refine hg_aload_n hC dX6_run_14 rfl 0 rfl (n := 15) rfl ?_
    refine hg_cVv hC (tM_X6_begin (hg_Eof hC) X.2.1 (d + 2) _ _ hw) sv_RX6_304 dX6_run_15 qM_0 kM_0 c_6 rfl (rest := []) rfl (Nat.le_of_ble_eq_true rfl) (n := 18) rfl (fun σ3 hw => ?_)
    refine hg_iconst hC dX6_run_18 hl_i0 (n := 19) rfl ?_
    refine hg_istore_n hC (L1 := [(1, .int (0 : Int32)), (0, .ref (hg_ad X 0))]) dX6_run_19 rfl (by decide) rfl (n := 20) rfl ?_
    obtain ⟨n9, hw⟩ := hw
    exact hg_sub [1, 0] rfl (tlM_X6_run_20 hC hR  n9 (0 : Int32) σ3 hw)
  · have hw := hw.2 h9
    refine hg_iconst hC dX6_run_12 hl_i0 (n := 13) rfl ?_
    exact hg_reti hC hR dX6_run_13 hw
