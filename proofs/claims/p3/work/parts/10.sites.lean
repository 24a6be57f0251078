/-! literals, fields and calls by their sites -/
theorem hl_i0 : Int32.ofInt (0) = (0 : Int32) := by decide
theorem hl_n736 : Int32.ofNat 736 = (736 : Int32) := by decide
theorem hl_i1 : Int32.ofInt (1) = (1 : Int32) := by decide
theorem hl_b16 : (Int8.ofInt (16)).toInt32 = (16 : Int32) := by decide
theorem hl_s720 : (Int16.ofInt (720)).toInt32 = (720 : Int32) := by decide
theorem hl_im1 : Int32.ofInt (-1) = (-1 : Int32) := by decide
theorem vi_0_6 : vp_in (0 : Int32) 6 := by unfold vp_in; decide
theorem riC_43_0 : hg_rC 43 ((0 : Int32)).toNatClampNeg = 44 := rfl
theorem vi_1_6 : vp_in (1 : Int32) 6 := by unfold vp_in; decide
theorem riC_43_1 : hg_rC 43 ((1 : Int32)).toNatClampNeg = 45 := rfl
theorem hl_i2 : Int32.ofInt (2) = (2 : Int32) := by decide
theorem vi_2_6 : vp_in (2 : Int32) 6 := by unfold vp_in; decide
theorem riC_43_2 : hg_rC 43 ((2 : Int32)).toNatClampNeg = 46 := rfl
theorem hl_i3 : Int32.ofInt (3) = (3 : Int32) := by decide
theorem vi_3_6 : vp_in (3 : Int32) 6 := by unfold vp_in; decide
theorem riC_43_3 : hg_rC 43 ((3 : Int32)).toNatClampNeg = 47 := rfl
theorem hl_i4 : Int32.ofInt (4) = (4 : Int32) := by decide
theorem vi_4_6 : vp_in (4 : Int32) 6 := by unfold vp_in; decide
theorem riC_43_4 : hg_rC 43 ((4 : Int32)).toNatClampNeg = 48 := rfl
theorem hl_i5 : Int32.ofInt (5) = (5 : Int32) := by decide
theorem vi_5_6 : vp_in (5 : Int32) 6 := by unfold vp_in; decide
theorem riC_43_5 : hg_rC 43 ((5 : Int32)).toNatClampNeg = 49 := rfl
theorem hl_b17 : (Int8.ofInt (17)).toInt32 = (17 : Int32) := by decide
theorem hl_b6 : (Int8.ofInt (6)).toInt32 = (6 : Int32) := by decide
theorem hl_s600 : (Int16.ofInt (600)).toInt32 = (600 : Int32) := by decide
theorem hl_b32 : (Int8.ofInt (32)).toInt32 = (32 : Int32) := by decide
theorem hl_b10 : (Int8.ofInt (10)).toInt32 = (10 : Int32) := by decide
theorem hl_b123 : (Int8.ofInt (123)).toInt32 = (123 : Int32) := by decide
theorem hl_b97 : (Int8.ofInt (97)).toInt32 = (97 : Int32) := by decide
theorem hl_b113 : (Int8.ofInt (113)).toInt32 = (113 : Int32) := by decide
theorem hl_b48 : (Int8.ofInt (48)).toInt32 = (48 : Int32) := by decide
theorem hl_b57 : (Int8.ofInt (57)).toInt32 = (57 : Int32) := by decide
theorem hl_b60 : (Int8.ofInt (60)).toInt32 = (60 : Int32) := by decide
theorem hl_b18 : (Int8.ofInt (18)).toInt32 = (18 : Int32) := by decide
theorem hl_b14 : (Int8.ofInt (14)).toInt32 = (14 : Int32) := by decide
theorem hl_b15 : (Int8.ofInt (15)).toInt32 = (15 : Int32) := by decide
theorem hl_b13 : (Int8.ofInt (13)).toInt32 = (13 : Int32) := by decide
theorem hl_b7 : (Int8.ofInt (7)).toInt32 = (7 : Int32) := by decide
theorem hl_l0 : Int64.ofNat ((0 : Fin 2) : Nat) = (0 : Int64) := by decide
theorem hl_b45 : (Int8.ofInt (45)).toInt32 = (45 : Int32) := by decide
theorem hl_b61 : (Int8.ofInt (61)).toInt32 = (61 : Int32) := by decide
theorem hl_b59 : (Int8.ofInt (59)).toInt32 = (59 : Int32) := by decide
theorem hl_b64 : (Int8.ofInt (64)).toInt32 = (64 : Int32) := by decide
theorem hl_b33 : (Int8.ofInt (33)).toInt32 = (33 : Int32) := by decide
theorem hl_b63 : (Int8.ofInt (63)).toInt32 = (63 : Int32) := by decide
theorem hl_b125 : (Int8.ofInt (125)).toInt32 = (125 : Int32) := by decide
theorem hl_l1 : Int64.ofNat ((1 : Fin 2) : Nat) = (1 : Int64) := by decide
theorem hl_b8 : (Int8.ofInt (8)).toInt32 = (8 : Int32) := by decide
theorem hl_b112 : (Int8.ofInt (112)).toInt32 = (112 : Int32) := by decide
theorem hl_b9 : (Int8.ofInt (9)).toInt32 = (9 : Int32) := by decide
theorem hl_b43 : (Int8.ofInt (43)).toInt32 = (43 : Int32) := by decide
theorem hl_b42 : (Int8.ofInt (42)).toInt32 = (42 : Int32) := by decide
theorem hl_b47 : (Int8.ofInt (47)).toInt32 = (47 : Int32) := by decide
theorem hl_b37 : (Int8.ofInt (37)).toInt32 = (37 : Int32) := by decide
theorem hl_b38 : (Int8.ofInt (38)).toInt32 = (38 : Int32) := by decide
theorem hl_b124 : (Int8.ofInt (124)).toInt32 = (124 : Int32) := by decide
theorem hl_b94 : (Int8.ofInt (94)).toInt32 = (94 : Int32) := by decide
theorem hl_b35 : (Int8.ofInt (35)).toInt32 = (35 : Int32) := by decide
theorem hl_b12 : (Int8.ofInt (12)).toInt32 = (12 : Int32) := by decide
theorem hl_b11 : (Int8.ofInt (11)).toInt32 = (11 : Int32) := by decide
theorem hl_s540 : (Int16.ofInt (540)).toInt32 = (540 : Int32) := by decide
theorem hg_m1 {w : Cond} (i : Nat) (hi : tables_1_1[i]? = some w) (g : goodWord w = true) : w ∈ hg_tbl := by
  have h : w ∈ tables_1_1 := List.mem_of_getElem? hi
  exact List.mem_filter.mpr ⟨List.mem_append_right _ (show w ∈ tables_1 from (List.mem_append_left _ h)), g⟩
theorem hg_w1 {w : Cond} (i : Nat) (hi : tables_1_1[i]? = some w) (g : hg_isN w = true) : w ∈ hg_nws := by
  have h : w ∈ tables_1_1 := List.mem_of_getElem? hi
  exact List.mem_filter.mpr ⟨List.mem_append_right _ (show w ∈ tables_1 from (List.mem_append_left _ h)), g⟩
theorem hg_m2 {w : Cond} (i : Nat) (hi : tables_1_2[i]? = some w) (g : goodWord w = true) : w ∈ hg_tbl := by
  have h : w ∈ tables_1_2 := List.mem_of_getElem? hi
  exact List.mem_filter.mpr ⟨List.mem_append_right _ (show w ∈ tables_1 from (List.mem_append_right _ (List.mem_append_left _ h))), g⟩
theorem hg_w2 {w : Cond} (i : Nat) (hi : tables_1_2[i]? = some w) (g : hg_isN w = true) : w ∈ hg_nws := by
  have h : w ∈ tables_1_2 := List.mem_of_getElem? hi
  exact List.mem_filter.mpr ⟨List.mem_append_right _ (show w ∈ tables_1 from (List.mem_append_right _ (List.mem_append_left _ h))), g⟩
theorem hg_m3 {w : Cond} (i : Nat) (hi : tables_1_3[i]? = some w) (g : goodWord w = true) : w ∈ hg_tbl := by
  have h : w ∈ tables_1_3 := List.mem_of_getElem? hi
  exact List.mem_filter.mpr ⟨List.mem_append_right _ (show w ∈ tables_1 from (List.mem_append_right _ (List.mem_append_right _ (List.mem_append_left _ h)))), g⟩
theorem hg_w3 {w : Cond} (i : Nat) (hi : tables_1_3[i]? = some w) (g : hg_isN w = true) : w ∈ hg_nws := by
  have h : w ∈ tables_1_3 := List.mem_of_getElem? hi
  exact List.mem_filter.mpr ⟨List.mem_append_right _ (show w ∈ tables_1 from (List.mem_append_right _ (List.mem_append_right _ (List.mem_append_left _ h)))), g⟩
theorem hg_m4 {w : Cond} (i : Nat) (hi : tables_1_4[i]? = some w) (g : goodWord w = true) : w ∈ hg_tbl := by
  have h : w ∈ tables_1_4 := List.mem_of_getElem? hi
  exact List.mem_filter.mpr ⟨List.mem_append_right _ (show w ∈ tables_1 from (List.mem_append_right _ (List.mem_append_right _ (List.mem_append_right _ (List.mem_append_left _ h))))), g⟩
theorem hg_w4 {w : Cond} (i : Nat) (hi : tables_1_4[i]? = some w) (g : hg_isN w = true) : w ∈ hg_nws := by
  have h : w ∈ tables_1_4 := List.mem_of_getElem? hi
  exact List.mem_filter.mpr ⟨List.mem_append_right _ (show w ∈ tables_1 from (List.mem_append_right _ (List.mem_append_right _ (List.mem_append_right _ (List.mem_append_left _ h))))), g⟩
theorem hg_m5 {w : Cond} (i : Nat) (hi : tables_1_5[i]? = some w) (g : goodWord w = true) : w ∈ hg_tbl := by
  have h : w ∈ tables_1_5 := List.mem_of_getElem? hi
  exact List.mem_filter.mpr ⟨List.mem_append_right _ (show w ∈ tables_1 from (List.mem_append_right _ (List.mem_append_right _ (List.mem_append_right _ (List.mem_append_right _ h))))), g⟩
theorem hg_w5 {w : Cond} (i : Nat) (hi : tables_1_5[i]? = some w) (g : hg_isN w = true) : w ∈ hg_nws := by
  have h : w ∈ tables_1_5 := List.mem_of_getElem? hi
  exact List.mem_filter.mpr ⟨List.mem_append_right _ (show w ∈ tables_1 from (List.mem_append_right _ (List.mem_append_right _ (List.mem_append_right _ (List.mem_append_right _ h))))), g⟩
theorem hg_p1 {y : MethodName} (i : Nat) (hi : (lw_privs_1[i]?).map (·.1) = some y) : Cond.selects y.cls y y ∈ hg_tbl := by
  obtain ⟨q, h, rfl⟩ := Option.map_eq_some_iff.mp hi
  have h : q ∈ lw_privs_1 := List.mem_of_getElem? h
  exact List.mem_filter.mpr ⟨List.mem_append_left _ (List.mem_map.mpr ⟨q, (show q ∈ lw_privs from (List.mem_append_left _ h)), rfl⟩), rfl⟩
theorem hg_p2 {y : MethodName} (i : Nat) (hi : (lw_privs_2[i]?).map (·.1) = some y) : Cond.selects y.cls y y ∈ hg_tbl := by
  obtain ⟨q, h, rfl⟩ := Option.map_eq_some_iff.mp hi
  have h : q ∈ lw_privs_2 := List.mem_of_getElem? h
  exact List.mem_filter.mpr ⟨List.mem_append_left _ (List.mem_map.mpr ⟨q, (show q ∈ lw_privs from (List.mem_append_right _ (List.mem_append_left _ h))), rfl⟩), rfl⟩
theorem hg_p3 {y : MethodName} (i : Nat) (hi : (lw_privs_3[i]?).map (·.1) = some y) : Cond.selects y.cls y y ∈ hg_tbl := by
  obtain ⟨q, h, rfl⟩ := Option.map_eq_some_iff.mp hi
  have h : q ∈ lw_privs_3 := List.mem_of_getElem? h
  exact List.mem_filter.mpr ⟨List.mem_append_left _ (List.mem_map.mpr ⟨q, (show q ∈ lw_privs from (List.mem_append_right _ (List.mem_append_right _ (List.mem_append_left _ h)))), rfl⟩), rfl⟩
theorem hg_p4 {y : MethodName} (i : Nat) (hi : (lw_privs_4[i]?).map (·.1) = some y) : Cond.selects y.cls y y ∈ hg_tbl := by
  obtain ⟨q, h, rfl⟩ := Option.map_eq_some_iff.mp hi
  have h : q ∈ lw_privs_4 := List.mem_of_getElem? h
  exact List.mem_filter.mpr ⟨List.mem_append_left _ (List.mem_map.mpr ⟨q, (show q ∈ lw_privs from (List.mem_append_right _ (List.mem_append_right _ (List.mem_append_right _ (List.mem_append_left _ h))))), rfl⟩), rfl⟩
theorem hg_p5 {y : MethodName} (i : Nat) (hi : (lw_privs_5[i]?).map (·.1) = some y) : Cond.selects y.cls y y ∈ hg_tbl := by
  obtain ⟨q, h, rfl⟩ := Option.map_eq_some_iff.mp hi
  have h : q ∈ lw_privs_5 := List.mem_of_getElem? h
  exact List.mem_filter.mpr ⟨List.mem_append_left _ (List.mem_map.mpr ⟨q, (show q ∈ lw_privs from (List.mem_append_right _ (List.mem_append_right _ (List.mem_append_right _ (List.mem_append_right _ (List.mem_append_left _ h)))))), rfl⟩), rfl⟩
theorem hg_p6 {y : MethodName} (i : Nat) (hi : (lw_privs_6[i]?).map (·.1) = some y) : Cond.selects y.cls y y ∈ hg_tbl := by
  obtain ⟨q, h, rfl⟩ := Option.map_eq_some_iff.mp hi
  have h : q ∈ lw_privs_6 := List.mem_of_getElem? h
  exact List.mem_filter.mpr ⟨List.mem_append_left _ (List.mem_map.mpr ⟨q, (show q ∈ lw_privs from (List.mem_append_right _ (List.mem_append_right _ (List.mem_append_right _ (List.mem_append_right _ (List.mem_append_right _ h)))))), rfl⟩), rfl⟩
theorem inT_0 : ∀ w ∈ u_ws RX0 TX0 7, w ∈ hg_tbl := List.forall_mem_cons.mpr ⟨(hg_m1 157 (by decide +kernel) rfl), List.forall_mem_cons.mpr ⟨(hg_m1 159 (by decide +kernel) rfl), List.forall_mem_cons.mpr ⟨(hg_m1 161 (by decide +kernel) rfl), List.forall_mem_cons.mpr ⟨(hg_m1 163 (by decide +kernel) rfl), List.forall_mem_cons.mpr ⟨(hg_m1 165 (by decide +kernel) rfl), List.forall_mem_cons.mpr ⟨(hg_m1 167 (by decide +kernel) rfl), List.forall_mem_cons.mpr ⟨(hg_m1 169 (by decide +kernel) rfl), fun _ h => absurd h List.not_mem_nil⟩⟩⟩⟩⟩⟩⟩
theorem inT_1 : ∀ w ∈ u_ws RX1 TX1 7, w ∈ hg_tbl := List.forall_mem_cons.mpr ⟨(hg_m1 214 (by decide +kernel) rfl), List.forall_mem_cons.mpr ⟨(hg_m1 216 (by decide +kernel) rfl), List.forall_mem_cons.mpr ⟨(hg_m1 218 (by decide +kernel) rfl), List.forall_mem_cons.mpr ⟨(hg_m1 220 (by decide +kernel) rfl), List.forall_mem_cons.mpr ⟨(hg_m1 222 (by decide +kernel) rfl), List.forall_mem_cons.mpr ⟨(hg_m1 224 (by decide +kernel) rfl), List.forall_mem_cons.mpr ⟨(hg_m1 226 (by decide +kernel) rfl), fun _ h => absurd h List.not_mem_nil⟩⟩⟩⟩⟩⟩⟩
theorem inT_2 : ∀ w ∈ u_ws RX2 TX2 6, w ∈ hg_tbl := List.forall_mem_cons.mpr ⟨(hg_m1 181 (by decide +kernel) rfl), List.forall_mem_cons.mpr ⟨(hg_m1 183 (by decide +kernel) rfl), List.forall_mem_cons.mpr ⟨(hg_m1 185 (by decide +kernel) rfl), List.forall_mem_cons.mpr ⟨(hg_m1 187 (by decide +kernel) rfl), List.forall_mem_cons.mpr ⟨(hg_m1 189 (by decide +kernel) rfl), List.forall_mem_cons.mpr ⟨(hg_m1 191 (by decide +kernel) rfl), fun _ h => absurd h List.not_mem_nil⟩⟩⟩⟩⟩⟩
theorem inT_3 : ∀ w ∈ u_ws RX3 TX3 9, w ∈ hg_tbl := List.forall_mem_cons.mpr ⟨(hg_m1 75 (by decide +kernel) rfl), List.forall_mem_cons.mpr ⟨(hg_m1 77 (by decide +kernel) rfl), List.forall_mem_cons.mpr ⟨(hg_m1 79 (by decide +kernel) rfl), List.forall_mem_cons.mpr ⟨(hg_m1 81 (by decide +kernel) rfl), List.forall_mem_cons.mpr ⟨(hg_m1 83 (by decide +kernel) rfl), List.forall_mem_cons.mpr ⟨(hg_m1 85 (by decide +kernel) rfl), List.forall_mem_cons.mpr ⟨(hg_m1 87 (by decide +kernel) rfl), List.forall_mem_cons.mpr ⟨(hg_m1 89 (by decide +kernel) rfl), List.forall_mem_cons.mpr ⟨(hg_m1 91 (by decide +kernel) rfl), fun _ h => absurd h List.not_mem_nil⟩⟩⟩⟩⟩⟩⟩⟩⟩
theorem inT_4 : ∀ w ∈ u_ws RX4 TX4 9, w ∈ hg_tbl := List.forall_mem_cons.mpr ⟨(hg_m1 108 (by decide +kernel) rfl), List.forall_mem_cons.mpr ⟨(hg_m1 110 (by decide +kernel) rfl), List.forall_mem_cons.mpr ⟨(hg_m1 112 (by decide +kernel) rfl), List.forall_mem_cons.mpr ⟨(hg_m1 114 (by decide +kernel) rfl), List.forall_mem_cons.mpr ⟨(hg_m1 116 (by decide +kernel) rfl), List.forall_mem_cons.mpr ⟨(hg_m1 118 (by decide +kernel) rfl), List.forall_mem_cons.mpr ⟨(hg_m1 120 (by decide +kernel) rfl), List.forall_mem_cons.mpr ⟨(hg_m1 122 (by decide +kernel) rfl), List.forall_mem_cons.mpr ⟨(hg_m1 124 (by decide +kernel) rfl), fun _ h => absurd h List.not_mem_nil⟩⟩⟩⟩⟩⟩⟩⟩⟩
theorem inT_5 : ∀ w ∈ u_ws RX5 TX5 8, w ∈ hg_tbl := List.forall_mem_cons.mpr ⟨(hg_m1 237 (by decide +kernel) rfl), List.forall_mem_cons.mpr ⟨(hg_m1 239 (by decide +kernel) rfl), List.forall_mem_cons.mpr ⟨(hg_m2 1 (by decide +kernel) rfl), List.forall_mem_cons.mpr ⟨(hg_m2 3 (by decide +kernel) rfl), List.forall_mem_cons.mpr ⟨(hg_m2 5 (by decide +kernel) rfl), List.forall_mem_cons.mpr ⟨(hg_m2 7 (by decide +kernel) rfl), List.forall_mem_cons.mpr ⟨(hg_m2 9 (by decide +kernel) rfl), List.forall_mem_cons.mpr ⟨(hg_m2 11 (by decide +kernel) rfl), fun _ h => absurd h List.not_mem_nil⟩⟩⟩⟩⟩⟩⟩⟩
theorem inT_6 : ∀ w ∈ u_ws RX6 TX6 45, w ∈ hg_tbl := List.forall_mem_cons.mpr ⟨(hg_m4 121 (by decide +kernel) rfl), List.forall_mem_cons.mpr ⟨(hg_m4 123 (by decide +kernel) rfl), List.forall_mem_cons.mpr ⟨(hg_m4 125 (by decide +kernel) rfl), List.forall_mem_cons.mpr ⟨(hg_m4 127 (by decide +kernel) rfl), List.forall_mem_cons.mpr ⟨(hg_m4 129 (by decide +kernel) rfl), List.forall_mem_cons.mpr ⟨(hg_m4 131 (by decide +kernel) rfl), List.forall_mem_cons.mpr ⟨(hg_m4 133 (by decide +kernel) rfl), List.forall_mem_cons.mpr ⟨(hg_m4 135 (by decide +kernel) rfl), List.forall_mem_cons.mpr ⟨(hg_m4 137 (by decide +kernel) rfl), List.forall_mem_cons.mpr ⟨(hg_m4 139 (by decide +kernel) rfl), List.forall_mem_cons.mpr ⟨(hg_m4 141 (by decide +kernel) rfl), List.forall_mem_cons.mpr ⟨(hg_m4 143 (by decide +kernel) rfl), List.forall_mem_cons.mpr ⟨(hg_m4 145 (by decide +kernel) rfl), List.forall_mem_cons.mpr ⟨(hg_m4 147 (by decide +kernel) rfl), List.forall_mem_cons.mpr ⟨(hg_m4 149 (by decide +kernel) rfl), List.forall_mem_cons.mpr ⟨(hg_m4 151 (by decide +kernel) rfl), List.forall_mem_cons.mpr ⟨(hg_m4 153 (by decide +kernel) rfl), List.forall_mem_cons.mpr ⟨(hg_m4 155 (by decide +kernel) rfl), List.forall_mem_cons.mpr ⟨(hg_m4 157 (by decide +kernel) rfl), List.forall_mem_cons.mpr ⟨(hg_m4 159 (by decide +kernel) rfl), List.forall_mem_cons.mpr ⟨(hg_m4 161 (by decide +kernel) rfl), List.forall_mem_cons.mpr ⟨(hg_m4 163 (by decide +kernel) rfl), List.forall_mem_cons.mpr ⟨(hg_m4 165 (by decide +kernel) rfl), List.forall_mem_cons.mpr ⟨(hg_m4 167 (by decide +kernel) rfl), List.forall_mem_cons.mpr ⟨(hg_m4 169 (by decide +kernel) rfl), List.forall_mem_cons.mpr ⟨(hg_m4 171 (by decide +kernel) rfl), List.forall_mem_cons.mpr ⟨(hg_m4 173 (by decide +kernel) rfl), List.forall_mem_cons.mpr ⟨(hg_m4 175 (by decide +kernel) rfl), List.forall_mem_cons.mpr ⟨(hg_m4 177 (by decide +kernel) rfl), List.forall_mem_cons.mpr ⟨(hg_m4 179 (by decide +kernel) rfl), List.forall_mem_cons.mpr ⟨(hg_m4 181 (by decide +kernel) rfl), List.forall_mem_cons.mpr ⟨(hg_m4 183 (by decide +kernel) rfl), List.forall_mem_cons.mpr ⟨(hg_m4 185 (by decide +kernel) rfl), List.forall_mem_cons.mpr ⟨(hg_m4 187 (by decide +kernel) rfl), List.forall_mem_cons.mpr ⟨(hg_m4 189 (by decide +kernel) rfl), List.forall_mem_cons.mpr ⟨(hg_m4 191 (by decide +kernel) rfl), List.forall_mem_cons.mpr ⟨(hg_m4 193 (by decide +kernel) rfl), List.forall_mem_cons.mpr ⟨(hg_m4 195 (by decide +kernel) rfl), List.forall_mem_cons.mpr ⟨(hg_m4 197 (by decide +kernel) rfl), List.forall_mem_cons.mpr ⟨(hg_m4 199 (by decide +kernel) rfl), List.forall_mem_cons.mpr ⟨(hg_m4 201 (by decide +kernel) rfl), List.forall_mem_cons.mpr ⟨(hg_m4 203 (by decide +kernel) rfl), List.forall_mem_cons.mpr ⟨(hg_m4 205 (by decide +kernel) rfl), List.forall_mem_cons.mpr ⟨(hg_m4 207 (by decide +kernel) rfl), List.forall_mem_cons.mpr ⟨(hg_m4 209 (by decide +kernel) rfl), fun _ h => absurd h List.not_mem_nil⟩⟩⟩⟩⟩⟩⟩⟩⟩⟩⟩⟩⟩⟩⟩⟩⟩⟩⟩⟩⟩⟩⟩⟩⟩⟩⟩⟩⟩⟩⟩⟩⟩⟩⟩⟩⟩⟩⟩⟩⟩⟩⟩⟩⟩
theorem mx_1 : Cond.static Lib.Math.max.name ∈ hg_tbl := (hg_m3 8 (by decide +kernel) rfl)
theorem mx_2 : Cond.initialized "java/lang/Math" ∈ hg_tbl := (hg_m1 14 (by decide +kernel) rfl)
theorem mx_3 : Cond.code Lib.Math.max.name Lib.Math.max.code 2 (some .int) ∈ hg_tbl := (hg_m3 9 (by decide +kernel) rfl)
theorem mn_1 : Cond.static Lib.MathLoose.min_long.x ∈ hg_tbl := (hg_m2 67 (by decide +kernel) rfl)
theorem mn_3 : Cond.code Lib.MathLoose.min_long.x Lib.MathLoose.min_long.code 4 (some .long) ∈ hg_tbl := (hg_m2 68 (by decide +kernel) rfl)
theorem ac_1 : Cond.native arraycopyName ∈ hg_tbl := (hg_m2 199 (by decide +kernel) rfl)
theorem ac_2 : Cond.static arraycopyName ∈ hg_tbl := (hg_m2 198 (by decide +kernel) rfl)
theorem ac_3 : Cond.initialized "java/lang/System" ∈ hg_tbl := (hg_m1 19 (by decide +kernel) rfl)
theorem fp_RX0_16 : hg_Fp RX0 16 0 1 7 .int := ⟨RX0, RX0, TX0, tyX0, inT_0, (hg_m1 146 (by decide +kernel) rfl), rfl, rfl, by decide, tyX0_ok, nmX0, rfl, by decide +kernel⟩
theorem fp_RX0_20 : hg_Fp RX0 20 0 2 7 .int := ⟨RX0, RX0, TX0, tyX0, inT_0, (hg_m1 150 (by decide +kernel) rfl), rfl, rfl, by decide, tyX0_ok, nmX0, rfl, by decide +kernel⟩
theorem fl_RX0_16 : hg_Fl RX0 16 0 1 7 := ⟨RX0, RX0, TX0, inT_0, (hg_m1 146 (by decide +kernel) rfl), rfl, rfl, by decide⟩
theorem fl_RX0_20 : hg_Fl RX0 20 0 2 7 := ⟨RX0, RX0, TX0, inT_0, (hg_m1 150 (by decide +kernel) rfl), rfl, rfl, by decide⟩
theorem fl_RX0_13 : hg_Fl RX0 13 0 0 7 := ⟨RX0, RX0, TX0, inT_0, (hg_m1 143 (by decide +kernel) rfl), rfl, rfl, by decide⟩
theorem fl_RX0_23 : hg_Fl RX0 23 0 3 7 := ⟨RX0, RX0, TX0, inT_0, (hg_m1 152 (by decide +kernel) rfl), rfl, rfl, by decide⟩
theorem sv_RX0_41 : hg_Sv RX0 41 RX0 yX0_isJump cX0_isJump 2 (some .boolean) 1 := ⟨(hg_m2 181 (by decide +kernel) rfl), (hg_m2 178 (by decide +kernel) rfl), (hg_m2 180 (by decide +kernel) rfl), (hg_p1 (y := yX0_isJump) 15 (by decide +kernel)), (hg_m1 5 (by decide +kernel) rfl), by decide +kernel, by decide⟩
theorem gs_RX0_62 : Cond.fieldLink RX0 62 RX0 "FIRST_TAKEN" "[I" ∈ hg_tbl := (hg_m2 170 (by decide +kernel) rfl)
theorem gs_RX0_65 : Cond.fieldLink RX0 65 RX0 "LAST_TAKEN" "[I" ∈ hg_tbl := (hg_m2 172 (by decide +kernel) rfl)
theorem fl_RX0_26 : hg_Fl RX0 26 0 4 7 := ⟨RX0, RX0, TX0, inT_0, (hg_m1 154 (by decide +kernel) rfl), rfl, rfl, by decide⟩
theorem sv_RX0_37 : hg_Sv RX0 37 RX0 yX0_leadRow cX0_leadRow 2 (some .int) 1 := ⟨(hg_m2 185 (by decide +kernel) rfl), (hg_m2 182 (by decide +kernel) rfl), (hg_m2 184 (by decide +kernel) rfl), (hg_p2 (y := yX0_leadRow) 0 (by decide +kernel)), (hg_m1 5 (by decide +kernel) rfl), by decide +kernel, by decide⟩
theorem fl_RX0_33 : hg_Fl RX0 33 0 6 7 := ⟨RX0, RX0, TX0, inT_0, (hg_m1 156 (by decide +kernel) rfl), rfl, rfl, by decide⟩
theorem fl_RX3_37 : hg_Fl RX3 37 3 8 9 := ⟨RX3, RX3, TX3, inT_3, (hg_m1 70 (by decide +kernel) rfl), rfl, rfl, by decide⟩
theorem fl_RX3_9 : hg_Fl RX3 9 3 0 9 := ⟨RX3, RX3, TX3, inT_3, (hg_m1 41 (by decide +kernel) rfl), rfl, rfl, by decide⟩
theorem fl_RX3_15 : hg_Fl RX3 15 3 1 9 := ⟨RX3, RX3, TX3, inT_3, (hg_m1 46 (by decide +kernel) rfl), rfl, rfl, by decide⟩
theorem fl_RX3_18 : hg_Fl RX3 18 3 2 9 := ⟨RX3, RX3, TX3, inT_3, (hg_m1 48 (by decide +kernel) rfl), rfl, rfl, by decide⟩
theorem fl_RX3_21 : hg_Fl RX3 21 3 3 9 := ⟨RX3, RX3, TX3, inT_3, (hg_m1 52 (by decide +kernel) rfl), rfl, rfl, by decide⟩
theorem fl_RX3_24 : hg_Fl RX3 24 3 4 9 := ⟨RX3, RX3, TX3, inT_3, (hg_m1 56 (by decide +kernel) rfl), rfl, rfl, by decide⟩
theorem fl_RX3_27 : hg_Fl RX3 27 3 5 9 := ⟨RX3, RX3, TX3, inT_3, (hg_m1 60 (by decide +kernel) rfl), rfl, rfl, by decide⟩
theorem fp_RX3_37 : hg_Fp RX3 37 3 8 9 .int := ⟨RX3, RX3, TX3, tyX3, inT_3, (hg_m1 70 (by decide +kernel) rfl), rfl, rfl, by decide, tyX3_ok, nmX3, rfl, by decide +kernel⟩
theorem fl_RX3_30 : hg_Fl RX3 30 3 6 9 := ⟨RX3, RX3, TX3, inT_3, (hg_m1 64 (by decide +kernel) rfl), rfl, rfl, by decide⟩
theorem fl_RX3_34 : hg_Fl RX3 34 3 7 9 := ⟨RX3, RX3, TX3, inT_3, (hg_m1 67 (by decide +kernel) rfl), rfl, rfl, by decide⟩
theorem fl_RX4_15 : hg_Fl RX4 15 4 1 9 := ⟨RX4, RX4, TX4, inT_4, (hg_m1 97 (by decide +kernel) rfl), rfl, rfl, by decide⟩
theorem fl_RX4_9 : hg_Fl RX4 9 4 0 9 := ⟨RX4, RX4, TX4, inT_4, (hg_m1 96 (by decide +kernel) rfl), rfl, rfl, by decide⟩
theorem fp_RX4_15 : hg_Fp RX4 15 4 1 9 .int := ⟨RX4, RX4, TX4, tyX4, inT_4, (hg_m1 97 (by decide +kernel) rfl), rfl, rfl, by decide, tyX4_ok, nmX4, rfl, by decide +kernel⟩
theorem fp_RX4_39 : hg_Fp RX4 39 4 7 9 .int := ⟨RX4, RX4, TX4, tyX4, inT_4, (hg_m1 104 (by decide +kernel) rfl), rfl, rfl, by decide, tyX4_ok, nmX4, rfl, by decide +kernel⟩
theorem fl_RX4_36 : hg_Fl RX4 36 4 6 9 := ⟨RX4, RX4, TX4, inT_4, (hg_m1 103 (by decide +kernel) rfl), rfl, rfl, by decide⟩
theorem fp_RX4_42 : hg_Fp RX4 42 4 8 9 .int := ⟨RX4, RX4, TX4, tyX4, inT_4, (hg_m1 106 (by decide +kernel) rfl), rfl, rfl, by decide, tyX4_ok, nmX4, rfl, by decide +kernel⟩
theorem fp_RX4_36 : hg_Fp RX4 36 4 6 9 .int := ⟨RX4, RX4, TX4, tyX4, inT_4, (hg_m1 103 (by decide +kernel) rfl), rfl, rfl, by decide, tyX4_ok, nmX4, rfl, by decide +kernel⟩
theorem sv_RX4_48 : hg_Sv RX4 48 RX4 yX4_nextByte cX4_nextByte 1 (some .int) 0 := ⟨(hg_m2 25 (by decide +kernel) rfl), (hg_m2 22 (by decide +kernel) rfl), (hg_m2 24 (by decide +kernel) rfl), (hg_p1 (y := yX4_nextByte) 0 (by decide +kernel)), (hg_m1 2 (by decide +kernel) rfl), by decide +kernel, by decide⟩
theorem sv_RX4_52 : hg_Sv RX4 52 RX4 yX4_refuse cX4_refuse 2 (some .boolean) 1 := ⟨(hg_m2 29 (by decide +kernel) rfl), (hg_m2 26 (by decide +kernel) rfl), (hg_m2 28 (by decide +kernel) rfl), (hg_p1 (y := yX4_refuse) 1 (by decide +kernel)), (hg_m1 2 (by decide +kernel) rfl), by decide +kernel, by decide⟩
theorem fl_RX4_33 : hg_Fl RX4 33 4 5 9 := ⟨RX4, RX4, TX4, inT_4, (hg_m1 102 (by decide +kernel) rfl), rfl, rfl, by decide⟩
theorem fl_RX4_26 : hg_Fl RX4 26 4 3 9 := ⟨RX4, RX4, TX4, inT_4, (hg_m1 100 (by decide +kernel) rfl), rfl, rfl, by decide⟩
theorem fl_RX4_29 : hg_Fl RX4 29 4 4 9 := ⟨RX4, RX4, TX4, inT_4, (hg_m1 101 (by decide +kernel) rfl), rfl, rfl, by decide⟩
theorem fl_RX4_22 : hg_Fl RX4 22 4 2 9 := ⟨RX4, RX4, TX4, inT_4, (hg_m1 99 (by decide +kernel) rfl), rfl, rfl, by decide⟩
theorem fl_RX4_63 : hg_Fl RX4 63 3 4 9 := ⟨RX3, RX3, TX3, inT_3, (hg_m1 58 (by decide +kernel) rfl), rfl, rfl, by decide⟩
theorem fl_RX4_45 : hg_Fl RX4 45 3 8 9 := ⟨RX3, RX3, TX3, inT_3, (hg_m1 73 (by decide +kernel) rfl), rfl, rfl, by decide⟩
theorem fl_RX4_66 : hg_Fl RX4 66 3 5 9 := ⟨RX3, RX3, TX3, inT_3, (hg_m1 63 (by decide +kernel) rfl), rfl, rfl, by decide⟩
theorem fp_RX4_33 : hg_Fp RX4 33 4 5 9 .int := ⟨RX4, RX4, TX4, tyX4, inT_4, (hg_m1 102 (by decide +kernel) rfl), rfl, rfl, by decide, tyX4_ok, nmX4, rfl, by decide +kernel⟩
theorem sv_RX4_132 : hg_Sv RX4 132 RJ0 yJ0_length_8abf5 cJ0_length_8abf5 1 (some .int) 0 := ⟨(hg_m2 88 (by decide +kernel) rfl), (hg_m2 85 (by decide +kernel) rfl), (hg_m2 86 (by decide +kernel) rfl), (hg_m2 87 (by decide +kernel) rfl), (hg_m1 15 (by decide +kernel) rfl), by decide +kernel, by decide⟩
theorem sv_RX4_136 : hg_Sv RX4 136 RJ0 yJ0_charAt_5068e cJ0_charAt_5068e 2 (some .char) 1 := ⟨(hg_m2 98 (by decide +kernel) rfl), (hg_m2 95 (by decide +kernel) rfl), (hg_m2 96 (by decide +kernel) rfl), (hg_m2 97 (by decide +kernel) rfl), (hg_m1 15 (by decide +kernel) rfl), by decide +kernel, by decide⟩
theorem fl_RX2_18 : hg_Fl RX2 18 2 1 6 := ⟨RX2, RX2, TX2, inT_2, (hg_m1 175 (by decide +kernel) rfl), rfl, rfl, by decide⟩
theorem fl_RX2_12 : hg_Fl RX2 12 2 0 6 := ⟨RX2, RX2, TX2, inT_2, (hg_m1 173 (by decide +kernel) rfl), rfl, rfl, by decide⟩
theorem sv_RX2_61 : hg_Sv RX2 61 RX0 yX0_clear cX0_clear 1 none 0 := ⟨(hg_m3 174 (by decide +kernel) rfl), (hg_m3 171 (by decide +kernel) rfl), (hg_m3 172 (by decide +kernel) rfl), (hg_m3 173 (by decide +kernel) rfl), (hg_m1 5 (by decide +kernel) rfl), by decide +kernel, by decide⟩
theorem fp_RX2_34 : hg_Fp RX2 34 2 5 6 .int := ⟨RX2, RX2, TX2, tyX2, inT_2, (hg_m1 180 (by decide +kernel) rfl), rfl, rfl, by decide, tyX2_ok, nmX2, rfl, by decide +kernel⟩
theorem fl_RX2_22 : hg_Fl RX2 22 2 2 6 := ⟨RX2, RX2, TX2, inT_2, (hg_m1 177 (by decide +kernel) rfl), rfl, rfl, by decide⟩
theorem fl_RX2_64 : hg_Fl RX2 64 3 5 9 := ⟨RX3, RX3, TX3, inT_3, (hg_m1 62 (by decide +kernel) rfl), rfl, rfl, by decide⟩
theorem fl_RX2_67 : hg_Fl RX2 67 3 0 9 := ⟨RX3, RX3, TX3, inT_3, (hg_m1 43 (by decide +kernel) rfl), rfl, rfl, by decide⟩
theorem fl_RX2_89 : hg_Fl RX2 89 3 7 9 := ⟨RX3, RX3, TX3, inT_3, (hg_m1 69 (by decide +kernel) rfl), rfl, rfl, by decide⟩
theorem fl_RX2_92 : hg_Fl RX2 92 3 6 9 := ⟨RX3, RX3, TX3, inT_3, (hg_m1 66 (by decide +kernel) rfl), rfl, rfl, by decide⟩
theorem sv_RX2_95 : hg_Sv RX2 95 RX0 yX0_add cX0_add 7 (some .int) 5 := ⟨(hg_m3 190 (by decide +kernel) rfl), (hg_m3 187 (by decide +kernel) rfl), (hg_m3 188 (by decide +kernel) rfl), (hg_m3 189 (by decide +kernel) rfl), (hg_m1 5 (by decide +kernel) rfl), by decide +kernel, by decide⟩
theorem sv_RX2_99 : hg_Sv RX2 99 RX2 yX2_valueRegister cX2_valueRegister 4 (some .int) 2 := ⟨(hg_m3 186 (by decide +kernel) rfl), (hg_m3 183 (by decide +kernel) rfl), (hg_m3 185 (by decide +kernel) rfl), (hg_p2 (y := yX2_valueRegister) 15 (by decide +kernel)), (hg_m1 4 (by decide +kernel) rfl), by decide +kernel, by decide⟩
theorem fl_RX2_103 : hg_Fl RX2 103 3 3 9 := ⟨RX3, RX3, TX3, inT_3, (hg_m1 54 (by decide +kernel) rfl), rfl, rfl, by decide⟩
theorem fl_RX2_106 : hg_Fl RX2 106 3 2 9 := ⟨RX3, RX3, TX3, inT_3, (hg_m1 50 (by decide +kernel) rfl), rfl, rfl, by decide⟩
theorem fl_RX2_34 : hg_Fl RX2 34 2 5 6 := ⟨RX2, RX2, TX2, inT_2, (hg_m1 180 (by decide +kernel) rfl), rfl, rfl, by decide⟩
theorem fl_RX2_31 : hg_Fl RX2 31 2 4 6 := ⟨RX2, RX2, TX2, inT_2, (hg_m1 179 (by decide +kernel) rfl), rfl, rfl, by decide⟩
theorem fl_RX2_28 : hg_Fl RX2 28 2 3 6 := ⟨RX2, RX2, TX2, inT_2, (hg_m1 178 (by decide +kernel) rfl), rfl, rfl, by decide⟩
theorem fl_RX1_9 : hg_Fl RX1 9 1 0 7 := ⟨RX1, RX1, TX1, inT_1, (hg_m1 200 (by decide +kernel) rfl), rfl, rfl, by decide⟩
theorem ss_RX1_34 : hg_Ss RX1 34 yJ7_fill_53178 cJ7_fill_53178 4 none 2 := ⟨(hg_m2 196 (by decide +kernel) rfl), (hg_m2 194 (by decide +kernel) rfl), (hg_m2 195 (by decide +kernel) rfl), (hg_m1 20 (by decide +kernel) rfl), by decide +kernel, by decide⟩
theorem ac_RX1_40 : Cond.methodLink RX1 40 arraycopyName ∈ hg_tbl := (hg_m2 197 (by decide +kernel) rfl)
theorem fl_RX1_15 : hg_Fl RX1 15 1 1 7 := ⟨RX1, RX1, TX1, inT_1, (hg_m1 202 (by decide +kernel) rfl), rfl, rfl, by decide⟩
theorem fp_RX1_21 : hg_Fp RX1 21 1 3 7 .int := ⟨RX1, RX1, TX1, tyX1, inT_1, (hg_m1 206 (by decide +kernel) rfl), rfl, rfl, by decide, tyX1_ok, nmX1, rfl, by decide +kernel⟩
theorem fp_RX1_25 : hg_Fp RX1 25 1 4 7 .int := ⟨RX1, RX1, TX1, tyX1, inT_1, (hg_m1 208 (by decide +kernel) rfl), rfl, rfl, by decide, tyX1_ok, nmX1, rfl, by decide +kernel⟩
theorem fp_RX1_28 : hg_Fp RX1 28 1 5 7 .int := ⟨RX1, RX1, TX1, tyX1, inT_1, (hg_m1 210 (by decide +kernel) rfl), rfl, rfl, by decide, tyX1_ok, nmX1, rfl, by decide +kernel⟩
theorem fp_RX1_31 : hg_Fp RX1 31 1 6 7 .int := ⟨RX1, RX1, TX1, tyX1, inT_1, (hg_m1 212 (by decide +kernel) rfl), rfl, rfl, by decide, tyX1_ok, nmX1, rfl, by decide +kernel⟩
theorem fl_RX1_89 : hg_Fl RX1 89 3 6 9 := ⟨RX3, RX3, TX3, inT_3, (hg_m1 65 (by decide +kernel) rfl), rfl, rfl, by decide⟩
theorem fl_RX1_93 : hg_Fl RX1 93 3 7 9 := ⟨RX3, RX3, TX3, inT_3, (hg_m1 68 (by decide +kernel) rfl), rfl, rfl, by decide⟩
theorem fl_RX1_127 : hg_Fl RX1 127 0 0 7 := ⟨RX0, RX0, TX0, inT_0, (hg_m1 144 (by decide +kernel) rfl), rfl, rfl, by decide⟩
theorem fl_RX1_21 : hg_Fl RX1 21 1 3 7 := ⟨RX1, RX1, TX1, inT_1, (hg_m1 206 (by decide +kernel) rfl), rfl, rfl, by decide⟩
theorem fl_RX1_18 : hg_Fl RX1 18 1 2 7 := ⟨RX1, RX1, TX1, inT_1, (hg_m1 204 (by decide +kernel) rfl), rfl, rfl, by decide⟩
theorem fl_RX5_19 : hg_Fl RX5 19 5 2 8 := ⟨RX5, RX5, TX5, inT_5, (hg_m1 231 (by decide +kernel) rfl), rfl, rfl, by decide⟩
theorem fl_RX5_94 : hg_Fl RX5 94 4 7 9 := ⟨RX4, RX4, TX4, inT_4, (hg_m1 105 (by decide +kernel) rfl), rfl, rfl, by decide⟩
theorem sn_RX0_59 : hg_Sn RX0 59 "GuardedMoves" yX5_divides cX5_divides 1 (some .boolean) 1 := ⟨(hg_m2 165 (by decide +kernel) rfl), (hg_w2 163 (by decide +kernel) rfl), (hg_m2 164 (by decide +kernel) rfl), (hg_m1 1 (by decide +kernel) rfl), by decide +kernel, by decide⟩
theorem ss_RX4_115 : hg_Ss RX4 115 yX4_isFigure cX4_isFigure 1 (some .boolean) 1 := ⟨(hg_m2 59 (by decide +kernel) rfl), (hg_m2 57 (by decide +kernel) rfl), (hg_m2 58 (by decide +kernel) rfl), (hg_m1 2 (by decide +kernel) rfl), by decide +kernel, by decide⟩
theorem kl_RX4_122 : Cond.constantLong RX4 122 (10 : Int64) ∈ hg_tbl := (hg_m2 64 (by decide +kernel) rfl)
theorem kl_RX4_124 : Cond.constantLong RX4 124 (2147483648 : Int64) ∈ hg_tbl := (hg_m2 65 (by decide +kernel) rfl)
theorem mn_RX4_126 : Cond.methodLink RX4 126 Lib.MathLoose.min_long.x ∈ hg_tbl := (hg_m2 66 (by decide +kernel) rfl)
theorem sv_RX4_111 : hg_Sv RX4 111 RX3 yX3_putValue cX3_putValue 4 none 3 := ⟨(hg_m2 56 (by decide +kernel) rfl), (hg_m2 53 (by decide +kernel) rfl), (hg_m2 54 (by decide +kernel) rfl), (hg_m2 55 (by decide +kernel) rfl), (hg_m1 3 (by decide +kernel) rfl), by decide +kernel, by decide⟩
theorem sn_RX2_130 : hg_Sn RX2 130 "GuardedMoves" yX5_divides cX5_divides 1 (some .boolean) 1 := ⟨(hg_m2 165 (by decide +kernel) rfl), (hg_w3 220 (by decide +kernel) rfl), (hg_m2 164 (by decide +kernel) rfl), (hg_m1 1 (by decide +kernel) rfl), by decide +kernel, by decide⟩
theorem sv_RX2_134 : hg_Sv RX2 134 RX2 yX2_chosenOr cX2_chosenOr 4 (some .int) 2 := ⟨(hg_m3 224 (by decide +kernel) rfl), (hg_m3 221 (by decide +kernel) rfl), (hg_m3 223 (by decide +kernel) rfl), (hg_p3 (y := yX2_chosenOr) 6 (by decide +kernel)), (hg_m1 4 (by decide +kernel) rfl), by decide +kernel, by decide⟩
theorem sn_RX2_137 : hg_Sn RX2 137 "GuardedMoves" yX5_isWord cX5_isWord 1 (some .boolean) 1 := ⟨(hg_m2 238 (by decide +kernel) rfl), (hg_w3 229 (by decide +kernel) rfl), (hg_m2 237 (by decide +kernel) rfl), (hg_m1 1 (by decide +kernel) rfl), by decide +kernel, by decide⟩
theorem sn_RX1_131 : hg_Sn RX1 131 "GuardedMoves" yX5_divides cX5_divides 1 (some .boolean) 1 := ⟨(hg_m2 165 (by decide +kernel) rfl), (hg_w2 227 (by decide +kernel) rfl), (hg_m2 164 (by decide +kernel) rfl), (hg_m1 1 (by decide +kernel) rfl), by decide +kernel, by decide⟩
theorem sv_RX1_135 : hg_Sv RX1 135 RX1 yX1_end cX1_end 3 none 2 := ⟨(hg_m2 231 (by decide +kernel) rfl), (hg_m2 228 (by decide +kernel) rfl), (hg_m2 230 (by decide +kernel) rfl), (hg_p2 (y := yX1_end) 6 (by decide +kernel)), (hg_m1 6 (by decide +kernel) rfl), by decide +kernel, by decide⟩
theorem sn_RX1_82 : hg_Sn RX1 82 "GuardedMoves" yX5_resultOf cX5_resultOf 3 (some .int) 3 := ⟨(hg_m2 218 (by decide +kernel) rfl), (hg_w2 216 (by decide +kernel) rfl), (hg_m2 217 (by decide +kernel) rfl), (hg_m1 1 (by decide +kernel) rfl), by decide +kernel, by decide⟩
theorem sn_RX1_138 : hg_Sn RX1 138 "GuardedMoves" yX5_isWord cX5_isWord 1 (some .boolean) 1 := ⟨(hg_m2 238 (by decide +kernel) rfl), (hg_w2 236 (by decide +kernel) rfl), (hg_m2 237 (by decide +kernel) rfl), (hg_m1 1 (by decide +kernel) rfl), by decide +kernel, by decide⟩
theorem fl_RX0_30 : hg_Fl RX0 30 0 5 7 := ⟨RX0, RX0, TX0, inT_0, (hg_m1 155 (by decide +kernel) rfl), rfl, rfl, by decide⟩
theorem sv_RX0_52 : hg_Sv RX0 52 RX0 yX0_mayGo cX0_mayGo 3 (some .boolean) 1 := ⟨(hg_m2 162 (by decide +kernel) rfl), (hg_m2 159 (by decide +kernel) rfl), (hg_m2 161 (by decide +kernel) rfl), (hg_p1 (y := yX0_mayGo) 12 (by decide +kernel)), (hg_m1 5 (by decide +kernel) rfl), by decide +kernel, by decide⟩
theorem sv_RX0_55 : hg_Sv RX0 55 RX0 yX0_markTaken cX0_markTaken 4 none 1 := ⟨(hg_m2 169 (by decide +kernel) rfl), (hg_m2 166 (by decide +kernel) rfl), (hg_m2 168 (by decide +kernel) rfl), (hg_p1 (y := yX0_markTaken) 13 (by decide +kernel)), (hg_m1 5 (by decide +kernel) rfl), by decide +kernel, by decide⟩
theorem ss_RX4_69 : hg_Ss RX4 69 yX4_isVariable cX4_isVariable 1 (some .boolean) 1 := ⟨(hg_m2 40 (by decide +kernel) rfl), (hg_m2 38 (by decide +kernel) rfl), (hg_m2 39 (by decide +kernel) rfl), (hg_m1 2 (by decide +kernel) rfl), by decide +kernel, by decide⟩
theorem sv_RX4_118 : hg_Sv RX4 118 RX4 yX4_takeNumber cX4_takeNumber 6 (some .boolean) 2 := ⟨(hg_m2 63 (by decide +kernel) rfl), (hg_m2 60 (by decide +kernel) rfl), (hg_m2 62 (by decide +kernel) rfl), (hg_p1 (y := yX4_takeNumber) 6 (by decide +kernel)), (hg_m1 2 (by decide +kernel) rfl), by decide +kernel, by decide⟩
theorem sv_RX2_123 : hg_Sv RX2 123 RX2 yX2_harmlessIndex cX2_harmlessIndex 5 (some .int) 3 := ⟨(hg_m3 228 (by decide +kernel) rfl), (hg_m3 225 (by decide +kernel) rfl), (hg_m3 227 (by decide +kernel) rfl), (hg_p3 (y := yX2_harmlessIndex) 7 (by decide +kernel)), (hg_m1 4 (by decide +kernel) rfl), by decide +kernel, by decide⟩
theorem sv_RX2_126 : hg_Sv RX2 126 RX2 yX2_guardedWrite cX2_guardedWrite 5 none 2 := ⟨(hg_m3 233 (by decide +kernel) rfl), (hg_m3 230 (by decide +kernel) rfl), (hg_m3 232 (by decide +kernel) rfl), (hg_p3 (y := yX2_guardedWrite) 8 (by decide +kernel)), (hg_m1 4 (by decide +kernel) rfl), by decide +kernel, by decide⟩
theorem sv_RX2_119 : hg_Sv RX2 119 RX2 yX2_harmlessDivisor cX2_harmlessDivisor 5 (some .int) 3 := ⟨(hg_m3 219 (by decide +kernel) rfl), (hg_m3 216 (by decide +kernel) rfl), (hg_m3 218 (by decide +kernel) rfl), (hg_p3 (y := yX2_harmlessDivisor) 5 (by decide +kernel)), (hg_m1 4 (by decide +kernel) rfl), by decide +kernel, by decide⟩
theorem sv_RX2_109 : hg_Sv RX2 109 RX2 yX2_testRegister cX2_testRegister 5 (some .int) 2 := ⟨(hg_m3 182 (by decide +kernel) rfl), (hg_m3 179 (by decide +kernel) rfl), (hg_m3 181 (by decide +kernel) rfl), (hg_p2 (y := yX2_testRegister) 14 (by decide +kernel)), (hg_m1 4 (by decide +kernel) rfl), by decide +kernel, by decide⟩
theorem fl_RX2_54 : hg_Fl RX2 54 0 1 7 := ⟨RX0, RX0, TX0, inT_0, (hg_m1 147 (by decide +kernel) rfl), rfl, rfl, by decide⟩
theorem fl_RX2_112 : hg_Fl RX2 112 3 4 9 := ⟨RX3, RX3, TX3, inT_3, (hg_m1 59 (by decide +kernel) rfl), rfl, rfl, by decide⟩
theorem sv_RX2_57 : hg_Sv RX2 57 RX2 yX2_lowerRange cX2_lowerRange 6 none 4 := ⟨(hg_m3 199 (by decide +kernel) rfl), (hg_m3 196 (by decide +kernel) rfl), (hg_m3 198 (by decide +kernel) rfl), (hg_p3 (y := yX2_lowerRange) 1 (by decide +kernel)), (hg_m1 4 (by decide +kernel) rfl), by decide +kernel, by decide⟩
theorem fp_RX2_70 : hg_Fp RX2 70 0 3 7 .int := ⟨RX0, RX0, TX0, tyX0, inT_0, (hg_m1 153 (by decide +kernel) rfl), rfl, rfl, by decide, tyX0_ok, nmX0, rfl, by decide +kernel⟩
theorem sv_RX2_115 : hg_Sv RX2 115 RX0 yX0_leadHere cX0_leadHere 2 none 1 := ⟨(hg_m3 207 (by decide +kernel) rfl), (hg_m3 204 (by decide +kernel) rfl), (hg_m3 205 (by decide +kernel) rfl), (hg_m3 206 (by decide +kernel) rfl), (hg_m1 5 (by decide +kernel) rfl), by decide +kernel, by decide⟩
theorem ac_RX2_140 : Cond.methodLink RX2 140 arraycopyName ∈ hg_tbl := (hg_m3 191 (by decide +kernel) rfl)
theorem sv_RX2_146 : hg_Sv RX2 146 RX2 yX2_guardWithin cX2_guardWithin 3 (some .int) 2 := ⟨(hg_m3 195 (by decide +kernel) rfl), (hg_m3 192 (by decide +kernel) rfl), (hg_m3 194 (by decide +kernel) rfl), (hg_p3 (y := yX2_guardWithin) 0 (by decide +kernel)), (hg_m1 4 (by decide +kernel) rfl), by decide +kernel, by decide⟩
theorem sv_RX2_149 : hg_Sv RX2 149 RX2 yX2_chooseSides cX2_chooseSides 6 none 2 := ⟨(hg_m3 238 (by decide +kernel) rfl), (hg_m3 235 (by decide +kernel) rfl), (hg_m3 237 (by decide +kernel) rfl), (hg_p3 (y := yX2_chooseSides) 9 (by decide +kernel)), (hg_m1 4 (by decide +kernel) rfl), by decide +kernel, by decide⟩
theorem sv_RX2_152 : hg_Sv RX2 152 RX2 yX2_moveBack cX2_moveBack 2 none 0 := ⟨(hg_m4 2 (by decide +kernel) rfl), (hg_m3 239 (by decide +kernel) rfl), (hg_m4 1 (by decide +kernel) rfl), (hg_p3 (y := yX2_moveBack) 10 (by decide +kernel)), (hg_m1 4 (by decide +kernel) rfl), by decide +kernel, by decide⟩
theorem sv_RX2_80 : hg_Sv RX2 80 RX2 yX2_lowerGuarded cX2_lowerGuarded 8 none 2 := ⟨(hg_m3 215 (by decide +kernel) rfl), (hg_m3 212 (by decide +kernel) rfl), (hg_m3 214 (by decide +kernel) rfl), (hg_p3 (y := yX2_lowerGuarded) 4 (by decide +kernel)), (hg_m1 4 (by decide +kernel) rfl), by decide +kernel, by decide⟩
theorem sv_RX2_76 : hg_Sv RX2 76 RX2 yX2_lowerPlainly cX2_lowerPlainly 5 none 2 := ⟨(hg_m3 211 (by decide +kernel) rfl), (hg_m3 208 (by decide +kernel) rfl), (hg_m3 210 (by decide +kernel) rfl), (hg_p3 (y := yX2_lowerPlainly) 3 (by decide +kernel)), (hg_m1 4 (by decide +kernel) rfl), by decide +kernel, by decide⟩
theorem sv_RX2_73 : hg_Sv RX2 73 RX2 yX2_lowerWithJumps cX2_lowerWithJumps 7 none 3 := ⟨(hg_m3 203 (by decide +kernel) rfl), (hg_m3 200 (by decide +kernel) rfl), (hg_m3 202 (by decide +kernel) rfl), (hg_p3 (y := yX2_lowerWithJumps) 2 (by decide +kernel)), (hg_m1 4 (by decide +kernel) rfl), by decide +kernel, by decide⟩
theorem sv_RX2_50 : hg_Sv RX2 50 RX2 yX2_convert cX2_convert 8 none 3 := ⟨(hg_m3 178 (by decide +kernel) rfl), (hg_m3 175 (by decide +kernel) rfl), (hg_m3 177 (by decide +kernel) rfl), (hg_p2 (y := yX2_convert) 13 (by decide +kernel)), (hg_m1 4 (by decide +kernel) rfl), by decide +kernel, by decide⟩
theorem mx_RX2_83 : Cond.methodLink RX2 83 Lib.Math.max.name ∈ hg_tbl := (hg_m3 234 (by decide +kernel) rfl)
theorem sv_RX0_45 : hg_Sv RX0 45 RX0 yX0_findUseless cX0_findUseless 2 none 0 := ⟨(hg_m2 158 (by decide +kernel) rfl), (hg_m2 155 (by decide +kernel) rfl), (hg_m2 157 (by decide +kernel) rfl), (hg_p1 (y := yX0_findUseless) 11 (by decide +kernel)), (hg_m1 5 (by decide +kernel) rfl), by decide +kernel, by decide⟩
theorem sv_RX0_48 : hg_Sv RX0 48 RX0 yX0_shift cX0_shift 4 none 2 := ⟨(hg_m2 177 (by decide +kernel) rfl), (hg_m2 174 (by decide +kernel) rfl), (hg_m2 176 (by decide +kernel) rfl), (hg_p1 (y := yX0_shift) 14 (by decide +kernel)), (hg_m1 5 (by decide +kernel) rfl), by decide +kernel, by decide⟩
theorem fl_RX4_91 : hg_Fl RX4 91 3 0 9 := ⟨RX3, RX3, TX3, inT_3, (hg_m1 45 (by decide +kernel) rfl), rfl, rfl, by decide⟩
theorem sv_RX4_94 : hg_Sv RX4 94 RX4 yX4_takeValue cX4_takeValue 4 (some .boolean) 1 := ⟨(hg_m2 52 (by decide +kernel) rfl), (hg_m2 49 (by decide +kernel) rfl), (hg_m2 51 (by decide +kernel) rfl), (hg_p1 (y := yX4_takeValue) 5 (by decide +kernel)), (hg_m1 2 (by decide +kernel) rfl), by decide +kernel, by decide⟩
theorem sv_RX4_97 : hg_Sv RX4 97 RX4 yX4_takeByte cX4_takeByte 2 (some .boolean) 1 := ⟨(hg_m2 72 (by decide +kernel) rfl), (hg_m2 69 (by decide +kernel) rfl), (hg_m2 71 (by decide +kernel) rfl), (hg_p1 (y := yX4_takeByte) 7 (by decide +kernel)), (hg_m1 2 (by decide +kernel) rfl), by decide +kernel, by decide⟩
theorem ss_RX4_102 : hg_Ss RX4 102 yX4_placeIn cX4_placeIn 3 (some .int) 2 := ⟨(hg_m2 84 (by decide +kernel) rfl), (hg_m2 82 (by decide +kernel) rfl), (hg_m2 83 (by decide +kernel) rfl), (hg_m1 2 (by decide +kernel) rfl), by decide +kernel, by decide⟩
theorem fl_RX4_106 : hg_Fl RX4 106 3 3 9 := ⟨RX3, RX3, TX3, inT_3, (hg_m1 55 (by decide +kernel) rfl), rfl, rfl, by decide⟩
theorem fl_RX2_38 : hg_Fl RX2 38 3 8 9 := ⟨RX3, RX3, TX3, inT_3, (hg_m1 72 (by decide +kernel) rfl), rfl, rfl, by decide⟩
theorem sv_RX2_47 : hg_Sv RX2 47 RX2 yX2_beginCode cX2_beginCode 2 none 0 := ⟨(hg_m3 170 (by decide +kernel) rfl), (hg_m3 167 (by decide +kernel) rfl), (hg_m3 169 (by decide +kernel) rfl), (hg_p2 (y := yX2_beginCode) 12 (by decide +kernel)), (hg_m1 4 (by decide +kernel) rfl), by decide +kernel, by decide⟩
theorem sv_RX2_43 : hg_Sv RX2 43 RX2 yX2_mayConvert cX2_mayConvert 5 (some .boolean) 2 := ⟨(hg_m3 166 (by decide +kernel) rfl), (hg_m3 163 (by decide +kernel) rfl), (hg_m3 165 (by decide +kernel) rfl), (hg_p2 (y := yX2_mayConvert) 11 (by decide +kernel)), (hg_m1 4 (by decide +kernel) rfl), by decide +kernel, by decide⟩
theorem sv_RX1_78 : hg_Sv RX1 78 RX1 yX1_valueOf cX1_valueOf 3 (some .int) 2 := ⟨(hg_m2 215 (by decide +kernel) rfl), (hg_m2 212 (by decide +kernel) rfl), (hg_m2 214 (by decide +kernel) rfl), (hg_p2 (y := yX1_valueOf) 3 (by decide +kernel)), (hg_m1 6 (by decide +kernel) rfl), by decide +kernel, by decide⟩
theorem fl_RX1_55 : hg_Fl RX1 55 3 0 9 := ⟨RX3, RX3, TX3, inT_3, (hg_m1 42 (by decide +kernel) rfl), rfl, rfl, by decide⟩
theorem sv_RX1_110 : hg_Sv RX1 110 RX1 yX1_say cX1_say 2 none 1 := ⟨(hg_m3 6 (by decide +kernel) rfl), (hg_m3 3 (by decide +kernel) rfl), (hg_m3 5 (by decide +kernel) rfl), (hg_p2 (y := yX1_say) 9 (by decide +kernel)), (hg_m1 6 (by decide +kernel) rfl), by decide +kernel, by decide⟩
theorem fl_RX1_96 : hg_Fl RX1 96 3 2 9 := ⟨RX3, RX3, TX3, inT_3, (hg_m1 49 (by decide +kernel) rfl), rfl, rfl, by decide⟩
theorem fl_RX1_75 : hg_Fl RX1 75 3 3 9 := ⟨RX3, RX3, TX3, inT_3, (hg_m1 53 (by decide +kernel) rfl), rfl, rfl, by decide⟩
theorem sv_RX1_99 : hg_Sv RX1 99 RX1 yX1_reach cX1_reach 6 none 5 := ⟨(hg_m2 226 (by decide +kernel) rfl), (hg_m2 223 (by decide +kernel) rfl), (hg_m2 225 (by decide +kernel) rfl), (hg_p2 (y := yX1_reach) 5 (by decide +kernel)), (hg_m1 6 (by decide +kernel) rfl), by decide +kernel, by decide⟩
theorem sv_RX1_103 : hg_Sv RX1 103 RX1 yX1_load cX1_load 4 none 3 := ⟨(hg_m2 235 (by decide +kernel) rfl), (hg_m2 232 (by decide +kernel) rfl), (hg_m2 234 (by decide +kernel) rfl), (hg_p2 (y := yX1_load) 7 (by decide +kernel)), (hg_m1 6 (by decide +kernel) rfl), by decide +kernel, by decide⟩
theorem sv_RX1_107 : hg_Sv RX1 107 RX1 yX1_store cX1_store 4 none 3 := ⟨(hg_m3 2 (by decide +kernel) rfl), (hg_m2 239 (by decide +kernel) rfl), (hg_m3 1 (by decide +kernel) rfl), (hg_p2 (y := yX1_store) 8 (by decide +kernel)), (hg_m1 6 (by decide +kernel) rfl), by decide +kernel, by decide⟩
theorem fl_RX5_42 : hg_Fl RX5 42 5 6 8 := ⟨RX5, RX5, TX5, inT_5, (hg_m1 235 (by decide +kernel) rfl), rfl, rfl, by decide⟩
theorem fl_RX5_41 : hg_Fl RX5 41 5 5 8 := ⟨RX5, RX5, TX5, inT_5, (hg_m1 234 (by decide +kernel) rfl), rfl, rfl, by decide⟩
theorem sv_RX5_126 : hg_Sv RX5 126 RX0 yX0_dropUseless cX0_dropUseless 3 (some .int) 0 := ⟨(hg_m2 154 (by decide +kernel) rfl), (hg_m2 151 (by decide +kernel) rfl), (hg_m2 152 (by decide +kernel) rfl), (hg_m2 153 (by decide +kernel) rfl), (hg_m1 5 (by decide +kernel) rfl), by decide +kernel, by decide⟩
theorem sv_RX4_72 : hg_Sv RX4 72 RX3 yX3_begin cX3_begin 3 (some .int) 1 := ⟨(hg_m2 44 (by decide +kernel) rfl), (hg_m2 41 (by decide +kernel) rfl), (hg_m2 42 (by decide +kernel) rfl), (hg_m2 43 (by decide +kernel) rfl), (hg_m1 3 (by decide +kernel) rfl), by decide +kernel, by decide⟩
theorem fl_RX4_85 : hg_Fl RX4 85 3 2 9 := ⟨RX3, RX3, TX3, inT_3, (hg_m1 51 (by decide +kernel) rfl), rfl, rfl, by decide⟩
theorem sv_RX4_88 : hg_Sv RX4 88 RX4 yX4_takeSetting cX4_takeSetting 3 (some .boolean) 1 := ⟨(hg_m2 136 (by decide +kernel) rfl), (hg_m2 133 (by decide +kernel) rfl), (hg_m2 135 (by decide +kernel) rfl), (hg_p1 (y := yX4_takeSetting) 10 (by decide +kernel)), (hg_m1 2 (by decide +kernel) rfl), by decide +kernel, by decide⟩
theorem sv_RX4_79 : hg_Sv RX4 79 RX4 yX4_takeTelling cX4_takeTelling 2 (some .boolean) 1 := ⟨(hg_m2 76 (by decide +kernel) rfl), (hg_m2 73 (by decide +kernel) rfl), (hg_m2 75 (by decide +kernel) rfl), (hg_p1 (y := yX4_takeTelling) 8 (by decide +kernel)), (hg_m1 2 (by decide +kernel) rfl), by decide +kernel, by decide⟩
theorem sv_RX4_82 : hg_Sv RX4 82 RX4 yX4_takeBranch cX4_takeBranch 3 (some .boolean) 1 := ⟨(hg_m2 80 (by decide +kernel) rfl), (hg_m2 77 (by decide +kernel) rfl), (hg_m2 79 (by decide +kernel) rfl), (hg_p1 (y := yX4_takeBranch) 9 (by decide +kernel)), (hg_m1 2 (by decide +kernel) rfl), by decide +kernel, by decide⟩
theorem sv_RX4_76 : hg_Sv RX4 76 RX4 yX4_takeWrite cX4_takeWrite 2 (some .boolean) 1 := ⟨(hg_m2 48 (by decide +kernel) rfl), (hg_m2 45 (by decide +kernel) rfl), (hg_m2 47 (by decide +kernel) rfl), (hg_p1 (y := yX4_takeWrite) 4 (by decide +kernel)), (hg_m1 2 (by decide +kernel) rfl), by decide +kernel, by decide⟩
theorem fl_RX1_86 : hg_Fl RX1 86 3 4 9 := ⟨RX3, RX3, TX3, inT_3, (hg_m1 57 (by decide +kernel) rfl), rfl, rfl, by decide⟩
theorem fl_RX1_66 : hg_Fl RX1 66 3 5 9 := ⟨RX3, RX3, TX3, inT_3, (hg_m1 61 (by decide +kernel) rfl), rfl, rfl, by decide⟩
theorem sv_RX1_51 : hg_Sv RX1 51 RX1 yX1_doRange cX1_doRange 6 none 4 := ⟨(hg_m2 207 (by decide +kernel) rfl), (hg_m2 204 (by decide +kernel) rfl), (hg_m2 206 (by decide +kernel) rfl), (hg_p2 (y := yX1_doRange) 1 (by decide +kernel)), (hg_m1 6 (by decide +kernel) rfl), by decide +kernel, by decide⟩
theorem fl_RX1_25 : hg_Fl RX1 25 1 4 7 := ⟨RX1, RX1, TX1, inT_1, (hg_m1 208 (by decide +kernel) rfl), rfl, rfl, by decide⟩
theorem fl_RX1_31 : hg_Fl RX1 31 1 6 7 := ⟨RX1, RX1, TX1, inT_1, (hg_m1 212 (by decide +kernel) rfl), rfl, rfl, by decide⟩
theorem sv_RX1_62 : hg_Sv RX1 62 RX1 yX1_doSimple cX1_doSimple 4 none 2 := ⟨(hg_m2 222 (by decide +kernel) rfl), (hg_m2 219 (by decide +kernel) rfl), (hg_m2 221 (by decide +kernel) rfl), (hg_p2 (y := yX1_doSimple) 4 (by decide +kernel)), (hg_m1 6 (by decide +kernel) rfl), by decide +kernel, by decide⟩
theorem sv_RX1_58 : hg_Sv RX1 58 RX1 yX1_doBranch cX1_doBranch 4 none 3 := ⟨(hg_m2 211 (by decide +kernel) rfl), (hg_m2 208 (by decide +kernel) rfl), (hg_m2 210 (by decide +kernel) rfl), (hg_p2 (y := yX1_doBranch) 2 (by decide +kernel)), (hg_m1 6 (by decide +kernel) rfl), by decide +kernel, by decide⟩
theorem mx_RX1_69 : Cond.methodLink RX1 69 Lib.Math.max.name ∈ hg_tbl := (hg_m3 7 (by decide +kernel) rfl)
theorem fp_RX4_45 : hg_Fp RX4 45 3 8 9 .int := ⟨RX3, RX3, TX3, tyX3, inT_3, (hg_m1 73 (by decide +kernel) rfl), rfl, rfl, by decide, tyX3_ok, nmX3, rfl, by decide +kernel⟩
theorem sv_RX4_60 : hg_Sv RX4 60 RX4 yX4_takeStatement cX4_takeStatement 3 (some .boolean) 1 := ⟨(hg_m2 37 (by decide +kernel) rfl), (hg_m2 34 (by decide +kernel) rfl), (hg_m2 36 (by decide +kernel) rfl), (hg_p1 (y := yX4_takeStatement) 3 (by decide +kernel)), (hg_m1 2 (by decide +kernel) rfl), by decide +kernel, by decide⟩
theorem sv_RX4_56 : hg_Sv RX4 56 RX4 yX4_closeSide cX4_closeSide 2 (some .boolean) 0 := ⟨(hg_m2 33 (by decide +kernel) rfl), (hg_m2 30 (by decide +kernel) rfl), (hg_m2 32 (by decide +kernel) rfl), (hg_p1 (y := yX4_closeSide) 2 (by decide +kernel)), (hg_m1 2 (by decide +kernel) rfl), by decide +kernel, by decide⟩
theorem fl_RX1_46 : hg_Fl RX1 46 3 8 9 := ⟨RX3, RX3, TX3, inT_3, (hg_m1 71 (by decide +kernel) rfl), rfl, rfl, by decide⟩
theorem fl_RX1_114 : hg_Fl RX1 114 0 1 7 := ⟨RX0, RX0, TX0, inT_0, (hg_m1 148 (by decide +kernel) rfl), rfl, rfl, by decide⟩
theorem sv_RX1_119 : hg_Sv RX1 119 RX1 yX1_nextBehind cX1_nextBehind 4 (some .int) 2 := ⟨(hg_m4 27 (by decide +kernel) rfl), (hg_m4 24 (by decide +kernel) rfl), (hg_m4 26 (by decide +kernel) rfl), (hg_p3 (y := yX1_nextBehind) 11 (by decide +kernel)), (hg_m1 6 (by decide +kernel) rfl), by decide +kernel, by decide⟩
theorem sv_RX1_123 : hg_Sv RX1 123 RX1 yX1_doStep cX1_doStep 7 none 2 := ⟨(hg_m4 31 (by decide +kernel) rfl), (hg_m4 28 (by decide +kernel) rfl), (hg_m4 30 (by decide +kernel) rfl), (hg_p3 (y := yX1_doStep) 12 (by decide +kernel)), (hg_m1 6 (by decide +kernel) rfl), by decide +kernel, by decide⟩
theorem fl_RX5_49 : hg_Fl RX5 49 5 7 8 := ⟨RX5, RX5, TX5, inT_5, (hg_m1 236 (by decide +kernel) rfl), rfl, rfl, by decide⟩
theorem fl_RX5_9 : hg_Fl RX5 9 5 0 8 := ⟨RX5, RX5, TX5, inT_5, (hg_m1 229 (by decide +kernel) rfl), rfl, rfl, by decide⟩
theorem fl_RX5_13 : hg_Fl RX5 13 5 1 8 := ⟨RX5, RX5, TX5, inT_5, (hg_m1 230 (by decide +kernel) rfl), rfl, rfl, by decide⟩
theorem sv_RX5_138 : hg_Sv RX5 138 RX1 yX1_begin cX1_begin 3 none 2 := ⟨(hg_m2 193 (by decide +kernel) rfl), (hg_m2 190 (by decide +kernel) rfl), (hg_m2 191 (by decide +kernel) rfl), (hg_m2 192 (by decide +kernel) rfl), (hg_m1 6 (by decide +kernel) rfl), by decide +kernel, by decide⟩
theorem fl_RX5_26 : hg_Fl RX5 26 5 3 8 := ⟨RX5, RX5, TX5, inT_5, (hg_m1 232 (by decide +kernel) rfl), rfl, rfl, by decide⟩
theorem sv_RX5_142 : hg_Sv RX5 142 RX1 yX1_doText cX1_doText 2 none 1 := ⟨(hg_m2 203 (by decide +kernel) rfl), (hg_m2 200 (by decide +kernel) rfl), (hg_m2 201 (by decide +kernel) rfl), (hg_m2 202 (by decide +kernel) rfl), (hg_m1 6 (by decide +kernel) rfl), by decide +kernel, by decide⟩
theorem fl_RX5_146 : hg_Fl RX5 146 1 4 7 := ⟨RX1, RX1, TX1, inT_1, (hg_m1 209 (by decide +kernel) rfl), rfl, rfl, by decide⟩
theorem fl_RX6_102 : hg_Fl RX6 102 6 0 45 := ⟨RX6, RX6, TX6, inT_6, (hg_m4 76 (by decide +kernel) rfl), rfl, rfl, by decide⟩
theorem fp_RX6_102 : hg_Fp RX6 102 6 0 45 .int := ⟨RX6, RX6, TX6, tyX6, inT_6, (hg_m4 76 (by decide +kernel) rfl), rfl, rfl, by decide, tyX6_ok, nmX6, rfl, by decide +kernel⟩
theorem kl_RX6_105 : Cond.constantLong RX6 105 (15 : Int64) ∈ hg_tbl := (hg_m4 220 (by decide +kernel) rfl)
theorem ss_RX6_107 : hg_Ss RX6 107 yX6_isIn cX6_isIn 6 (some .boolean) 3 := ⟨(hg_m4 223 (by decide +kernel) rfl), (hg_m4 221 (by decide +kernel) rfl), (hg_m4 222 (by decide +kernel) rfl), (hg_m1 7 (by decide +kernel) rfl), by decide +kernel, by decide⟩
theorem sv_RX6_111 : hg_Sv RX6 111 RX6 yX6_may cX6_may 3 (some .boolean) 2 := ⟨(hg_m4 227 (by decide +kernel) rfl), (hg_m4 224 (by decide +kernel) rfl), (hg_m4 226 (by decide +kernel) rfl), (hg_p3 (y := yX6_may) 13 (by decide +kernel)), (hg_m1 7 (by decide +kernel) rfl), by decide +kernel, by decide⟩
theorem fl_RX6_7 : hg_Fl RX6 7 6 1 45 := ⟨RX6, RX6, TX6, inT_6, (hg_m4 77 (by decide +kernel) rfl), rfl, rfl, by decide⟩
theorem kl_RX6_115 : Cond.constantLong RX6 115 (31 : Int64) ∈ hg_tbl := (hg_m4 232 (by decide +kernel) rfl)
theorem fl_RX6_13 : hg_Fl RX6 13 6 2 45 := ⟨RX6, RX6, TX6, inT_6, (hg_m4 78 (by decide +kernel) rfl), rfl, rfl, by decide⟩
theorem kl_RX6_117 : Cond.constantLong RX6 117 (8 : Int64) ∈ hg_tbl := (hg_m4 237 (by decide +kernel) rfl)
theorem fl_RX6_119 : hg_Fl RX6 119 6 4 45 := ⟨RX6, RX6, TX6, inT_6, (hg_m4 80 (by decide +kernel) rfl), rfl, rfl, by decide⟩
theorem fl_RX6_16 : hg_Fl RX6 16 6 3 45 := ⟨RX6, RX6, TX6, inT_6, (hg_m4 79 (by decide +kernel) rfl), rfl, rfl, by decide⟩
theorem kl_RX6_122 : Cond.constantLong RX6 122 (255 : Int64) ∈ hg_tbl := (hg_m4 238 (by decide +kernel) rfl)
theorem fp_RX6_119 : hg_Fp RX6 119 6 4 45 .int := ⟨RX6, RX6, TX6, tyX6, inT_6, (hg_m4 80 (by decide +kernel) rfl), rfl, rfl, by decide, tyX6_ok, nmX6, rfl, by decide +kernel⟩
theorem fl_RX6_124 : hg_Fl RX6 124 6 6 45 := ⟨RX6, RX6, TX6, inT_6, (hg_m4 82 (by decide +kernel) rfl), rfl, rfl, by decide⟩
theorem fp_RX6_124 : hg_Fp RX6 124 6 6 45 .int := ⟨RX6, RX6, TX6, tyX6, inT_6, (hg_m4 82 (by decide +kernel) rfl), rfl, rfl, by decide, tyX6_ok, nmX6, rfl, by decide +kernel⟩
theorem fp_RX6_127 : hg_Fp RX6 127 6 7 45 .int := ⟨RX6, RX6, TX6, tyX6, inT_6, (hg_m4 83 (by decide +kernel) rfl), rfl, rfl, by decide, tyX6_ok, nmX6, rfl, by decide +kernel⟩
theorem fl_RX6_130 : hg_Fl RX6 130 6 5 45 := ⟨RX6, RX6, TX6, inT_6, (hg_m4 81 (by decide +kernel) rfl), rfl, rfl, by decide⟩
theorem fp_RX6_130 : hg_Fp RX6 130 6 5 45 .int := ⟨RX6, RX6, TX6, tyX6, inT_6, (hg_m4 81 (by decide +kernel) rfl), rfl, rfl, by decide, tyX6_ok, nmX6, rfl, by decide +kernel⟩
theorem sv_RX6_133 : hg_Sv RX6 133 RX6 yX6_next cX6_next 1 (some .int) 0 := ⟨(hg_m5 6 (by decide +kernel) rfl), (hg_m5 3 (by decide +kernel) rfl), (hg_m5 5 (by decide +kernel) rfl), (hg_p3 (y := yX6_next) 14 (by decide +kernel)), (hg_m1 7 (by decide +kernel) rfl), by decide +kernel, by decide⟩
theorem sv_RX6_137 : hg_Sv RX6 137 RX6 yX6_fail cX6_fail 3 none 2 := ⟨(hg_m5 21 (by decide +kernel) rfl), (hg_m5 18 (by decide +kernel) rfl), (hg_m5 20 (by decide +kernel) rfl), (hg_p4 (y := yX6_fail) 1 (by decide +kernel)), (hg_m1 7 (by decide +kernel) rfl), by decide +kernel, by decide⟩
theorem ss_RX6_141 : hg_Ss RX6 141 yX6_isFigure cX6_isFigure 1 (some .boolean) 1 := ⟨(hg_m5 40 (by decide +kernel) rfl), (hg_m5 38 (by decide +kernel) rfl), (hg_m5 39 (by decide +kernel) rfl), (hg_m1 7 (by decide +kernel) rfl), by decide +kernel, by decide⟩
theorem kl_RX6_145 : Cond.constantLong RX6 145 (4000000000 : Int64) ∈ hg_tbl := (hg_m5 41 (by decide +kernel) rfl)
theorem kl_RX6_147 : Cond.constantLong RX6 147 (10 : Int64) ∈ hg_tbl := (hg_m5 42 (by decide +kernel) rfl)
theorem kl_RX6_149 : Cond.constantLong RX6 149 (48 : Int64) ∈ hg_tbl := (hg_m5 43 (by decide +kernel) rfl)
theorem kl_RX6_151 : Cond.constantLong RX6 151 (2147483647 : Int64) ∈ hg_tbl := (hg_m5 44 (by decide +kernel) rfl)
theorem fl_RX6_19 : hg_Fl RX6 19 6 10 45 := ⟨RX6, RX6, TX6, inT_6, (hg_m4 86 (by decide +kernel) rfl), rfl, rfl, by decide⟩
theorem ss_RX6_153 : hg_Ss RX6 153 yX6_isVariable cX6_isVariable 1 (some .boolean) 1 := ⟨(hg_m5 17 (by decide +kernel) rfl), (hg_m5 15 (by decide +kernel) rfl), (hg_m5 16 (by decide +kernel) rfl), (hg_m1 7 (by decide +kernel) rfl), by decide +kernel, by decide⟩
theorem sv_RX6_156 : hg_Sv RX6 156 RX6 yX6_readNumber cX6_readNumber 7 none 3 := ⟨(hg_m5 37 (by decide +kernel) rfl), (hg_m5 34 (by decide +kernel) rfl), (hg_m5 36 (by decide +kernel) rfl), (hg_p4 (y := yX6_readNumber) 5 (by decide +kernel)), (hg_m1 7 (by decide +kernel) rfl), by decide +kernel, by decide⟩
theorem sv_RX6_160 : hg_Sv RX6 160 RX6 yX6_take cX6_take 2 none 1 := ⟨(hg_m5 29 (by decide +kernel) rfl), (hg_m5 26 (by decide +kernel) rfl), (hg_m5 28 (by decide +kernel) rfl), (hg_p4 (y := yX6_take) 3 (by decide +kernel)), (hg_m1 7 (by decide +kernel) rfl), by decide +kernel, by decide⟩
theorem sv_RX6_164 : hg_Sv RX6 164 RX6 yX6_readValue cX6_readValue 5 none 2 := ⟨(hg_m5 33 (by decide +kernel) rfl), (hg_m5 30 (by decide +kernel) rfl), (hg_m5 32 (by decide +kernel) rfl), (hg_p4 (y := yX6_readValue) 4 (by decide +kernel)), (hg_m1 7 (by decide +kernel) rfl), by decide +kernel, by decide⟩
theorem ss_RX6_167 : hg_Ss RX6 167 yX6_opOf cX6_opOf 1 (some .int) 1 := ⟨(hg_m5 47 (by decide +kernel) rfl), (hg_m5 45 (by decide +kernel) rfl), (hg_m5 46 (by decide +kernel) rfl), (hg_m1 7 (by decide +kernel) rfl), by decide +kernel, by decide⟩
theorem ss_RX6_171 : hg_Ss RX6 171 yX6_relOf cX6_relOf 1 (some .int) 1 := ⟨(hg_m5 54 (by decide +kernel) rfl), (hg_m5 52 (by decide +kernel) rfl), (hg_m5 53 (by decide +kernel) rfl), (hg_m1 7 (by decide +kernel) rfl), by decide +kernel, by decide⟩
theorem fl_RX6_174 : hg_Fl RX6 174 6 8 45 := ⟨RX6, RX6, TX6, inT_6, (hg_m4 84 (by decide +kernel) rfl), rfl, rfl, by decide⟩
theorem fl_RX6_177 : hg_Fl RX6 177 6 18 45 := ⟨RX6, RX6, TX6, inT_6, (hg_m4 94 (by decide +kernel) rfl), rfl, rfl, by decide⟩
theorem fp_RX6_174 : hg_Fp RX6 174 6 8 45 .int := ⟨RX6, RX6, TX6, tyX6, inT_6, (hg_m4 84 (by decide +kernel) rfl), rfl, rfl, by decide, tyX6_ok, nmX6, rfl, by decide +kernel⟩
theorem fl_RX6_25 : hg_Fl RX6 25 6 12 45 := ⟨RX6, RX6, TX6, inT_6, (hg_m4 88 (by decide +kernel) rfl), rfl, rfl, by decide⟩
theorem fl_RX6_28 : hg_Fl RX6 28 6 13 45 := ⟨RX6, RX6, TX6, inT_6, (hg_m4 89 (by decide +kernel) rfl), rfl, rfl, by decide⟩
theorem sv_RX6_183 : hg_Sv RX6 183 RX6 yX6_readTest cX6_readTest 3 none 1 := ⟨(hg_m5 51 (by decide +kernel) rfl), (hg_m5 48 (by decide +kernel) rfl), (hg_m5 50 (by decide +kernel) rfl), (hg_p4 (y := yX6_readTest) 6 (by decide +kernel)), (hg_m1 7 (by decide +kernel) rfl), by decide +kernel, by decide⟩
theorem fl_RX6_37 : hg_Fl RX6 37 6 16 45 := ⟨RX6, RX6, TX6, inT_6, (hg_m4 92 (by decide +kernel) rfl), rfl, rfl, by decide⟩
theorem fl_RX6_40 : hg_Fl RX6 40 6 17 45 := ⟨RX6, RX6, TX6, inT_6, (hg_m4 93 (by decide +kernel) rfl), rfl, rfl, by decide⟩
theorem fp_RX6_177 : hg_Fp RX6 177 6 18 45 .int := ⟨RX6, RX6, TX6, tyX6, inT_6, (hg_m4 94 (by decide +kernel) rfl), rfl, rfl, by decide, tyX6_ok, nmX6, rfl, by decide +kernel⟩
theorem sv_RX6_180 : hg_Sv RX6 180 RX6 yX6_readSet cX6_readSet 3 none 1 := ⟨(hg_m5 25 (by decide +kernel) rfl), (hg_m5 22 (by decide +kernel) rfl), (hg_m5 24 (by decide +kernel) rfl), (hg_p4 (y := yX6_readSet) 2 (by decide +kernel)), (hg_m1 7 (by decide +kernel) rfl), by decide +kernel, by decide⟩
theorem sv_RX6_186 : hg_Sv RX6 186 RX6 yX6_closeSide cX6_closeSide 2 none 0 := ⟨(hg_m5 10 (by decide +kernel) rfl), (hg_m5 7 (by decide +kernel) rfl), (hg_m5 9 (by decide +kernel) rfl), (hg_p3 (y := yX6_closeSide) 15 (by decide +kernel)), (hg_m1 7 (by decide +kernel) rfl), by decide +kernel, by decide⟩
theorem sv_RX6_189 : hg_Sv RX6 189 RX6 yX6_readStatement cX6_readStatement 5 none 1 := ⟨(hg_m5 14 (by decide +kernel) rfl), (hg_m5 11 (by decide +kernel) rfl), (hg_m5 13 (by decide +kernel) rfl), (hg_p4 (y := yX6_readStatement) 0 (by decide +kernel)), (hg_m1 7 (by decide +kernel) rfl), by decide +kernel, by decide⟩
theorem fp_RX6_192 : hg_Fp RX6 192 6 9 45 .int := ⟨RX6, RX6, TX6, tyX6, inT_6, (hg_m4 85 (by decide +kernel) rfl), rfl, rfl, by decide, tyX6_ok, nmX6, rfl, by decide +kernel⟩
theorem fl_RX6_127 : hg_Fl RX6 127 6 7 45 := ⟨RX6, RX6, TX6, inT_6, (hg_m4 83 (by decide +kernel) rfl), rfl, rfl, by decide⟩
theorem fl_RX6_22 : hg_Fl RX6 22 6 11 45 := ⟨RX6, RX6, TX6, inT_6, (hg_m4 87 (by decide +kernel) rfl), rfl, rfl, by decide⟩
theorem fp_RX6_195 : hg_Fp RX6 195 6 22 45 .boolean := ⟨RX6, RX6, TX6, tyX6, inT_6, (hg_m4 98 (by decide +kernel) rfl), rfl, rfl, by decide, tyX6_ok, nmX6, rfl, by decide +kernel⟩
theorem fp_RX6_199 : hg_Fp RX6 199 6 20 45 .int := ⟨RX6, RX6, TX6, tyX6, inT_6, (hg_m4 96 (by decide +kernel) rfl), rfl, rfl, by decide, tyX6_ok, nmX6, rfl, by decide +kernel⟩
theorem fp_RX6_47 : hg_Fp RX6 47 6 21 45 .int := ⟨RX6, RX6, TX6, tyX6, inT_6, (hg_m4 97 (by decide +kernel) rfl), rfl, rfl, by decide, tyX6_ok, nmX6, rfl, by decide +kernel⟩
theorem fl_RX6_192 : hg_Fl RX6 192 6 9 45 := ⟨RX6, RX6, TX6, inT_6, (hg_m4 85 (by decide +kernel) rfl), rfl, rfl, by decide⟩
theorem fl_RX6_31 : hg_Fl RX6 31 6 14 45 := ⟨RX6, RX6, TX6, inT_6, (hg_m4 90 (by decide +kernel) rfl), rfl, rfl, by decide⟩
theorem fl_RX6_34 : hg_Fl RX6 34 6 15 45 := ⟨RX6, RX6, TX6, inT_6, (hg_m4 91 (by decide +kernel) rfl), rfl, rfl, by decide⟩
theorem fl_RX6_51 : hg_Fl RX6 51 6 23 45 := ⟨RX6, RX6, TX6, inT_6, (hg_m4 99 (by decide +kernel) rfl), rfl, rfl, by decide⟩
theorem fl_RX6_199 : hg_Fl RX6 199 6 20 45 := ⟨RX6, RX6, TX6, inT_6, (hg_m4 96 (by decide +kernel) rfl), rfl, rfl, by decide⟩
theorem fl_RX6_44 : hg_Fl RX6 44 6 19 45 := ⟨RX6, RX6, TX6, inT_6, (hg_m4 95 (by decide +kernel) rfl), rfl, rfl, by decide⟩
theorem fl_RX6_202 : hg_Fl RX6 202 6 24 45 := ⟨RX6, RX6, TX6, inT_6, (hg_m4 100 (by decide +kernel) rfl), rfl, rfl, by decide⟩
theorem fl_RX6_47 : hg_Fl RX6 47 6 21 45 := ⟨RX6, RX6, TX6, inT_6, (hg_m4 97 (by decide +kernel) rfl), rfl, rfl, by decide⟩
theorem sv_RX6_205 : hg_Sv RX6 205 RX6 yX6_fresh1 cX6_fresh1 1 (some .int) 0 := ⟨(hg_m5 83 (by decide +kernel) rfl), (hg_m5 80 (by decide +kernel) rfl), (hg_m5 82 (by decide +kernel) rfl), (hg_p4 (y := yX6_fresh1) 11 (by decide +kernel)), (hg_m1 7 (by decide +kernel) rfl), by decide +kernel, by decide⟩
theorem sv_RX6_208 : hg_Sv RX6 208 RX6 yX6_emit cX6_emit 7 (some .int) 5 := ⟨(hg_m5 87 (by decide +kernel) rfl), (hg_m5 84 (by decide +kernel) rfl), (hg_m5 86 (by decide +kernel) rfl), (hg_p4 (y := yX6_emit) 12 (by decide +kernel)), (hg_m1 7 (by decide +kernel) rfl), by decide +kernel, by decide⟩
theorem sv_RX6_212 : hg_Sv RX6 212 RX6 yX6_of cX6_of 3 (some .int) 2 := ⟨(hg_m5 67 (by decide +kernel) rfl), (hg_m5 64 (by decide +kernel) rfl), (hg_m5 66 (by decide +kernel) rfl), (hg_p4 (y := yX6_of) 7 (by decide +kernel)), (hg_m1 7 (by decide +kernel) rfl), by decide +kernel, by decide⟩
theorem sv_RX6_216 : hg_Sv RX6 216 RX6 yX6_setNew cX6_setNew 4 (some .int) 1 := ⟨(hg_m5 99 (by decide +kernel) rfl), (hg_m5 96 (by decide +kernel) rfl), (hg_m5 98 (by decide +kernel) rfl), (hg_p4 (y := yX6_setNew) 15 (by decide +kernel)), (hg_m1 7 (by decide +kernel) rfl), by decide +kernel, by decide⟩
theorem fl_RX6_54 : hg_Fl RX6 54 6 25 45 := ⟨RX6, RX6, TX6, inT_6, (hg_m4 101 (by decide +kernel) rfl), rfl, rfl, by decide⟩
theorem fl_RX6_219 : hg_Fl RX6 219 6 26 45 := ⟨RX6, RX6, TX6, inT_6, (hg_m4 102 (by decide +kernel) rfl), rfl, rfl, by decide⟩
theorem fl_RX6_63 : hg_Fl RX6 63 6 29 45 := ⟨RX6, RX6, TX6, inT_6, (hg_m4 105 (by decide +kernel) rfl), rfl, rfl, by decide⟩
theorem fl_RX6_69 : hg_Fl RX6 69 6 31 45 := ⟨RX6, RX6, TX6, inT_6, (hg_m4 107 (by decide +kernel) rfl), rfl, rfl, by decide⟩
theorem sv_RX6_222 : hg_Sv RX6 222 RX6 yX6_value cX6_value 3 (some .int) 2 := ⟨(hg_m5 119 (by decide +kernel) rfl), (hg_m5 116 (by decide +kernel) rfl), (hg_m5 118 (by decide +kernel) rfl), (hg_p5 (y := yX6_value) 4 (by decide +kernel)), (hg_m1 7 (by decide +kernel) rfl), by decide +kernel, by decide⟩
theorem fl_RX6_57 : hg_Fl RX6 57 6 27 45 := ⟨RX6, RX6, TX6, inT_6, (hg_m4 103 (by decide +kernel) rfl), rfl, rfl, by decide⟩
theorem fl_RX6_60 : hg_Fl RX6 60 6 28 45 := ⟨RX6, RX6, TX6, inT_6, (hg_m4 104 (by decide +kernel) rfl), rfl, rfl, by decide⟩
theorem fl_RX6_66 : hg_Fl RX6 66 6 30 45 := ⟨RX6, RX6, TX6, inT_6, (hg_m4 106 (by decide +kernel) rfl), rfl, rfl, by decide⟩
theorem fl_RX6_72 : hg_Fl RX6 72 6 32 45 := ⟨RX6, RX6, TX6, inT_6, (hg_m4 108 (by decide +kernel) rfl), rfl, rfl, by decide⟩
theorem sv_RX6_225 : hg_Sv RX6 225 RX6 yX6_guarded cX6_guarded 5 (some .int) 2 := ⟨(hg_m5 103 (by decide +kernel) rfl), (hg_m5 100 (by decide +kernel) rfl), (hg_m5 102 (by decide +kernel) rfl), (hg_p5 (y := yX6_guarded) 0 (by decide +kernel)), (hg_m1 7 (by decide +kernel) rfl), by decide +kernel, by decide⟩
theorem fl_RX6_75 : hg_Fl RX6 75 6 33 45 := ⟨RX6, RX6, TX6, inT_6, (hg_m4 109 (by decide +kernel) rfl), rfl, rfl, by decide⟩
theorem fp_RX6_219 : hg_Fp RX6 219 6 26 45 .int := ⟨RX6, RX6, TX6, tyX6, inT_6, (hg_m4 102 (by decide +kernel) rfl), rfl, rfl, by decide, tyX6_ok, nmX6, rfl, by decide +kernel⟩
theorem fp_RX6_202 : hg_Fp RX6 202 6 24 45 .int := ⟨RX6, RX6, TX6, tyX6, inT_6, (hg_m4 100 (by decide +kernel) rfl), rfl, rfl, by decide, tyX6_ok, nmX6, rfl, by decide +kernel⟩
theorem fl_RX6_78 : hg_Fl RX6 78 6 34 45 := ⟨RX6, RX6, TX6, inT_6, (hg_m4 110 (by decide +kernel) rfl), rfl, rfl, by decide⟩
theorem sv_RX6_228 : hg_Sv RX6 228 RX6 yX6_isOnSide cX6_isOnSide 1 (some .boolean) 0 := ⟨(hg_m5 91 (by decide +kernel) rfl), (hg_m5 88 (by decide +kernel) rfl), (hg_m5 90 (by decide +kernel) rfl), (hg_p4 (y := yX6_isOnSide) 13 (by decide +kernel)), (hg_m1 7 (by decide +kernel) rfl), by decide +kernel, by decide⟩
theorem sv_RX6_232 : hg_Sv RX6 232 RX6 yX6_target cX6_target 3 (some .int) 1 := ⟨(hg_m5 115 (by decide +kernel) rfl), (hg_m5 112 (by decide +kernel) rfl), (hg_m5 114 (by decide +kernel) rfl), (hg_p5 (y := yX6_target) 3 (by decide +kernel)), (hg_m1 7 (by decide +kernel) rfl), by decide +kernel, by decide⟩
theorem sv_RX6_241 : hg_Sv RX6 241 RX6 yX6_isPlainIndex cX6_isPlainIndex 2 (some .boolean) 1 := ⟨(hg_m5 127 (by decide +kernel) rfl), (hg_m5 124 (by decide +kernel) rfl), (hg_m5 126 (by decide +kernel) rfl), (hg_p5 (y := yX6_isPlainIndex) 6 (by decide +kernel)), (hg_m1 7 (by decide +kernel) rfl), by decide +kernel, by decide⟩
theorem sv_RX6_238 : hg_Sv RX6 238 RX6 yX6_harmless cX6_harmless 6 (some .int) 2 := ⟨(hg_m5 123 (by decide +kernel) rfl), (hg_m5 120 (by decide +kernel) rfl), (hg_m5 122 (by decide +kernel) rfl), (hg_p5 (y := yX6_harmless) 5 (by decide +kernel)), (hg_m1 7 (by decide +kernel) rfl), by decide +kernel, by decide⟩
theorem fl_RX6_81 : hg_Fl RX6 81 6 35 45 := ⟨RX6, RX6, TX6, inT_6, (hg_m4 111 (by decide +kernel) rfl), rfl, rfl, by decide⟩
theorem sv_RX6_269 : hg_Sv RX6 269 RX6 yX6_names cX6_names 5 (some .boolean) 2 := ⟨(hg_m5 147 (by decide +kernel) rfl), (hg_m5 144 (by decide +kernel) rfl), (hg_m5 146 (by decide +kernel) rfl), (hg_p5 (y := yX6_names) 10 (by decide +kernel)), (hg_m1 7 (by decide +kernel) rfl), by decide +kernel, by decide⟩
theorem kl_RX6_278 : Cond.constantLong RX6 278 (5 : Int64) ∈ hg_tbl := (hg_m5 156 (by decide +kernel) rfl)
theorem kl_RX6_280 : Cond.constantLong RX6 280 (3 : Int64) ∈ hg_tbl := (hg_m5 161 (by decide +kernel) rfl)
theorem fl_RX6_96 : hg_Fl RX6 96 6 43 45 := ⟨RX6, RX6, TX6, inT_6, (hg_m4 119 (by decide +kernel) rfl), rfl, rfl, by decide⟩
theorem fp_RX6_282 : hg_Fp RX6 282 6 39 45 .int := ⟨RX6, RX6, TX6, tyX6, inT_6, (hg_m4 115 (by decide +kernel) rfl), rfl, rfl, by decide, tyX6_ok, nmX6, rfl, by decide +kernel⟩
theorem fp_RX6_93 : hg_Fp RX6 93 6 40 45 .int := ⟨RX6, RX6, TX6, tyX6, inT_6, (hg_m4 116 (by decide +kernel) rfl), rfl, rfl, by decide, tyX6_ok, nmX6, rfl, by decide +kernel⟩
theorem fp_RX6_285 : hg_Fp RX6 285 6 41 45 .int := ⟨RX6, RX6, TX6, tyX6, inT_6, (hg_m4 117 (by decide +kernel) rfl), rfl, rfl, by decide, tyX6_ok, nmX6, rfl, by decide +kernel⟩
theorem fp_RX6_288 : hg_Fp RX6 288 6 42 45 .int := ⟨RX6, RX6, TX6, tyX6, inT_6, (hg_m4 118 (by decide +kernel) rfl), rfl, rfl, by decide, tyX6_ok, nmX6, rfl, by decide +kernel⟩
theorem fl_RX6_87 : hg_Fl RX6 87 6 37 45 := ⟨RX6, RX6, TX6, inT_6, (hg_m4 113 (by decide +kernel) rfl), rfl, rfl, by decide⟩
theorem fl_RX6_84 : hg_Fl RX6 84 6 36 45 := ⟨RX6, RX6, TX6, inT_6, (hg_m4 112 (by decide +kernel) rfl), rfl, rfl, by decide⟩
theorem sv_RX6_291 : hg_Sv RX6 291 RX6 yX6_stop cX6_stop 3 none 2 := ⟨(hg_m5 185 (by decide +kernel) rfl), (hg_m5 182 (by decide +kernel) rfl), (hg_m5 184 (by decide +kernel) rfl), (hg_p6 (y := yX6_stop) 0 (by decide +kernel)), (hg_m1 7 (by decide +kernel) rfl), by decide +kernel, by decide⟩
theorem sv_RX6_294 : hg_Sv RX6 294 RX6 yX6_toldValue cX6_toldValue 3 (some .int) 2 := ⟨(hg_m5 177 (by decide +kernel) rfl), (hg_m5 174 (by decide +kernel) rfl), (hg_m5 176 (by decide +kernel) rfl), (hg_p5 (y := yX6_toldValue) 14 (by decide +kernel)), (hg_m1 7 (by decide +kernel) rfl), by decide +kernel, by decide⟩
theorem fl_RX6_99 : hg_Fl RX6 99 6 44 45 := ⟨RX6, RX6, TX6, inT_6, (hg_m4 120 (by decide +kernel) rfl), rfl, rfl, by decide⟩
theorem sv_RX6_297 : hg_Sv RX6 297 RX6 yX6_reach cX6_reach 7 (some .int) 4 := ⟨(hg_m5 181 (by decide +kernel) rfl), (hg_m5 178 (by decide +kernel) rfl), (hg_m5 180 (by decide +kernel) rfl), (hg_p5 (y := yX6_reach) 15 (by decide +kernel)), (hg_m1 7 (by decide +kernel) rfl), by decide +kernel, by decide⟩
theorem fl_RX6_288 : hg_Fl RX6 288 6 42 45 := ⟨RX6, RX6, TX6, inT_6, (hg_m4 118 (by decide +kernel) rfl), rfl, rfl, by decide⟩
theorem sv_RX6_301 : hg_Sv RX6 301 RX6 yX6_isWord cX6_isWord 4 (some .boolean) 2 := ⟨(hg_m5 189 (by decide +kernel) rfl), (hg_m5 186 (by decide +kernel) rfl), (hg_m5 188 (by decide +kernel) rfl), (hg_p6 (y := yX6_isWord) 1 (by decide +kernel)), (hg_m1 7 (by decide +kernel) rfl), by decide +kernel, by decide⟩
theorem fl_RX6_90 : hg_Fl RX6 90 6 38 45 := ⟨RX6, RX6, TX6, inT_6, (hg_m4 114 (by decide +kernel) rfl), rfl, rfl, by decide⟩
theorem fl_RX6_282 : hg_Fl RX6 282 6 39 45 := ⟨RX6, RX6, TX6, inT_6, (hg_m4 115 (by decide +kernel) rfl), rfl, rfl, by decide⟩
theorem fl_RX6_285 : hg_Fl RX6 285 6 41 45 := ⟨RX6, RX6, TX6, inT_6, (hg_m4 117 (by decide +kernel) rfl), rfl, rfl, by decide⟩
theorem sv_RX6_319 : hg_Sv RX6 319 RX6 yX6_countJumps cX6_countJumps 3 (some .int) 0 := ⟨(hg_m5 225 (by decide +kernel) rfl), (hg_m5 222 (by decide +kernel) rfl), (hg_m5 224 (by decide +kernel) rfl), (hg_p6 (y := yX6_countJumps) 5 (by decide +kernel)), (hg_m1 7 (by decide +kernel) rfl), by decide +kernel, by decide⟩
theorem sv_RX6_322 : hg_Sv RX6 322 RX6 yX6_countConverted cX6_countConverted 3 (some .int) 0 := ⟨(hg_m5 229 (by decide +kernel) rfl), (hg_m5 226 (by decide +kernel) rfl), (hg_m5 228 (by decide +kernel) rfl), (hg_p6 (y := yX6_countConverted) 6 (by decide +kernel)), (hg_m1 7 (by decide +kernel) rfl), by decide +kernel, by decide⟩
theorem fl_RX6_93 : hg_Fl RX6 93 6 40 45 := ⟨RX6, RX6, TX6, inT_6, (hg_m4 116 (by decide +kernel) rfl), rfl, rfl, by decide⟩
theorem sv_RX6_248 : hg_Sv RX6 248 RX6 yX6_beginTest cX6_beginTest 8 none 1 := ⟨(hg_m5 135 (by decide +kernel) rfl), (hg_m5 132 (by decide +kernel) rfl), (hg_m5 134 (by decide +kernel) rfl), (hg_p5 (y := yX6_beginTest) 8 (by decide +kernel)), (hg_m1 7 (by decide +kernel) rfl), by decide +kernel, by decide⟩
theorem sv_RX6_235 : hg_Sv RX6 235 RX6 yX6_lowerSet cX6_lowerSet 5 none 1 := ⟨(hg_m5 111 (by decide +kernel) rfl), (hg_m5 108 (by decide +kernel) rfl), (hg_m5 110 (by decide +kernel) rfl), (hg_p5 (y := yX6_lowerSet) 2 (by decide +kernel)), (hg_m1 7 (by decide +kernel) rfl), by decide +kernel, by decide⟩
theorem sv_RX6_244 : hg_Sv RX6 244 RX6 yX6_lowerStore cX6_lowerStore 9 none 3 := ⟨(hg_m5 131 (by decide +kernel) rfl), (hg_m5 128 (by decide +kernel) rfl), (hg_m5 130 (by decide +kernel) rfl), (hg_p5 (y := yX6_lowerStore) 7 (by decide +kernel)), (hg_m1 7 (by decide +kernel) rfl), by decide +kernel, by decide⟩
theorem sv_RX6_251 : hg_Sv RX6 251 RX6 yX6_endSecond cX6_endSecond 7 none 1 := ⟨(hg_m5 79 (by decide +kernel) rfl), (hg_m5 76 (by decide +kernel) rfl), (hg_m5 78 (by decide +kernel) rfl), (hg_p4 (y := yX6_endSecond) 10 (by decide +kernel)), (hg_m1 7 (by decide +kernel) rfl), by decide +kernel, by decide⟩
theorem sv_RX6_254 : hg_Sv RX6 254 RX6 yX6_endFirst cX6_endFirst 7 none 1 := ⟨(hg_m5 95 (by decide +kernel) rfl), (hg_m5 92 (by decide +kernel) rfl), (hg_m5 94 (by decide +kernel) rfl), (hg_p4 (y := yX6_endFirst) 14 (by decide +kernel)), (hg_m1 7 (by decide +kernel) rfl), by decide +kernel, by decide⟩
theorem sv_RX6_257 : hg_Sv RX6 257 RX6 yX6_lowerOne cX6_lowerOne 8 none 1 := ⟨(hg_m5 107 (by decide +kernel) rfl), (hg_m5 104 (by decide +kernel) rfl), (hg_m5 106 (by decide +kernel) rfl), (hg_p5 (y := yX6_lowerOne) 1 (by decide +kernel)), (hg_m1 7 (by decide +kernel) rfl), by decide +kernel, by decide⟩
theorem sv_RX6_260 : hg_Sv RX6 260 RX6 yX6_lowerAll cX6_lowerAll 8 none 2 := ⟨(hg_m5 75 (by decide +kernel) rfl), (hg_m5 72 (by decide +kernel) rfl), (hg_m5 74 (by decide +kernel) rfl), (hg_p4 (y := yX6_lowerAll) 9 (by decide +kernel)), (hg_m1 7 (by decide +kernel) rfl), by decide +kernel, by decide⟩
theorem kl_RX6_263 : Cond.constantLong RX6 263 (400 : Int64) ∈ hg_tbl := (hg_m5 63 (by decide +kernel) rfl)
theorem sv_RX6_265 : hg_Sv RX6 265 RX6 yX6_mayConvert cX6_mayConvert 5 (some .boolean) 2 := ⟨(hg_m5 71 (by decide +kernel) rfl), (hg_m5 68 (by decide +kernel) rfl), (hg_m5 70 (by decide +kernel) rfl), (hg_p4 (y := yX6_mayConvert) 8 (by decide +kernel)), (hg_m1 7 (by decide +kernel) rfl), by decide +kernel, by decide⟩
theorem sv_RX6_272 : hg_Sv RX6 272 RX6 yX6_isUseless cX6_isUseless 6 (some .boolean) 1 := ⟨(hg_m5 143 (by decide +kernel) rfl), (hg_m5 140 (by decide +kernel) rfl), (hg_m5 142 (by decide +kernel) rfl), (hg_p5 (y := yX6_isUseless) 9 (by decide +kernel)), (hg_m1 7 (by decide +kernel) rfl), by decide +kernel, by decide⟩
theorem sv_RX6_275 : hg_Sv RX6 275 RX6 yX6_goneBefore cX6_goneBefore 4 (some .int) 1 := ⟨(hg_m5 151 (by decide +kernel) rfl), (hg_m5 148 (by decide +kernel) rfl), (hg_m5 150 (by decide +kernel) rfl), (hg_p5 (y := yX6_goneBefore) 11 (by decide +kernel)), (hg_m1 7 (by decide +kernel) rfl), by decide +kernel, by decide⟩
theorem sv_RX6_304 : hg_Sv RX6 304 RX6 yX6_begin cX6_begin 2 none 0 := ⟨(hg_m5 169 (by decide +kernel) rfl), (hg_m5 166 (by decide +kernel) rfl), (hg_m5 168 (by decide +kernel) rfl), (hg_p5 (y := yX6_begin) 12 (by decide +kernel)), (hg_m1 7 (by decide +kernel) rfl), by decide +kernel, by decide⟩
theorem sv_RX6_307 : hg_Sv RX6 307 RX6 yX6_doStatement cX6_doStatement 6 (some .int) 1 := ⟨(hg_m5 173 (by decide +kernel) rfl), (hg_m5 170 (by decide +kernel) rfl), (hg_m5 172 (by decide +kernel) rfl), (hg_p5 (y := yX6_doStatement) 13 (by decide +kernel)), (hg_m1 7 (by decide +kernel) rfl), by decide +kernel, by decide⟩
theorem sv_RX6_310 : hg_Sv RX6 310 RX6 yX6_behind cX6_behind 5 (some .int) 1 := ⟨(hg_m5 193 (by decide +kernel) rfl), (hg_m5 190 (by decide +kernel) rfl), (hg_m5 192 (by decide +kernel) rfl), (hg_p6 (y := yX6_behind) 2 (by decide +kernel)), (hg_m1 7 (by decide +kernel) rfl), by decide +kernel, by decide⟩
theorem sv_RX6_313 : hg_Sv RX6 313 RX6 yX6_leave cX6_leave 2 none 0 := ⟨(hg_m5 197 (by decide +kernel) rfl), (hg_m5 194 (by decide +kernel) rfl), (hg_m5 196 (by decide +kernel) rfl), (hg_p6 (y := yX6_leave) 3 (by decide +kernel)), (hg_m1 7 (by decide +kernel) rfl), by decide +kernel, by decide⟩
theorem fl_RX6_195 : hg_Fl RX6 195 6 22 45 := ⟨RX6, RX6, TX6, inT_6, (hg_m4 98 (by decide +kernel) rfl), rfl, rfl, by decide⟩
theorem sv_RX6_316 : hg_Sv RX6 316 RX6 yX6_doStep cX6_doStep 6 (some .int) 1 := ⟨(hg_m5 205 (by decide +kernel) rfl), (hg_m5 202 (by decide +kernel) rfl), (hg_m5 204 (by decide +kernel) rfl), (hg_p6 (y := yX6_doStep) 4 (by decide +kernel)), (hg_m1 7 (by decide +kernel) rfl), by decide +kernel, by decide⟩
