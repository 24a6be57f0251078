/-! the family C: 57 cells -/
-- 0: x obj 8
-- 1: x.putVariables int 16
-- 2: x.putWords int 32
-- 3: x.reader obj 9
-- 4: x.reader.tape int 600
-- 5: x.reader.openBranch int 6
-- 6: x.reader.inSecond bool 6
-- 7: x.reader.text obj 9
-- 8: x.reader.text.sort int 60
-- 9: x.reader.text.depth int 60
-- 10: x.reader.text.target int 60
-- 11: x.reader.text.operation int 60
-- 12: x.reader.text.second int 60
-- 13: x.reader.text.end int 60
-- 14: x.reader.text.named bool 120
-- 15: x.reader.text.number int 120
-- 16: x.text obj 9
-- 17: x.text.sort int 60
-- 18: x.text.depth int 60
-- 19: x.text.target int 60
-- 20: x.text.operation int 60
-- 21: x.text.second int 60
-- 22: x.text.end int 60
-- 23: x.text.named bool 120
-- 24: x.text.number int 120
-- 25: x.lowering obj 6
-- 26: x.lowering.converted bool 60
-- 27: x.lowering.standing int 16
-- 28: x.lowering.before rows 6
-- 29: x.lowering.before.0 int 16
-- 30: x.lowering.before.1 int 16
-- 31: x.lowering.before.2 int 16
-- 32: x.lowering.before.3 int 16
-- 33: x.lowering.before.4 int 16
-- 34: x.lowering.before.5 int 16
-- 35: x.lowering.behindFirst rows 6
-- 36: x.lowering.behindFirst.0 int 16
-- 37: x.lowering.behindFirst.1 int 16
-- 38: x.lowering.behindFirst.2 int 16
-- 39: x.lowering.behindFirst.3 int 16
-- 40: x.lowering.behindFirst.4 int 16
-- 41: x.lowering.behindFirst.5 int 16
-- 42: x.lowering.code obj 7
-- 43: x.lowering.code.rows rows 6
-- 44: x.lowering.code.rows.0 int 720
-- 45: x.lowering.code.rows.1 int 720
-- 46: x.lowering.code.rows.2 int 720
-- 47: x.lowering.code.rows.3 int 720
-- 48: x.lowering.code.rows.4 int 720
-- 49: x.lowering.code.rows.5 int 720
-- 50: x.lowering.code.taken bool 736
-- 51: x.lowering.code.stays bool 720
-- 52: x.lowering.code.placeThen int 721
-- 53: x.latest obj 7
-- 54: x.latest.register int 736
-- 55: x.latest.words int 32
-- 56: x.latest.output int 60
def hg_KC : Nat → Nat × Nat := fun q => match q with
  | 0 => (8, 8)
  | 1 => (0, 16)
  | 2 => (0, 32)
  | 3 => (7, 9)
  | 4 => (0, 600)
  | 5 => (0, 6)
  | 6 => (1, 6)
  | 7 => (6, 9)
  | 8 => (0, 60)
  | 9 => (0, 60)
  | 10 => (0, 60)
  | 11 => (0, 60)
  | 12 => (0, 60)
  | 13 => (0, 60)
  | 14 => (1, 120)
  | 15 => (0, 120)
  | 16 => (6, 9)
  | 17 => (0, 60)
  | 18 => (0, 60)
  | 19 => (0, 60)
  | 20 => (0, 60)
  | 21 => (0, 60)
  | 22 => (0, 60)
  | 23 => (1, 120)
  | 24 => (0, 120)
  | 25 => (5, 6)
  | 26 => (1, 60)
  | 27 => (0, 16)
  | 28 => (2, 6)
  | 29 => (0, 16)
  | 30 => (0, 16)
  | 31 => (0, 16)
  | 32 => (0, 16)
  | 33 => (0, 16)
  | 34 => (0, 16)
  | 35 => (2, 6)
  | 36 => (0, 16)
  | 37 => (0, 16)
  | 38 => (0, 16)
  | 39 => (0, 16)
  | 40 => (0, 16)
  | 41 => (0, 16)
  | 42 => (3, 7)
  | 43 => (2, 6)
  | 44 => (0, 720)
  | 45 => (0, 720)
  | 46 => (0, 720)
  | 47 => (0, 720)
  | 48 => (0, 720)
  | 49 => (0, 720)
  | 50 => (1, 736)
  | 51 => (1, 720)
  | 52 => (0, 721)
  | 53 => (4, 7)
  | 54 => (0, 736)
  | 55 => (0, 32)
  | 56 => (0, 60)
  | _ => (0, 0)
def hg_fC : Nat → Nat → Bool := fun c k => match c, k with
  | 0, 0 => true
  | 0, 4 => true
  | 0, 5 => true
  | 0, 6 => true
  | 1, 0 => true
  | 1, 1 => true
  | 1, 2 => true
  | 2, 0 => true
  | 2, 1 => true
  | 2, 2 => true
  | 2, 3 => true
  | 2, 4 => true
  | 3, 0 => true
  | 3, 1 => true
  | 3, 2 => true
  | 3, 3 => true
  | 3, 4 => true
  | 3, 5 => true
  | 3, 6 => true
  | 3, 7 => true
  | 4, 0 => true
  | 4, 2 => true
  | 4, 3 => true
  | 4, 4 => true
  | 5, 0 => true
  | 5, 1 => true
  | 5, 2 => true
  | 5, 3 => true
  | 5, 4 => true
  | 5, 5 => true
  | 5, 7 => true
  | _, _ => false
def hg_FC : hg_F := (57, hg_KC, hg_fC)
def hg_rC : hg_R := fun q i => match q with
  | 0 => match i with
    | 0 => 1
    | 1 => 2
    | 2 => 3
    | 3 => 16
    | 4 => 25
    | 5 => 42
    | 7 => 53
    | _ => 0
  | 3 => match i with
    | 0 => 4
    | 2 => 7
    | 3 => 5
    | 4 => 6
    | _ => 0
  | 7 => match i with
    | 0 => 8
    | 1 => 9
    | 2 => 10
    | 3 => 11
    | 4 => 12
    | 5 => 13
    | 6 => 14
    | 7 => 15
    | _ => 0
  | 16 => match i with
    | 0 => 17
    | 1 => 18
    | 2 => 19
    | 3 => 20
    | 4 => 21
    | 5 => 22
    | 6 => 23
    | 7 => 24
    | _ => 0
  | 25 => match i with
    | 0 => 42
    | 1 => 26
    | 2 => 27
    | 3 => 28
    | 4 => 35
    | _ => 0
  | 28 => 29 + i
  | 35 => 36 + i
  | 42 => match i with
    | 0 => 43
    | 4 => 50
    | 5 => 51
    | 6 => 52
    | _ => 0
  | 43 => 44 + i
  | 53 => match i with
    | 0 => 54
    | 1 => 55
    | 2 => 56
    | _ => 0
  | _ => 0
theorem qC_0 : 0 < hg_FC.1 := by decide
theorem kC_0 : hg_FC.2.1 0 = (5 + 3, 8) := rfl
theorem qC_1 : 1 < hg_FC.1 := by decide
theorem kC_1 : hg_FC.2.1 1 = (0, 16) := rfl
theorem qC_2 : 2 < hg_FC.1 := by decide
theorem kC_2 : hg_FC.2.1 2 = (0, 32) := rfl
theorem qC_3 : 3 < hg_FC.1 := by decide
theorem kC_3 : hg_FC.2.1 3 = (4 + 3, 9) := rfl
theorem qC_4 : 4 < hg_FC.1 := by decide
theorem kC_4 : hg_FC.2.1 4 = (0, 600) := rfl
theorem qC_5 : 5 < hg_FC.1 := by decide
theorem kC_5 : hg_FC.2.1 5 = (0, 6) := rfl
theorem qC_6 : 6 < hg_FC.1 := by decide
theorem kC_6 : hg_FC.2.1 6 = (1, 6) := rfl
theorem qC_7 : 7 < hg_FC.1 := by decide
theorem kC_7 : hg_FC.2.1 7 = (3 + 3, 9) := rfl
theorem qC_8 : 8 < hg_FC.1 := by decide
theorem kC_8 : hg_FC.2.1 8 = (0, 60) := rfl
theorem qC_9 : 9 < hg_FC.1 := by decide
theorem kC_9 : hg_FC.2.1 9 = (0, 60) := rfl
theorem qC_10 : 10 < hg_FC.1 := by decide
theorem kC_10 : hg_FC.2.1 10 = (0, 60) := rfl
theorem qC_11 : 11 < hg_FC.1 := by decide
theorem kC_11 : hg_FC.2.1 11 = (0, 60) := rfl
theorem qC_12 : 12 < hg_FC.1 := by decide
theorem kC_12 : hg_FC.2.1 12 = (0, 60) := rfl
theorem qC_13 : 13 < hg_FC.1 := by decide
theorem kC_13 : hg_FC.2.1 13 = (0, 60) := rfl
theorem qC_14 : 14 < hg_FC.1 := by decide
theorem kC_14 : hg_FC.2.1 14 = (1, 120) := rfl
theorem qC_15 : 15 < hg_FC.1 := by decide
theorem kC_15 : hg_FC.2.1 15 = (0, 120) := rfl
theorem qC_16 : 16 < hg_FC.1 := by decide
theorem kC_16 : hg_FC.2.1 16 = (3 + 3, 9) := rfl
theorem qC_17 : 17 < hg_FC.1 := by decide
theorem kC_17 : hg_FC.2.1 17 = (0, 60) := rfl
theorem qC_18 : 18 < hg_FC.1 := by decide
theorem kC_18 : hg_FC.2.1 18 = (0, 60) := rfl
theorem qC_19 : 19 < hg_FC.1 := by decide
theorem kC_19 : hg_FC.2.1 19 = (0, 60) := rfl
theorem qC_20 : 20 < hg_FC.1 := by decide
theorem kC_20 : hg_FC.2.1 20 = (0, 60) := rfl
theorem qC_21 : 21 < hg_FC.1 := by decide
theorem kC_21 : hg_FC.2.1 21 = (0, 60) := rfl
theorem qC_22 : 22 < hg_FC.1 := by decide
theorem kC_22 : hg_FC.2.1 22 = (0, 60) := rfl
theorem qC_23 : 23 < hg_FC.1 := by decide
theorem kC_23 : hg_FC.2.1 23 = (1, 120) := rfl
theorem qC_24 : 24 < hg_FC.1 := by decide
theorem kC_24 : hg_FC.2.1 24 = (0, 120) := rfl
theorem qC_25 : 25 < hg_FC.1 := by decide
theorem kC_25 : hg_FC.2.1 25 = (2 + 3, 6) := rfl
theorem qC_26 : 26 < hg_FC.1 := by decide
theorem kC_26 : hg_FC.2.1 26 = (1, 60) := rfl
theorem qC_27 : 27 < hg_FC.1 := by decide
theorem kC_27 : hg_FC.2.1 27 = (0, 16) := rfl
theorem qC_28 : 28 < hg_FC.1 := by decide
theorem kC_28 : hg_FC.2.1 28 = (2, 6) := rfl
theorem QC_29 {j : Nat} (h : j < 6) : 29 + j < hg_FC.1 := by show _ < 57; omega
theorem KC_29 {j : Nat} (h : j < 6) : hg_FC.2.1 (29 + j) = (0, 16) := by
  rcases (show j = 0 ∨ j = 1 ∨ j = 2 ∨ j = 3 ∨ j = 4 ∨ j = 5 by omega) with rfl | rfl | rfl | rfl | rfl | rfl <;> rfl
theorem qC_29 : 29 < hg_FC.1 := by decide
theorem kC_29 : hg_FC.2.1 29 = (0, 16) := rfl
theorem qC_30 : 30 < hg_FC.1 := by decide
theorem kC_30 : hg_FC.2.1 30 = (0, 16) := rfl
theorem qC_31 : 31 < hg_FC.1 := by decide
theorem kC_31 : hg_FC.2.1 31 = (0, 16) := rfl
theorem qC_32 : 32 < hg_FC.1 := by decide
theorem kC_32 : hg_FC.2.1 32 = (0, 16) := rfl
theorem qC_33 : 33 < hg_FC.1 := by decide
theorem kC_33 : hg_FC.2.1 33 = (0, 16) := rfl
theorem qC_34 : 34 < hg_FC.1 := by decide
theorem kC_34 : hg_FC.2.1 34 = (0, 16) := rfl
theorem qC_35 : 35 < hg_FC.1 := by decide
theorem kC_35 : hg_FC.2.1 35 = (2, 6) := rfl
theorem QC_36 {j : Nat} (h : j < 6) : 36 + j < hg_FC.1 := by show _ < 57; omega
theorem KC_36 {j : Nat} (h : j < 6) : hg_FC.2.1 (36 + j) = (0, 16) := by
  rcases (show j = 0 ∨ j = 1 ∨ j = 2 ∨ j = 3 ∨ j = 4 ∨ j = 5 by omega) with rfl | rfl | rfl | rfl | rfl | rfl <;> rfl
theorem qC_36 : 36 < hg_FC.1 := by decide
theorem kC_36 : hg_FC.2.1 36 = (0, 16) := rfl
theorem qC_37 : 37 < hg_FC.1 := by decide
theorem kC_37 : hg_FC.2.1 37 = (0, 16) := rfl
theorem qC_38 : 38 < hg_FC.1 := by decide
theorem kC_38 : hg_FC.2.1 38 = (0, 16) := rfl
theorem qC_39 : 39 < hg_FC.1 := by decide
theorem kC_39 : hg_FC.2.1 39 = (0, 16) := rfl
theorem qC_40 : 40 < hg_FC.1 := by decide
theorem kC_40 : hg_FC.2.1 40 = (0, 16) := rfl
theorem qC_41 : 41 < hg_FC.1 := by decide
theorem kC_41 : hg_FC.2.1 41 = (0, 16) := rfl
theorem qC_42 : 42 < hg_FC.1 := by decide
theorem kC_42 : hg_FC.2.1 42 = (0 + 3, 7) := rfl
theorem qC_43 : 43 < hg_FC.1 := by decide
theorem kC_43 : hg_FC.2.1 43 = (2, 6) := rfl
theorem QC_44 {j : Nat} (h : j < 6) : 44 + j < hg_FC.1 := by show _ < 57; omega
theorem KC_44 {j : Nat} (h : j < 6) : hg_FC.2.1 (44 + j) = (0, 720) := by
  rcases (show j = 0 ∨ j = 1 ∨ j = 2 ∨ j = 3 ∨ j = 4 ∨ j = 5 by omega) with rfl | rfl | rfl | rfl | rfl | rfl <;> rfl
theorem qC_44 : 44 < hg_FC.1 := by decide
theorem kC_44 : hg_FC.2.1 44 = (0, 720) := rfl
theorem qC_45 : 45 < hg_FC.1 := by decide
theorem kC_45 : hg_FC.2.1 45 = (0, 720) := rfl
theorem qC_46 : 46 < hg_FC.1 := by decide
theorem kC_46 : hg_FC.2.1 46 = (0, 720) := rfl
theorem qC_47 : 47 < hg_FC.1 := by decide
theorem kC_47 : hg_FC.2.1 47 = (0, 720) := rfl
theorem qC_48 : 48 < hg_FC.1 := by decide
theorem kC_48 : hg_FC.2.1 48 = (0, 720) := rfl
theorem qC_49 : 49 < hg_FC.1 := by decide
theorem kC_49 : hg_FC.2.1 49 = (0, 720) := rfl
theorem qC_50 : 50 < hg_FC.1 := by decide
theorem kC_50 : hg_FC.2.1 50 = (1, 736) := rfl
theorem qC_51 : 51 < hg_FC.1 := by decide
theorem kC_51 : hg_FC.2.1 51 = (1, 720) := rfl
theorem qC_52 : 52 < hg_FC.1 := by decide
theorem kC_52 : hg_FC.2.1 52 = (0, 721) := rfl
theorem qC_53 : 53 < hg_FC.1 := by decide
theorem kC_53 : hg_FC.2.1 53 = (1 + 3, 7) := rfl
theorem qC_54 : 54 < hg_FC.1 := by decide
theorem kC_54 : hg_FC.2.1 54 = (0, 736) := rfl
theorem qC_55 : 55 < hg_FC.1 := by decide
theorem kC_55 : hg_FC.2.1 55 = (0, 32) := rfl
theorem qC_56 : 56 < hg_FC.1 := by decide
theorem kC_56 : hg_FC.2.1 56 = (0, 60) := rfl
theorem fC_0_0 : hg_FC.2.2 0 0 = true := rfl
theorem fC_0_1 : hg_FC.2.2 0 1 = false := rfl
theorem fC_0_2 : hg_FC.2.2 0 2 = false := rfl
theorem fC_0_3 : hg_FC.2.2 0 3 = false := rfl
theorem fC_0_4 : hg_FC.2.2 0 4 = true := rfl
theorem fC_0_5 : hg_FC.2.2 0 5 = true := rfl
theorem fC_0_6 : hg_FC.2.2 0 6 = true := rfl
theorem c_0 : vwCl[0]? = some (RX0, TX0, 7) := rfl
theorem fC_1_0 : hg_FC.2.2 1 0 = true := rfl
theorem fC_1_1 : hg_FC.2.2 1 1 = true := rfl
theorem fC_1_2 : hg_FC.2.2 1 2 = true := rfl
theorem fC_1_3 : hg_FC.2.2 1 3 = false := rfl
theorem fC_1_4 : hg_FC.2.2 1 4 = false := rfl
theorem fC_1_5 : hg_FC.2.2 1 5 = false := rfl
theorem fC_1_6 : hg_FC.2.2 1 6 = false := rfl
theorem c_1 : vwCl[1]? = some (RX1, TX1, 7) := rfl
theorem fC_2_0 : hg_FC.2.2 2 0 = true := rfl
theorem fC_2_1 : hg_FC.2.2 2 1 = true := rfl
theorem fC_2_2 : hg_FC.2.2 2 2 = true := rfl
theorem fC_2_3 : hg_FC.2.2 2 3 = true := rfl
theorem fC_2_4 : hg_FC.2.2 2 4 = true := rfl
theorem fC_2_5 : hg_FC.2.2 2 5 = false := rfl
theorem c_2 : vwCl[2]? = some (RX2, TX2, 6) := rfl
theorem fC_3_0 : hg_FC.2.2 3 0 = true := rfl
theorem fC_3_1 : hg_FC.2.2 3 1 = true := rfl
theorem fC_3_2 : hg_FC.2.2 3 2 = true := rfl
theorem fC_3_3 : hg_FC.2.2 3 3 = true := rfl
theorem fC_3_4 : hg_FC.2.2 3 4 = true := rfl
theorem fC_3_5 : hg_FC.2.2 3 5 = true := rfl
theorem fC_3_6 : hg_FC.2.2 3 6 = true := rfl
theorem fC_3_7 : hg_FC.2.2 3 7 = true := rfl
theorem fC_3_8 : hg_FC.2.2 3 8 = false := rfl
theorem c_3 : vwCl[3]? = some (RX3, TX3, 9) := rfl
theorem fC_4_0 : hg_FC.2.2 4 0 = true := rfl
theorem fC_4_1 : hg_FC.2.2 4 1 = false := rfl
theorem fC_4_2 : hg_FC.2.2 4 2 = true := rfl
theorem fC_4_3 : hg_FC.2.2 4 3 = true := rfl
theorem fC_4_4 : hg_FC.2.2 4 4 = true := rfl
theorem fC_4_5 : hg_FC.2.2 4 5 = false := rfl
theorem fC_4_6 : hg_FC.2.2 4 6 = false := rfl
theorem fC_4_7 : hg_FC.2.2 4 7 = false := rfl
theorem fC_4_8 : hg_FC.2.2 4 8 = false := rfl
theorem c_4 : vwCl[4]? = some (RX4, TX4, 9) := rfl
theorem fC_5_0 : hg_FC.2.2 5 0 = true := rfl
theorem fC_5_1 : hg_FC.2.2 5 1 = true := rfl
theorem fC_5_2 : hg_FC.2.2 5 2 = true := rfl
theorem fC_5_3 : hg_FC.2.2 5 3 = true := rfl
theorem fC_5_4 : hg_FC.2.2 5 4 = true := rfl
theorem fC_5_5 : hg_FC.2.2 5 5 = true := rfl
theorem fC_5_6 : hg_FC.2.2 5 6 = false := rfl
theorem fC_5_7 : hg_FC.2.2 5 7 = true := rfl
theorem c_5 : vwCl[5]? = some (RX5, TX5, 8) := rfl
theorem rC_0_0 : hg_rC 0 0 = 1 := rfl
theorem rC_0_1 : hg_rC 0 1 = 2 := rfl
theorem rC_3_0 : hg_rC 3 0 = 4 := rfl
theorem rC_3_3 : hg_rC 3 3 = 5 := rfl
theorem rC_3_4 : hg_rC 3 4 = 6 := rfl
theorem rC_7_0 : hg_rC 7 0 = 8 := rfl
theorem rC_7_1 : hg_rC 7 1 = 9 := rfl
theorem rC_7_2 : hg_rC 7 2 = 10 := rfl
theorem rC_7_3 : hg_rC 7 3 = 11 := rfl
theorem rC_7_4 : hg_rC 7 4 = 12 := rfl
theorem rC_7_5 : hg_rC 7 5 = 13 := rfl
theorem rC_7_6 : hg_rC 7 6 = 14 := rfl
theorem rC_7_7 : hg_rC 7 7 = 15 := rfl
theorem rC_3_2 : hg_rC 3 2 = 7 := rfl
theorem rC_0_2 : hg_rC 0 2 = 3 := rfl
theorem rC_16_0 : hg_rC 16 0 = 17 := rfl
theorem rC_16_1 : hg_rC 16 1 = 18 := rfl
theorem rC_16_2 : hg_rC 16 2 = 19 := rfl
theorem rC_16_3 : hg_rC 16 3 = 20 := rfl
theorem rC_16_4 : hg_rC 16 4 = 21 := rfl
theorem rC_16_5 : hg_rC 16 5 = 22 := rfl
theorem rC_16_6 : hg_rC 16 6 = 23 := rfl
theorem rC_16_7 : hg_rC 16 7 = 24 := rfl
theorem rC_0_3 : hg_rC 0 3 = 16 := rfl
theorem rC_25_1 : hg_rC 25 1 = 26 := rfl
theorem rC_25_2 : hg_rC 25 2 = 27 := rfl
theorem rC_25_3 : hg_rC 25 3 = 28 := rfl
theorem rC_25_4 : hg_rC 25 4 = 35 := rfl
theorem rC_42_0 : hg_rC 42 0 = 43 := rfl
theorem rC_42_4 : hg_rC 42 4 = 50 := rfl
theorem rC_42_5 : hg_rC 42 5 = 51 := rfl
theorem rC_42_6 : hg_rC 42 6 = 52 := rfl
theorem rC_25_0 : hg_rC 25 0 = 42 := rfl
theorem rC_0_4 : hg_rC 0 4 = 25 := rfl
theorem rC_0_5 : hg_rC 0 5 = 42 := rfl
theorem rC_53_0 : hg_rC 53 0 = 54 := rfl
theorem rC_53_1 : hg_rC 53 1 = 55 := rfl
theorem rC_53_2 : hg_rC 53 2 = 56 := rfl
theorem rC_0_7 : hg_rC 0 7 = 53 := rfl
/-! the family M: 29 cells -/
-- 0: x obj 45
-- 1: x.putVariable int 16
-- 2: x.putWord int 32
-- 3: x.tape int 600
-- 4: x.freshAt int 540
-- 5: x.told int 540
-- 6: x.freshFirst int 60
-- 7: x.freshSecond int 60
-- 8: x.firstEnd int 60
-- 9: x.secondEnd int 60
-- 10: x.openAt int 7
-- 11: x.openSecond bool 7
-- 12: x.step int 24000
-- 13: x.isConverted bool 60
-- 14: x.map int 16
-- 15: x.sideOf int 8
-- 16: x.isSecond bool 8
-- 17: x.isMoved bool 8
-- 18: x.sideTest int 8
-- 19: x.sideGuard int 8
-- 20: x.sideJump int 8
-- 21: x.mapBefore int 128
-- 22: x.mapFirst int 128
-- 23: x.isGone bool 4000
-- 24: x.left int 16
-- 25: x.kept int 32
-- 26: x.output int 60
-- 27: x.register int 4100
-- 28: x.tookFirst bool 60
def hg_KM : Nat → Nat × Nat := fun q => match q with
  | 0 => (9, 45)
  | 1 => (0, 16)
  | 2 => (0, 32)
  | 3 => (0, 600)
  | 4 => (0, 540)
  | 5 => (0, 540)
  | 6 => (0, 60)
  | 7 => (0, 60)
  | 8 => (0, 60)
  | 9 => (0, 60)
  | 10 => (0, 7)
  | 11 => (1, 7)
  | 12 => (0, 24000)
  | 13 => (1, 60)
  | 14 => (0, 16)
  | 15 => (0, 8)
  | 16 => (1, 8)
  | 17 => (1, 8)
  | 18 => (0, 8)
  | 19 => (0, 8)
  | 20 => (0, 8)
  | 21 => (0, 128)
  | 22 => (0, 128)
  | 23 => (1, 4000)
  | 24 => (0, 16)
  | 25 => (0, 32)
  | 26 => (0, 60)
  | 27 => (0, 4100)
  | 28 => (1, 60)
  | _ => (0, 0)
def hg_fM : Nat → Nat → Bool := fun c k => match c, k with
  | 6, 1 => true
  | 6, 2 => true
  | 6, 3 => true
  | 6, 10 => true
  | 6, 11 => true
  | 6, 12 => true
  | 6, 13 => true
  | 6, 14 => true
  | 6, 15 => true
  | 6, 16 => true
  | 6, 17 => true
  | 6, 19 => true
  | 6, 23 => true
  | 6, 25 => true
  | 6, 27 => true
  | 6, 28 => true
  | 6, 29 => true
  | 6, 30 => true
  | 6, 31 => true
  | 6, 32 => true
  | 6, 33 => true
  | 6, 34 => true
  | 6, 35 => true
  | 6, 36 => true
  | 6, 37 => true
  | 6, 38 => true
  | 6, 43 => true
  | 6, 44 => true
  | _, _ => false
def hg_FM : hg_F := (29, hg_KM, hg_fM)
def hg_rM : hg_R := fun q i => match q with
  | 0 => match i with
    | 1 => 1
    | 2 => 2
    | 3 => 3
    | 10 => 4
    | 11 => 5
    | 12 => 6
    | 13 => 7
    | 14 => 8
    | 15 => 9
    | 16 => 10
    | 17 => 11
    | 19 => 12
    | 23 => 13
    | 25 => 14
    | 27 => 15
    | 28 => 16
    | 29 => 17
    | 30 => 18
    | 31 => 19
    | 32 => 20
    | 33 => 21
    | 34 => 22
    | 35 => 23
    | 36 => 24
    | 37 => 25
    | 38 => 26
    | 43 => 27
    | 44 => 28
    | _ => 0
  | _ => 0
theorem qM_0 : 0 < hg_FM.1 := by decide
theorem kM_0 : hg_FM.2.1 0 = (6 + 3, 45) := rfl
theorem qM_1 : 1 < hg_FM.1 := by decide
theorem kM_1 : hg_FM.2.1 1 = (0, 16) := rfl
theorem qM_2 : 2 < hg_FM.1 := by decide
theorem kM_2 : hg_FM.2.1 2 = (0, 32) := rfl
theorem qM_3 : 3 < hg_FM.1 := by decide
theorem kM_3 : hg_FM.2.1 3 = (0, 600) := rfl
theorem qM_4 : 4 < hg_FM.1 := by decide
theorem kM_4 : hg_FM.2.1 4 = (0, 540) := rfl
theorem qM_5 : 5 < hg_FM.1 := by decide
theorem kM_5 : hg_FM.2.1 5 = (0, 540) := rfl
theorem qM_6 : 6 < hg_FM.1 := by decide
theorem kM_6 : hg_FM.2.1 6 = (0, 60) := rfl
theorem qM_7 : 7 < hg_FM.1 := by decide
theorem kM_7 : hg_FM.2.1 7 = (0, 60) := rfl
theorem qM_8 : 8 < hg_FM.1 := by decide
theorem kM_8 : hg_FM.2.1 8 = (0, 60) := rfl
theorem qM_9 : 9 < hg_FM.1 := by decide
theorem kM_9 : hg_FM.2.1 9 = (0, 60) := rfl
theorem qM_10 : 10 < hg_FM.1 := by decide
theorem kM_10 : hg_FM.2.1 10 = (0, 7) := rfl
theorem qM_11 : 11 < hg_FM.1 := by decide
theorem kM_11 : hg_FM.2.1 11 = (1, 7) := rfl
theorem qM_12 : 12 < hg_FM.1 := by decide
theorem kM_12 : hg_FM.2.1 12 = (0, 24000) := rfl
theorem qM_13 : 13 < hg_FM.1 := by decide
theorem kM_13 : hg_FM.2.1 13 = (1, 60) := rfl
theorem qM_14 : 14 < hg_FM.1 := by decide
theorem kM_14 : hg_FM.2.1 14 = (0, 16) := rfl
theorem qM_15 : 15 < hg_FM.1 := by decide
theorem kM_15 : hg_FM.2.1 15 = (0, 8) := rfl
theorem qM_16 : 16 < hg_FM.1 := by decide
theorem kM_16 : hg_FM.2.1 16 = (1, 8) := rfl
theorem qM_17 : 17 < hg_FM.1 := by decide
theorem kM_17 : hg_FM.2.1 17 = (1, 8) := rfl
theorem qM_18 : 18 < hg_FM.1 := by decide
theorem kM_18 : hg_FM.2.1 18 = (0, 8) := rfl
theorem qM_19 : 19 < hg_FM.1 := by decide
theorem kM_19 : hg_FM.2.1 19 = (0, 8) := rfl
theorem qM_20 : 20 < hg_FM.1 := by decide
theorem kM_20 : hg_FM.2.1 20 = (0, 8) := rfl
theorem qM_21 : 21 < hg_FM.1 := by decide
theorem kM_21 : hg_FM.2.1 21 = (0, 128) := rfl
theorem qM_22 : 22 < hg_FM.1 := by decide
theorem kM_22 : hg_FM.2.1 22 = (0, 128) := rfl
theorem qM_23 : 23 < hg_FM.1 := by decide
theorem kM_23 : hg_FM.2.1 23 = (1, 4000) := rfl
theorem qM_24 : 24 < hg_FM.1 := by decide
theorem kM_24 : hg_FM.2.1 24 = (0, 16) := rfl
theorem qM_25 : 25 < hg_FM.1 := by decide
theorem kM_25 : hg_FM.2.1 25 = (0, 32) := rfl
theorem qM_26 : 26 < hg_FM.1 := by decide
theorem kM_26 : hg_FM.2.1 26 = (0, 60) := rfl
theorem qM_27 : 27 < hg_FM.1 := by decide
theorem kM_27 : hg_FM.2.1 27 = (0, 4100) := rfl
theorem qM_28 : 28 < hg_FM.1 := by decide
theorem kM_28 : hg_FM.2.1 28 = (1, 60) := rfl
theorem fM_6_0 : hg_FM.2.2 6 0 = false := rfl
theorem fM_6_1 : hg_FM.2.2 6 1 = true := rfl
theorem fM_6_2 : hg_FM.2.2 6 2 = true := rfl
theorem fM_6_3 : hg_FM.2.2 6 3 = true := rfl
theorem fM_6_4 : hg_FM.2.2 6 4 = false := rfl
theorem fM_6_5 : hg_FM.2.2 6 5 = false := rfl
theorem fM_6_6 : hg_FM.2.2 6 6 = false := rfl
theorem fM_6_7 : hg_FM.2.2 6 7 = false := rfl
theorem fM_6_8 : hg_FM.2.2 6 8 = false := rfl
theorem fM_6_9 : hg_FM.2.2 6 9 = false := rfl
theorem fM_6_10 : hg_FM.2.2 6 10 = true := rfl
theorem fM_6_11 : hg_FM.2.2 6 11 = true := rfl
theorem fM_6_12 : hg_FM.2.2 6 12 = true := rfl
theorem fM_6_13 : hg_FM.2.2 6 13 = true := rfl
theorem fM_6_14 : hg_FM.2.2 6 14 = true := rfl
theorem fM_6_15 : hg_FM.2.2 6 15 = true := rfl
theorem fM_6_16 : hg_FM.2.2 6 16 = true := rfl
theorem fM_6_17 : hg_FM.2.2 6 17 = true := rfl
theorem fM_6_18 : hg_FM.2.2 6 18 = false := rfl
theorem fM_6_19 : hg_FM.2.2 6 19 = true := rfl
theorem fM_6_20 : hg_FM.2.2 6 20 = false := rfl
theorem fM_6_21 : hg_FM.2.2 6 21 = false := rfl
theorem fM_6_22 : hg_FM.2.2 6 22 = false := rfl
theorem fM_6_23 : hg_FM.2.2 6 23 = true := rfl
theorem fM_6_24 : hg_FM.2.2 6 24 = false := rfl
theorem fM_6_25 : hg_FM.2.2 6 25 = true := rfl
theorem fM_6_26 : hg_FM.2.2 6 26 = false := rfl
theorem fM_6_27 : hg_FM.2.2 6 27 = true := rfl
theorem fM_6_28 : hg_FM.2.2 6 28 = true := rfl
theorem fM_6_29 : hg_FM.2.2 6 29 = true := rfl
theorem fM_6_30 : hg_FM.2.2 6 30 = true := rfl
theorem fM_6_31 : hg_FM.2.2 6 31 = true := rfl
theorem fM_6_32 : hg_FM.2.2 6 32 = true := rfl
theorem fM_6_33 : hg_FM.2.2 6 33 = true := rfl
theorem fM_6_34 : hg_FM.2.2 6 34 = true := rfl
theorem fM_6_35 : hg_FM.2.2 6 35 = true := rfl
theorem fM_6_36 : hg_FM.2.2 6 36 = true := rfl
theorem fM_6_37 : hg_FM.2.2 6 37 = true := rfl
theorem fM_6_38 : hg_FM.2.2 6 38 = true := rfl
theorem fM_6_39 : hg_FM.2.2 6 39 = false := rfl
theorem fM_6_40 : hg_FM.2.2 6 40 = false := rfl
theorem fM_6_41 : hg_FM.2.2 6 41 = false := rfl
theorem fM_6_42 : hg_FM.2.2 6 42 = false := rfl
theorem fM_6_43 : hg_FM.2.2 6 43 = true := rfl
theorem fM_6_44 : hg_FM.2.2 6 44 = true := rfl
theorem c_6 : vwCl[6]? = some (RX6, TX6, 45) := rfl
theorem rM_0_1 : hg_rM 0 1 = 1 := rfl
theorem rM_0_2 : hg_rM 0 2 = 2 := rfl
theorem rM_0_3 : hg_rM 0 3 = 3 := rfl
theorem rM_0_10 : hg_rM 0 10 = 4 := rfl
theorem rM_0_11 : hg_rM 0 11 = 5 := rfl
theorem rM_0_12 : hg_rM 0 12 = 6 := rfl
theorem rM_0_13 : hg_rM 0 13 = 7 := rfl
theorem rM_0_14 : hg_rM 0 14 = 8 := rfl
theorem rM_0_15 : hg_rM 0 15 = 9 := rfl
theorem rM_0_16 : hg_rM 0 16 = 10 := rfl
theorem rM_0_17 : hg_rM 0 17 = 11 := rfl
theorem rM_0_19 : hg_rM 0 19 = 12 := rfl
theorem rM_0_23 : hg_rM 0 23 = 13 := rfl
theorem rM_0_25 : hg_rM 0 25 = 14 := rfl
theorem rM_0_27 : hg_rM 0 27 = 15 := rfl
theorem rM_0_28 : hg_rM 0 28 = 16 := rfl
theorem rM_0_29 : hg_rM 0 29 = 17 := rfl
theorem rM_0_30 : hg_rM 0 30 = 18 := rfl
theorem rM_0_31 : hg_rM 0 31 = 19 := rfl
theorem rM_0_32 : hg_rM 0 32 = 20 := rfl
theorem rM_0_33 : hg_rM 0 33 = 21 := rfl
theorem rM_0_34 : hg_rM 0 34 = 22 := rfl
theorem rM_0_35 : hg_rM 0 35 = 23 := rfl
theorem rM_0_36 : hg_rM 0 36 = 24 := rfl
theorem rM_0_37 : hg_rM 0 37 = 25 := rfl
theorem rM_0_38 : hg_rM 0 38 = 26 := rfl
theorem rM_0_43 : hg_rM 0 43 = 27 := rfl
theorem rM_0_44 : hg_rM 0 44 = 28 := rfl
