abbrev zn : List String := ["java/lang/RuntimeException", "java/lang/Exception"]
def zL : List Cond := (vx_atS "GuardedMoves" 57 "java/lang/IndexOutOfBoundsException" zn).filter (fun w => !goodWord w)
theorem zz1 : zL.length = 0 := by decide +kernel
theorem zz2 : zL.length = 1 := by decide +kernel
theorem zz3 : zL.length = 2 := by decide +kernel
theorem zz4 : zL.all (fun w => match w with | .castable _ _ => true | _ => false) = true := by decide +kernel
theorem zz5 : zL.all (fun w => w.onTables) = true := by decide +kernel
theorem zz6 : (vx_atS "GuardedMoves" 57 "java/lang/IndexOutOfBoundsException" zn).all (fun w => decide (w ∈ lw_tbl) || !goodWord w) = true := by decide +kernel
