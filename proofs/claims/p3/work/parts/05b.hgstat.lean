/-! what stands of the start: the class's own static rows, its two strings (class-specific words) -/
def hg_t1 (j : Nat) : Int32 := [2, 2, 2, 2, 2, 2, 2, 2, 2, 2, 2, 2, 2, 2, 2, 1, 1, 1, 1].getD j 0
def hg_t2 (j : Nat) : Int32 := [1, 2, 3, 3, 3, 3, 3, 3, 3, 3, 3, 3, 3, 4, 2, 2, 0, 1, 1].getD j 0
def hg_len (i : Nat) : Nat := [8, 3].getD i 0
def hg_chr (i j : Nat) : Int32 := ([[43, 45, 42, 47, 37, 38, 124, 94], [61, 35, 60]].getD i []).getD j 0
abbrev hg_Zt : Type := Nat × Nat × (Nat → Nat) × (Nat → Nat)
def hg_str (i a v : Nat) (A : Nat → Prop) (U : State) (H : Heap) : Prop := va_O "java/lang/String" a A U H ∧ va_OF "java/lang/String" "coder" "B" (.int 0) a A U H ∧ va_OF "java/lang/String" "value" "[B" (.ref v) a A U H ∧ va_T .byte v (hg_len i) (fun j => .int (hg_chr i j)) A U H ∧ va_Z "java/lang/String" "COMPACT_STRINGS" "Z" (.int 1) A U H ∧ va_Zq "jdk/internal/util/Preconditions" "SIOOBE_FORMATTER" "Ljava/util/function/BiFunction;" A U H
def hg_St (z : hg_Zt) (A : Nat → Prop) (U : State) (H : Heap) : Prop := va_Z RX0 "FIRST_TAKEN" "[I" (.ref z.1) A U H ∧ va_T .int z.1 19 (fun j => .int (hg_t1 j)) A U H ∧ va_Z RX0 "LAST_TAKEN" "[I" (.ref z.2.1) A U H ∧ va_T .int z.2.1 19 (fun j => .int (hg_t2 j)) A U H ∧ (∀ i, i < 2 → hg_str i (z.2.2.1 i) (z.2.2.2 i) A U H) ∧ vk_R RX4 109 "+-*/%&|^" (z.2.2.1 0) U ∧ vk_R RX4 100 "=#<" (z.2.2.1 1) U
