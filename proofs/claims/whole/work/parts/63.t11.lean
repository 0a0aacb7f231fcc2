theorem lw_t1 {w : Cond} (i : Nat) (h0 : tables_1_1[i]? = some w) : w ∈ lw_tbl := have h := List.mem_of_getElem? h0; List.mem_append_right _ (List.mem_append_left _ h)
theorem lw_t2 {w : Cond} (i : Nat) (h0 : tables_1_2[i]? = some w) : w ∈ lw_tbl := have h := List.mem_of_getElem? h0; List.mem_append_right _ (List.mem_append_right _ (List.mem_append_left _ h))
theorem lw_t3 {w : Cond} (i : Nat) (h0 : tables_1_3[i]? = some w) : w ∈ lw_tbl := have h := List.mem_of_getElem? h0; List.mem_append_right _ (List.mem_append_right _ (List.mem_append_right _ (List.mem_append_left _ h)))
theorem lw_t4 {w : Cond} (i : Nat) (h0 : tables_1_4[i]? = some w) : w ∈ lw_tbl := have h := List.mem_of_getElem? h0; List.mem_append_right _ (List.mem_append_right _ (List.mem_append_right _ (List.mem_append_right _ (List.mem_append_left _ h))))
theorem lw_t5 {w : Cond} (i : Nat) (h0 : tables_1_5[i]? = some w) : w ∈ lw_tbl := have h := List.mem_of_getElem? h0; List.mem_append_right _ (List.mem_append_right _ (List.mem_append_right _ (List.mem_append_right _ (List.mem_append_right _ (List.mem_append_left _ h)))))
theorem lw_t6 {w : Cond} (i : Nat) (h0 : tables_1_6[i]? = some w) : w ∈ lw_tbl := have h := List.mem_of_getElem? h0; List.mem_append_right _ (List.mem_append_right _ (List.mem_append_right _ (List.mem_append_right _ (List.mem_append_right _ (List.mem_append_right _ (List.mem_append_left _ h))))))
theorem lw_t7 {w : Cond} (i : Nat) (h0 : tables_1_7[i]? = some w) : w ∈ lw_tbl := have h := List.mem_of_getElem? h0; List.mem_append_right _ (List.mem_append_right _ (List.mem_append_right _ (List.mem_append_right _ (List.mem_append_right _ (List.mem_append_right _ (List.mem_append_right _ (List.mem_append_left _ h)))))))
theorem lw_t8 {w : Cond} (i : Nat) (h0 : tables_1_8[i]? = some w) : w ∈ lw_tbl := have h := List.mem_of_getElem? h0; List.mem_append_right _ (List.mem_append_right _ (List.mem_append_right _ (List.mem_append_right _ (List.mem_append_right _ (List.mem_append_right _ (List.mem_append_right _ (List.mem_append_right _ (List.mem_append_left _ h))))))))
theorem lw_t9 {w : Cond} (i : Nat) (h0 : tables_1_9[i]? = some w) : w ∈ lw_tbl := have h := List.mem_of_getElem? h0; List.mem_append_right _ (List.mem_append_right _ (List.mem_append_right _ (List.mem_append_right _ (List.mem_append_right _ (List.mem_append_right _ (List.mem_append_right _ (List.mem_append_right _ (List.mem_append_right _ h))))))))
def FLc : List Cond := flatC (Jvm.Cond.and given_1 narrow_1)
def PSc : List Nat := [5, 17, 24, 31, 45, 59]
def PTc : List Nat := [94, 102, 113, 124, 135, 146, 161, 176, 191, 248]
def PNc : List (List Nat) := [[0, 112, 122, 132, 142, 156, 170, 184, 240, 263], [0, 0, 123, 133, 143, 157, 171, 185, 241, 264], [0, 0, 0, 134, 144, 158, 172, 186, 242, 265], [0, 0, 0, 0, 145, 159, 173, 187, 243, 266], [0, 0, 0, 0, 0, 160, 174, 188, 244, 267], [0, 0, 0, 0, 0, 0, 175, 189, 245, 268], [0, 0, 0, 0, 0, 0, 0, 190, 246, 269], [0, 0, 0, 0, 0, 0, 0, 0, 247, 270], [0, 0, 0, 0, 0, 0, 0, 0, 0, 271], [0, 0, 0, 0, 0, 0, 0, 0, 0, 0]]
def tmS (i : Nat) : Term := match xtx[i]? with
  | some e => .string e.1 e.2.1
  | none => .null
set_option maxRecDepth 100000 in
theorem fl_a : ∀ i, i < 6 → ∀ e ∈ (xst[i]?).toList, FLc[PSc.getD i 0]? = some (.arrayOf (.static e.1 e.2.1 "[I") .int) ∧ FLc[PSc.getD i 0 + 1]? = some (.eq (.length (.static e.1 e.2.1 "[I")) (.int (Int32.ofNat e.2.2.length))) ∧ e.2.2.length < 100 ∧ ∀ j, j < e.2.2.length → FLc[PSc.getD i 0 + 2 + j]? = some (.eq (.elem (.static e.1 e.2.1 "[I") (.int (Int32.ofNat j))) (.int (e.2.2.getD j 0))) := by decide +kernel
set_option maxRecDepth 100000 in
theorem fl_x : ∀ i, i < 10 → FLc[PTc.getD i 0]? = some (.exactly (tmS i) "java/lang/String") ∧ FLc[PTc.getD i 0 + 1]? = some (.eq (.field (tmS i) "java/lang/String" "coder" "B") (.int 0)) ∧ FLc[PTc.getD i 0 + 2]? = some (.arrayOf (.field (tmS i) "java/lang/String" "value" "[B") .byte) ∧ FLc[PTc.getD i 0 + 3]? = some (.eq (.length (.field (tmS i) "java/lang/String" "value" "[B")) (.int (Int32.ofNat (xtl.getD i 0)))) ∧ xtl.getD i 0 < 100 ∧ ∀ j, j < xtl.getD i 0 → FLc[PTc.getD i 0 + 4 + j]? = some (.eq (.elem (.field (tmS i) "java/lang/String" "value" "[B") (.int (Int32.ofNat j))) (.int ((xtb.getD i []).getD j 0))) := by decide +kernel
set_option maxRecDepth 100000 in
theorem fl_n : ∀ i, i < 10 → ∀ j, j < 10 → i < j → FLc[(PNc.getD i []).getD j 0]? = some (.not (.eq (tmS i) (tmS j))) := by decide +kernel
set_option maxRecDepth 100000 in
theorem fl_c : FLc[11]? = some (.eq (.static "java/lang/String" "COMPACT_STRINGS" "Z") (.int 1)) := by decide +kernel
set_option maxRecDepth 100000 in
theorem fl_q : FLc[12]? = some (.isRef (.static "jdk/internal/util/Preconditions" "SIOOBE_FORMATTER" "Ljava/util/function/BiFunction;")) := by decide +kernel
set_option maxRecDepth 20000 in
theorem tb_s0 : Cond.laysStatic "ScribeBlocks$SignList" "UNTOLD" "[I" ∈ lw_tbl := (lw_t1 104 (by decide +kernel))
set_option maxRecDepth 20000 in
theorem tb_i0 : Cond.initialized "ScribeBlocks$SignList" ∈ lw_tbl := (lw_t1 3 (by decide +kernel))
set_option maxRecDepth 20000 in
theorem tb_s1 : Cond.laysStatic "ScribeBlocks$SignList" "LOWEST" "[I" ∈ lw_tbl := (lw_t4 0 (by decide +kernel))
set_option maxRecDepth 20000 in
theorem tb_i1 : Cond.initialized "ScribeBlocks$SignList" ∈ lw_tbl := (lw_t1 3 (by decide +kernel))
set_option maxRecDepth 20000 in
theorem tb_s2 : Cond.laysStatic "ScribeBlocks$SignList" "HIGHEST" "[I" ∈ lw_tbl := (lw_t4 2 (by decide +kernel))
set_option maxRecDepth 20000 in
theorem tb_i2 : Cond.initialized "ScribeBlocks$SignList" ∈ lw_tbl := (lw_t1 3 (by decide +kernel))
set_option maxRecDepth 20000 in
theorem tb_s3 : Cond.laysStatic "ScribeBlocks$Grouper" "SIGNS_OF" "[I" ∈ lw_tbl := (lw_t6 11 (by decide +kernel))
set_option maxRecDepth 20000 in
theorem tb_i3 : Cond.initialized "ScribeBlocks$Grouper" ∈ lw_tbl := (lw_t1 9 (by decide +kernel))
set_option maxRecDepth 20000 in
theorem tb_s4 : Cond.laysStatic "ScribeBlocks$Grouper" "IS_OVER" "[I" ∈ lw_tbl := (lw_t6 17 (by decide +kernel))
set_option maxRecDepth 20000 in
theorem tb_i4 : Cond.initialized "ScribeBlocks$Grouper" ∈ lw_tbl := (lw_t1 9 (by decide +kernel))
set_option maxRecDepth 20000 in
theorem tb_s5 : Cond.laysStatic "ScribeBlocks$Grouper" "PARTS" "[I" ∈ lw_tbl := (lw_t6 19 (by decide +kernel))
set_option maxRecDepth 20000 in
theorem tb_i5 : Cond.initialized "ScribeBlocks$Grouper" ∈ lw_tbl := (lw_t1 9 (by decide +kernel))
set_option maxRecDepth 20000 in
theorem tb_r0 : Cond.stringRef "ScribeBlocks$SignList" 65 "sign" ∈ lw_tbl := (lw_t3 133 (by decide +kernel))
set_option maxRecDepth 20000 in
theorem tb_r1 : Cond.stringRef "ScribeBlocks$SignList" 122 "sounds" ∈ lw_tbl := (lw_t3 205 (by decide +kernel))
set_option maxRecDepth 20000 in
theorem tb_r2 : Cond.stringRef "ScribeBlocks$SignList" 127 "means" ∈ lw_tbl := (lw_t3 218 (by decide +kernel))
set_option maxRecDepth 20000 in
theorem tb_r3 : Cond.stringRef "ScribeBlocks$SignList" 132 "kind" ∈ lw_tbl := (lw_t3 223 (by decide +kernel))
set_option maxRecDepth 20000 in
theorem tb_r4 : Cond.stringRef "ScribeBlocks$SignList" 102 "gap" ∈ lw_tbl := (lw_t3 235 (by decide +kernel))
set_option maxRecDepth 20000 in
theorem tb_r5 : Cond.stringRef "ScribeBlocks$SignList" 104 "square" ∈ lw_tbl := (lw_t3 236 (by decide +kernel))
set_option maxRecDepth 20000 in
theorem tb_r6 : Cond.stringRef "ScribeBlocks$SignList" 106 "least" ∈ lw_tbl := (lw_t3 237 (by decide +kernel))
set_option maxRecDepth 20000 in
theorem tb_r7 : Cond.stringRef "ScribeBlocks$SignList" 108 "echo" ∈ lw_tbl := (lw_t3 238 (by decide +kernel))
set_option maxRecDepth 20000 in
theorem tb_r8 : Cond.stringRef "ScribeBlocksModel" 242 "sign gap square least echo sounds means kind " ∈ lw_tbl := (lw_t8 54 (by decide +kernel))
set_option maxRecDepth 20000 in
theorem tb_r9 : Cond.stringRef "ScribeBlocksModel" 502 "12233333344" ∈ lw_tbl := (lw_t8 220 (by decide +kernel))
set_option maxRecDepth 20000 in
theorem tb_n0 : Cond.methodLinkNest "ScribeBlocks" 9 ⟨"ScribeBlocks$Tape","<init>","()V"⟩ "ScribeBlocks" ∈ lw_tbl := (lw_t1 31 (by decide +kernel))
set_option maxRecDepth 20000 in
theorem tb_n1 : Cond.methodLinkNest "ScribeBlocks" 46 ⟨"ScribeBlocks$Terms","<init>","()V"⟩ "ScribeBlocks" ∈ lw_tbl := (lw_t2 12 (by decide +kernel))
set_option maxRecDepth 20000 in
theorem tb_n2 : Cond.methodLinkNest "ScribeBlocks" 96 ⟨"ScribeBlocks$ValueBook","<init>","()V"⟩ "ScribeBlocks" ∈ lw_tbl := (lw_t3 9 (by decide +kernel))
set_option maxRecDepth 20000 in
theorem tb_n3 : Cond.methodLinkNest "ScribeBlocks$Blocks" 100 ⟨"ScribeBlocks","sizeOf","(II)I"⟩ "ScribeBlocks" ∈ lw_tbl := (lw_t4 138 (by decide +kernel))
set_option maxRecDepth 20000 in
theorem tb_n4 : Cond.methodLinkNest "ScribeBlocks$Blocks" 127 ⟨"ScribeBlocks","heightOf","(I)I"⟩ "ScribeBlocks" ∈ lw_tbl := (lw_t4 161 (by decide +kernel))
set_option maxRecDepth 20000 in
theorem tb_n5 : Cond.methodLinkNest "ScribeBlocks$Blocks" 130 ⟨"ScribeBlocks","widthOf","(I)I"⟩ "ScribeBlocks" ∈ lw_tbl := (lw_t4 165 (by decide +kernel))
set_option maxRecDepth 20000 in
theorem tb_n6 : Cond.methodLinkNest "ScribeBlocks$Blocks" 133 ⟨"ScribeBlocks","edgeOf","(I)I"⟩ "ScribeBlocks" ∈ lw_tbl := (lw_t4 207 (by decide +kernel))
set_option maxRecDepth 20000 in
theorem tb_n7 : Cond.methodLinkNest "ScribeBlocks$Speller" 71 ⟨"ScribeBlocks","soundAt","(II)I"⟩ "ScribeBlocks" ∈ lw_tbl := (lw_t5 69 (by decide +kernel))
set_option maxRecDepth 20000 in
theorem tb_n8 : Cond.methodLinkNest "ScribeBlocks$Chooser" 130 ⟨"ScribeBlocks","withSign","(JI)J"⟩ "ScribeBlocks" ∈ lw_tbl := (lw_t5 109 (by decide +kernel))
set_option maxRecDepth 20000 in
theorem tb_n9 : Cond.methodLinkNest "ScribeBlocks$Chooser" 90 ⟨"ScribeBlocks","signOf","(JII)I"⟩ "ScribeBlocks" ∈ lw_tbl := (lw_t5 128 (by decide +kernel))
set_option maxRecDepth 20000 in
theorem tb_n10 : Cond.methodLinkNest "ScribeBlocks$Chooser" 172 ⟨"ScribeBlocks$Speller","coversBehind","(III)I"⟩ "ScribeBlocks" ∈ lw_tbl := (lw_t6 88 (by decide +kernel))
set_option maxRecDepth 20000 in
theorem tb_c1 : Cond.laysStatic "java/lang/String" "COMPACT_STRINGS" "Z" ∈ lw_tbl := (lw_t3 147 (by decide +kernel))
set_option maxRecDepth 20000 in
theorem tb_c2 : Cond.initialized "java/lang/String" ∈ lw_tbl := (lw_t1 15 (by decide +kernel))
set_option maxRecDepth 20000 in
theorem tb_q1 : Cond.laysStatic "jdk/internal/util/Preconditions" "SIOOBE_FORMATTER" "Ljava/util/function/BiFunction;" ∈ lw_tbl := (lw_t3 163 (by decide +kernel))
set_option maxRecDepth 20000 in
theorem tb_q2 : Cond.initialized "jdk/internal/util/Preconditions" ∈ lw_tbl := (lw_t1 17 (by decide +kernel))
