-- java/lang/String.length()I
set_option maxRecDepth 20000 in
def mc_331 : mm_Code := [(0, 1, (2, 0, 0, 0, 0, .aload_n 0, [])), (1, 3, (10, 0, 0, 0, 0, .nop, [])), (4, 1, (3, 0, 0, 0, 0, .arraylength, [])), (5, 1, (2, 0, 0, 0, 0, .aload_n 0, [])), (6, 3, (15, 333, 1, 100, 0, .nop, [])), (9, 1, (0, 0, 0, 0, 0, .ishr, [])), (10, 1, (4, 0, 0, 0, 0, .ireturn, []))]
set_option maxRecDepth 20000 in
def mh_331 : List (Nat × Nat × Nat) := [(0, 0, 0), (9, 2319, 0), (0, 0, 0), (0, 0, 0), (335, 463, 465), (0, 0, 0), (0, 0, 0)]
set_option maxRecDepth 20000 in
def mt_331 : mm_M := (mc_331, 1, ⟨"java/lang/String", "length", "()I"⟩, prog_23_method_54_code, some .int, [])
-- java/lang/String.charAt(I)C
set_option maxRecDepth 20000 in
def mc_332 : mm_Code := [(0, 1, (2, 0, 0, 0, 0, .aload_n 0, [])), (1, 3, (15, 334, 1, 100, 0, .nop, [])), (4, 3, (1, 0, 0, 0, 0, .ifCond .eq 12, [])), (7, 1, (2, 0, 0, 0, 0, .aload_n 0, [])), (8, 3, (10, 0, 0, 0, 0, .nop, [])), (11, 1, (2, 0, 0, 0, 0, .iload_n 1, [])), (12, 3, (15, 336, 2, 0, 1, .nop, [])), (15, 1, (4, 2, 0, 0, 0, .ireturn, [])), (16, 1, (2, 0, 0, 0, 0, .aload_n 0, [])), (17, 3, (10, 0, 0, 0, 0, .nop, [])), (20, 1, (2, 0, 0, 0, 0, .iload_n 1, [])), (21, 3, (15, 339, 2, 0, 1, .nop, [])), (24, 1, (4, 2, 0, 0, 0, .ireturn, []))]
set_option maxRecDepth 20000 in
def mh_332 : List (Nat × Nat × Nat) := [(0, 0, 0), (492, 473, 475), (0, 0, 0), (0, 0, 0), (9, 2319, 0), (0, 0, 0), (495, 477, 0), (0, 0, 0), (0, 0, 0), (9, 2319, 0), (0, 0, 0), (498, 488, 0), (0, 0, 0)]
set_option maxRecDepth 20000 in
def mt_332 : mm_M := (mc_332, 2, ⟨"java/lang/String", "charAt", "(I)C"⟩, prog_23_method_56_code, some .char, [])
-- java/lang/String.coder()B
set_option maxRecDepth 20000 in
def mc_333 : mm_Code := [(0, 3, (9, 2, 0, 0, 0, .nop, [])), (3, 3, (1, 0, 0, 0, 0, .ifCond .eq 10, [])), (6, 1, (2, 0, 0, 0, 0, .aload_n 0, [])), (7, 3, (10, 1, 0, 0, 0, .nop, [])), (10, 3, (1, 0, 0, 0, 0, .goto 4, [])), (13, 1, (0, 0, 0, 0, 0, .iconst 1, [])), (14, 1, (4, 3, 0, 0, 0, .ireturn, []))]
set_option maxRecDepth 20000 in
def mh_333 : List (Nat × Nat × Nat) := [(38, 467, 0), (0, 0, 0), (0, 0, 0), (15, 2320, 0), (0, 0, 0), (0, 0, 0), (0, 0, 0)]
set_option maxRecDepth 20000 in
def mt_333 : mm_M := (mc_333, 1, ⟨"java/lang/String", "coder", "()B"⟩, prog_23_method_152_code, some .byte, [])
-- java/lang/String.isLatin1()Z
set_option maxRecDepth 20000 in
def mc_334 : mm_Code := [(0, 3, (9, 2, 0, 0, 0, .nop, [])), (3, 3, (1, 0, 0, 0, 0, .ifCond .eq 14, [])), (6, 1, (2, 0, 0, 0, 0, .aload_n 0, [])), (7, 3, (10, 1, 0, 0, 0, .nop, [])), (10, 3, (1, 0, 0, 0, 0, .ifCond .ne 7, [])), (13, 1, (0, 0, 0, 0, 0, .iconst 1, [])), (14, 3, (1, 0, 0, 0, 0, .goto 4, [])), (17, 1, (0, 0, 0, 0, 0, .iconst 0, [])), (18, 1, (4, 1, 0, 0, 0, .ireturn, []))]
set_option maxRecDepth 20000 in
def mh_334 : List (Nat × Nat × Nat) := [(38, 467, 0), (0, 0, 0), (0, 0, 0), (15, 2320, 0), (0, 0, 0), (0, 0, 0), (0, 0, 0), (0, 0, 0), (0, 0, 0)]
set_option maxRecDepth 20000 in
def mt_334 : mm_M := (mc_334, 1, ⟨"java/lang/String", "isLatin1", "()Z"⟩, prog_23_method_154_code, some .boolean, [])
-- java/lang/String.checkIndex(II)V
set_option maxRecDepth 20000 in
def mc_335 : mm_Code := [(0, 1, (2, 0, 0, 0, 0, .iload_n 0, [])), (1, 1, (2, 0, 0, 0, 0, .iload_n 1, [])), (2, 3, (9, 3, 0, 0, 0, .nop, [])), (5, 3, (15, 342, 3, 0, 1, .nop, [])), (8, 1, (0, 0, 0, 0, 0, .pop, [])), (9, 1, (4, 0, 0, 0, 0, .return_, []))]
set_option maxRecDepth 20000 in
def mh_335 : List (Nat × Nat × Nat) := [(0, 0, 0), (0, 0, 0), (1053, 483, 0), (1059, 485, 0), (0, 0, 0), (0, 0, 0)]
set_option maxRecDepth 20000 in
def mt_335 : mm_M := (mc_335, 2, ⟨"java/lang/String", "checkIndex", "(II)V"⟩, prog_23_method_155_code, none, [])
-- java/lang/StringLatin1.charAt([BI)C
set_option maxRecDepth 20000 in
def mc_336 : mm_Code := [(0, 1, (2, 0, 0, 0, 0, .iload_n 1, [])), (1, 1, (2, 0, 0, 0, 0, .aload_n 0, [])), (2, 1, (3, 0, 0, 0, 0, .arraylength, [])), (3, 3, (15, 335, 2, 0, 1, .nop, [])), (6, 1, (2, 0, 0, 0, 0, .aload_n 0, [])), (7, 1, (2, 0, 0, 0, 0, .iload_n 1, [])), (8, 1, (3, 0, 0, 0, 0, .baload, [])), (9, 3, (0, 0, 0, 0, 0, .sipush 255, [])), (12, 1, (0, 0, 0, 0, 0, .iand, [])), (13, 1, (0, 0, 0, 0, 0, .i2c, [])), (14, 1, (4, 2, 0, 0, 0, .ireturn, []))]
set_option maxRecDepth 20000 in
def mh_336 : List (Nat × Nat × Nat) := [(0, 0, 0), (0, 0, 0), (0, 0, 0), (9, 480, 0), (0, 0, 0), (0, 0, 0), (0, 0, 0), (0, 0, 0), (0, 0, 0), (0, 0, 0), (0, 0, 0)]
set_option maxRecDepth 20000 in
def mt_336 : mm_M := (mc_336, 2, ⟨"java/lang/StringLatin1", "charAt", "([BI)C"⟩, prog_24_method_2_code, some .char, [])
-- java/lang/StringUTF16.getChar([BI)C
set_option maxRecDepth 20000 in
def mc_337 : mm_Code := [(0, 3, (99, 0, 0, 0, 0, .nop, [])), (3, 3, (1, 0, 0, 0, 0, .ifCond .ne 25, [])), (6, 1, (2, 0, 0, 0, 0, .iload_n 1, [])), (7, 3, (1, 0, 0, 0, 0, .ifCond .lt 11, [])), (10, 1, (2, 0, 0, 0, 0, .iload_n 1, [])), (11, 1, (2, 0, 0, 0, 0, .aload_n 0, [])), (12, 3, (15, 338, 1, 0, 1, .nop, [])), (15, 3, (1, 0, 0, 0, 0, .if_icmp .lt 13, [])), (18, 3, (99, 0, 0, 0, 0, .nop, [])), (21, 1, (0, 0, 0, 0, 0, .dup, [])), (22, 2, (99, 0, 0, 0, 0, .nop, [])), (24, 3, (99, 0, 0, 0, 0, .nop, [])), (27, 1, (99, 0, 0, 0, 0, .nop, [])), (28, 1, (2, 0, 0, 0, 0, .iload_n 1, [])), (29, 1, (0, 0, 0, 0, 0, .iconst 1, [])), (30, 1, (0, 0, 0, 0, 0, .ishl, [])), (31, 1, (2, 0, 0, 0, 0, .istore_n 1, [])), (32, 1, (2, 0, 0, 0, 0, .aload_n 0, [])), (33, 1, (2, 0, 0, 0, 0, .iload_n 1, [])), (34, 3, (2, 0, 0, 0, 0, .iinc 1 1, [])), (37, 1, (3, 0, 0, 0, 0, .baload, [])), (38, 3, (0, 0, 0, 0, 0, .sipush 255, [])), (41, 1, (0, 0, 0, 0, 0, .iand, [])), (42, 3, (99, 0, 0, 0, 0, .nop, [])), (45, 1, (0, 0, 0, 0, 0, .ishl, [])), (46, 1, (2, 0, 0, 0, 0, .aload_n 0, [])), (47, 1, (2, 0, 0, 0, 0, .iload_n 1, [])), (48, 1, (3, 0, 0, 0, 0, .baload, [])), (49, 3, (0, 0, 0, 0, 0, .sipush 255, [])), (52, 1, (0, 0, 0, 0, 0, .iand, [])), (53, 3, (99, 0, 0, 0, 0, .nop, [])), (56, 1, (0, 0, 0, 0, 0, .ishl, [])), (57, 1, (0, 0, 0, 0, 0, .ior, [])), (58, 1, (0, 0, 0, 0, 0, .i2c, [])), (59, 1, (4, 2, 0, 0, 0, .ireturn, []))]
set_option maxRecDepth 20000 in
def mh_337 : List (Nat × Nat × Nat) := [(0, 0, 0), (0, 0, 0), (0, 0, 0), (0, 0, 0), (0, 0, 0), (0, 0, 0), (48, 494, 0), (0, 0, 0), (0, 0, 0), (0, 0, 0), (0, 0, 0), (0, 0, 0), (0, 0, 0), (0, 0, 0), (0, 0, 0), (0, 0, 0), (0, 0, 0), (0, 0, 0), (0, 0, 0), (0, 0, 0), (0, 0, 0), (0, 0, 0), (0, 0, 0), (0, 0, 0), (0, 0, 0), (0, 0, 0), (0, 0, 0), (0, 0, 0), (0, 0, 0), (0, 0, 0), (0, 0, 0), (0, 0, 0), (0, 0, 0), (0, 0, 0), (0, 0, 0)]
set_option maxRecDepth 20000 in
def mt_337 : mm_M := (mc_337, 2, ⟨"java/lang/StringUTF16", "getChar", "([BI)C"⟩, prog_25_method_5_code, some .char, [])
-- java/lang/StringUTF16.length([B)I
set_option maxRecDepth 20000 in
def mc_338 : mm_Code := [(0, 1, (2, 0, 0, 0, 0, .aload_n 0, [])), (1, 1, (3, 0, 0, 0, 0, .arraylength, [])), (2, 1, (0, 0, 0, 0, 0, .iconst 1, [])), (3, 1, (0, 0, 0, 0, 0, .ishr, [])), (4, 1, (4, 0, 0, 0, 0, .ireturn, []))]
set_option maxRecDepth 20000 in
def mh_338 : List (Nat × Nat × Nat) := [(0, 0, 0), (0, 0, 0), (0, 0, 0), (0, 0, 0), (0, 0, 0)]
set_option maxRecDepth 20000 in
def mt_338 : mm_M := (mc_338, 1, ⟨"java/lang/StringUTF16", "length", "([B)I"⟩, prog_25_method_6_code, some .int, [])
-- java/lang/StringUTF16.charAt([BI)C
set_option maxRecDepth 20000 in
def mc_339 : mm_Code := [(0, 1, (2, 0, 0, 0, 0, .iload_n 1, [])), (1, 1, (2, 0, 0, 0, 0, .aload_n 0, [])), (2, 3, (15, 340, 2, 0, 1, .nop, [])), (5, 1, (2, 0, 0, 0, 0, .aload_n 0, [])), (6, 1, (2, 0, 0, 0, 0, .iload_n 1, [])), (7, 3, (15, 337, 2, 0, 1, .nop, [])), (10, 1, (4, 2, 0, 0, 0, .ireturn, []))]
set_option maxRecDepth 20000 in
def mh_339 : List (Nat × Nat × Nat) := [(0, 0, 0), (0, 0, 0), (67, 491, 0), (0, 0, 0), (0, 0, 0), (71, 498, 0), (0, 0, 0)]
set_option maxRecDepth 20000 in
def mt_339 : mm_M := (mc_339, 2, ⟨"java/lang/StringUTF16", "charAt", "([BI)C"⟩, prog_25_method_83_code, some .char, [])
-- java/lang/StringUTF16.checkIndex(I[B)V
set_option maxRecDepth 20000 in
def mc_340 : mm_Code := [(0, 1, (2, 0, 0, 0, 0, .iload_n 0, [])), (1, 1, (2, 0, 0, 0, 0, .aload_n 1, [])), (2, 3, (15, 338, 1, 0, 1, .nop, [])), (5, 3, (15, 335, 2, 0, 1, .nop, [])), (8, 1, (4, 0, 0, 0, 0, .return_, []))]
set_option maxRecDepth 20000 in
def mh_340 : List (Nat × Nat × Nat) := [(0, 0, 0), (0, 0, 0), (48, 494, 0), (414, 497, 0), (0, 0, 0)]
set_option maxRecDepth 20000 in
def mt_340 : mm_M := (mc_340, 2, ⟨"java/lang/StringUTF16", "checkIndex", "(I[B)V"⟩, prog_25_method_91_code, none, [])
-- java/util/Arrays.fill([II)V
set_option maxRecDepth 20000 in
def mc_341 : mm_Code := [(0, 1, (0, 0, 0, 0, 0, .iconst 0, [])), (1, 1, (2, 0, 0, 0, 0, .istore_n 2, [])), (2, 1, (2, 0, 0, 0, 0, .aload_n 0, [])), (3, 1, (3, 0, 0, 0, 0, .arraylength, [])), (4, 1, (2, 0, 0, 0, 0, .istore_n 3, [])), (5, 1, (2, 0, 0, 0, 0, .iload_n 2, [])), (6, 1, (2, 0, 0, 0, 0, .iload_n 3, [])), (7, 3, (1, 0, 0, 0, 0, .if_icmp .ge 13, [])), (10, 1, (2, 0, 0, 0, 0, .aload_n 0, [])), (11, 1, (2, 0, 0, 0, 0, .iload_n 2, [])), (12, 1, (2, 0, 0, 0, 0, .iload_n 1, [])), (13, 1, (13, 0, 0, 0, 0, .iastore, [])), (14, 3, (2, 0, 0, 0, 0, .iinc 2 1, [])), (17, 3, (1, 0, 0, 0, 0, .goto (-12), [])), (20, 1, (4, 0, 0, 0, 0, .return_, []))]
set_option maxRecDepth 20000 in
def mh_341 : List (Nat × Nat × Nat) := [(0, 0, 0), (0, 0, 0), (0, 0, 0), (0, 0, 0), (0, 0, 0), (0, 0, 0), (0, 0, 0), (0, 0, 0), (0, 0, 0), (0, 0, 0), (0, 0, 0), (0, 0, 0), (0, 0, 0), (0, 0, 0), (0, 0, 0)]
set_option maxRecDepth 20000 in
def mt_341 : mm_M := (mc_341, 4, ⟨"java/util/Arrays", "fill", "([II)V"⟩, prog_30_method_103_code, none, [])
-- jdk/internal/util/Preconditions.checkIndex(IILjava/util/function/BiFunction;)I
set_option maxRecDepth 20000 in
def mc_342 : mm_Code := [(0, 1, (2, 0, 0, 0, 0, .iload_n 0, [])), (1, 3, (1, 0, 0, 0, 0, .ifCond .lt 8, [])), (4, 1, (2, 0, 0, 0, 0, .iload_n 0, [])), (5, 1, (2, 0, 0, 0, 0, .iload_n 1, [])), (6, 3, (1, 0, 0, 0, 0, .if_icmp .lt 10, [])), (9, 1, (2, 0, 0, 0, 0, .aload_n 2, [])), (10, 1, (2, 0, 0, 0, 0, .iload_n 0, [])), (11, 1, (2, 0, 0, 0, 0, .iload_n 1, [])), (12, 3, (99, 0, 0, 0, 0, .nop, [])), (15, 1, (99, 0, 0, 0, 0, .nop, [])), (16, 1, (2, 0, 0, 0, 0, .iload_n 0, [])), (17, 1, (4, 0, 0, 0, 0, .ireturn, []))]
set_option maxRecDepth 20000 in
def mh_342 : List (Nat × Nat × Nat) := [(0, 0, 0), (0, 0, 0), (0, 0, 0), (0, 0, 0), (0, 0, 0), (0, 0, 0), (0, 0, 0), (0, 0, 0), (0, 0, 0), (0, 0, 0), (0, 0, 0), (0, 0, 0)]
set_option maxRecDepth 20000 in
def mt_342 : mm_M := (mc_342, 3, ⟨"jdk/internal/util/Preconditions", "checkIndex", "(IILjava/util/function/BiFunction;)I"⟩, prog_32_method_11_code, some .int, [])
-- DecisionDiagramsLaw.append(LDecisionDiagrams;IIIII[J)I
set_option maxRecDepth 20000 in
def mc_343 : mm_Code := [(0, 2, (2, 0, 0, 0, 0, .aload 6, [])), (2, 1, (0, 0, 0, 0, 0, .iconst 0, [])), (3, 1, (2, 0, 0, 0, 0, .aload_n 0, [])), (4, 1, (2, 0, 0, 0, 0, .iload_n 1, [])), (5, 1, (2, 0, 0, 0, 0, .iload_n 2, [])), (6, 1, (2, 0, 0, 0, 0, .iload_n 3, [])), (7, 2, (2, 0, 0, 0, 0, .iload 4, [])), (9, 2, (2, 0, 0, 0, 0, .iload 5, [])), (11, 3, (15, 104, 6, 9, 0, .nop, [("java/lang/IllegalStateException", 19, 2, 7)])), (14, 1, (0, 0, 0, 0, 0, .i2l, [])), (15, 1, (13, 0, 0, 0, 0, .lastore, [])), (16, 3, (1, 0, 0, 0, 0, .goto 7, [])), (19, 2, (2, 0, 0, 0, 0, .astore 7, [])), (21, 1, (0, 0, 0, 0, 0, .iconst 1, [])), (22, 1, (4, 0, 0, 0, 0, .ireturn, [])), (23, 1, (0, 0, 0, 0, 0, .iconst 0, [])), (24, 1, (4, 0, 0, 0, 0, .ireturn, []))]
set_option maxRecDepth 20000 in
def mh_343 : List (Nat × Nat × Nat) := [(0, 0, 0), (0, 0, 0), (0, 0, 0), (0, 0, 0), (0, 0, 0), (0, 0, 0), (0, 0, 0), (0, 0, 0), (7, 924, 926), (0, 0, 0), (0, 0, 0), (0, 0, 0), (0, 0, 0), (0, 0, 0), (0, 0, 0), (0, 0, 0), (0, 0, 0)]
set_option maxRecDepth 20000 in
def mt_343 : mm_M := (mc_343, 8, ⟨"DecisionDiagramsLaw", "append", "(LDecisionDiagrams;IIIII[J)I"⟩, method_3_code, some .int, [(0, 16, 19, 13)])
-- DecisionDiagramsLaw.truncate(LDecisionDiagrams;I[J)I
set_option maxRecDepth 20000 in
def mc_344 : mm_Code := [(0, 1, (2, 0, 0, 0, 0, .aload_n 2, [])), (1, 1, (0, 0, 0, 0, 0, .iconst 0, [])), (2, 1, (2, 0, 0, 0, 0, .aload_n 0, [])), (3, 1, (2, 0, 0, 0, 0, .iload_n 1, [])), (4, 3, (15, 105, 2, 9, 0, .nop, [("java/lang/IllegalArgumentException", 12, 1, 3)])), (7, 1, (0, 0, 0, 0, 0, .i2l, [])), (8, 1, (13, 0, 0, 0, 0, .lastore, [])), (9, 3, (1, 0, 0, 0, 0, .goto 6, [])), (12, 1, (2, 0, 0, 0, 0, .astore_n 3, [])), (13, 1, (0, 0, 0, 0, 0, .iconst 1, [])), (14, 1, (4, 0, 0, 0, 0, .ireturn, [])), (15, 1, (0, 0, 0, 0, 0, .iconst 0, [])), (16, 1, (4, 0, 0, 0, 0, .ireturn, []))]
set_option maxRecDepth 20000 in
def mh_344 : List (Nat × Nat × Nat) := [(0, 0, 0), (0, 0, 0), (0, 0, 0), (0, 0, 0), (15, 952, 954), (0, 0, 0), (0, 0, 0), (0, 0, 0), (0, 0, 0), (0, 0, 0), (0, 0, 0), (0, 0, 0), (0, 0, 0)]
set_option maxRecDepth 20000 in
def mt_344 : mm_M := (mc_344, 4, ⟨"DecisionDiagramsLaw", "truncate", "(LDecisionDiagrams;I[J)I"⟩, method_4_code, some .int, [(0, 9, 12, 19)])
-- DecisionDiagramsLaw.load(LDecisionDiagrams;[J)I
set_option maxRecDepth 20000 in
def mc_345 : mm_Code := [(0, 1, (2, 0, 0, 0, 0, .aload_n 1, [])), (1, 1, (0, 0, 0, 0, 0, .iconst 0, [])), (2, 1, (2, 0, 0, 0, 0, .aload_n 0, [])), (3, 3, (15, 106, 1, 9, 0, .nop, [("java/lang/IllegalArgumentException", 11, 1, 2)])), (6, 1, (0, 0, 0, 0, 0, .i2l, [])), (7, 1, (13, 0, 0, 0, 0, .lastore, [])), (8, 3, (1, 0, 0, 0, 0, .goto 6, [])), (11, 1, (2, 0, 0, 0, 0, .astore_n 2, [])), (12, 1, (0, 0, 0, 0, 0, .iconst 1, [])), (13, 1, (4, 0, 0, 0, 0, .ireturn, [])), (14, 1, (0, 0, 0, 0, 0, .iconst 0, [])), (15, 1, (4, 0, 0, 0, 0, .ireturn, []))]
set_option maxRecDepth 20000 in
def mh_345 : List (Nat × Nat × Nat) := [(0, 0, 0), (0, 0, 0), (0, 0, 0), (21, 962, 964), (0, 0, 0), (0, 0, 0), (0, 0, 0), (0, 0, 0), (0, 0, 0), (0, 0, 0), (0, 0, 0), (0, 0, 0)]
set_option maxRecDepth 20000 in
def mt_345 : mm_M := (mc_345, 3, ⟨"DecisionDiagramsLaw", "load", "(LDecisionDiagrams;[J)I"⟩, method_5_code, some .int, [(0, 8, 11, 19)])
-- DecisionDiagramsLaw.count(LDecisionDiagrams;I[J)I
set_option maxRecDepth 20000 in
def mc_346 : mm_Code := [(0, 1, (2, 0, 0, 0, 0, .aload_n 2, [])), (1, 1, (0, 0, 0, 0, 0, .iconst 0, [])), (2, 1, (2, 0, 0, 0, 0, .aload_n 0, [])), (3, 1, (2, 0, 0, 0, 0, .iload_n 1, [])), (4, 3, (15, 109, 2, 9, 0, .nop, [("java/lang/IllegalArgumentException", 12, 1, 3)])), (7, 1, (0, 0, 0, 0, 0, .i2l, [])), (8, 1, (13, 0, 0, 0, 0, .lastore, [])), (9, 3, (1, 0, 0, 0, 0, .goto 6, [])), (12, 1, (2, 0, 0, 0, 0, .astore_n 3, [])), (13, 1, (0, 0, 0, 0, 0, .iconst 1, [])), (14, 1, (4, 0, 0, 0, 0, .ireturn, [])), (15, 1, (0, 0, 0, 0, 0, .iconst 0, [])), (16, 1, (4, 0, 0, 0, 0, .ireturn, []))]
set_option maxRecDepth 20000 in
def mh_346 : List (Nat × Nat × Nat) := [(0, 0, 0), (0, 0, 0), (0, 0, 0), (0, 0, 0), (25, 982, 984), (0, 0, 0), (0, 0, 0), (0, 0, 0), (0, 0, 0), (0, 0, 0), (0, 0, 0), (0, 0, 0), (0, 0, 0)]
set_option maxRecDepth 20000 in
def mt_346 : mm_M := (mc_346, 4, ⟨"DecisionDiagramsLaw", "count", "(LDecisionDiagrams;I[J)I"⟩, method_6_code, some .int, [(0, 9, 12, 19)])
-- DecisionDiagramsLaw.variable(LDecisionDiagrams;II[J)I
set_option maxRecDepth 20000 in
def mc_347 : mm_Code := [(0, 1, (2, 0, 0, 0, 0, .aload_n 3, [])), (1, 1, (0, 0, 0, 0, 0, .iconst 0, [])), (2, 1, (2, 0, 0, 0, 0, .aload_n 0, [])), (3, 1, (2, 0, 0, 0, 0, .iload_n 1, [])), (4, 1, (2, 0, 0, 0, 0, .iload_n 2, [])), (5, 3, (15, 110, 3, 9, 0, .nop, [("java/lang/IndexOutOfBoundsException", 13, 2, 4), ("java/lang/IllegalArgumentException", 17, 2, 4)])), (8, 1, (0, 0, 0, 0, 0, .i2l, [])), (9, 1, (13, 0, 0, 0, 0, .lastore, [])), (10, 3, (1, 0, 0, 0, 0, .goto 11, [])), (13, 2, (2, 0, 0, 0, 0, .astore 4, [])), (15, 1, (0, 0, 0, 0, 0, .iconst 1, [])), (16, 1, (4, 0, 0, 0, 0, .ireturn, [])), (17, 2, (2, 0, 0, 0, 0, .astore 4, [])), (19, 1, (0, 0, 0, 0, 0, .iconst 2, [])), (20, 1, (4, 0, 0, 0, 0, .ireturn, [])), (21, 1, (0, 0, 0, 0, 0, .iconst 0, [])), (22, 1, (4, 0, 0, 0, 0, .ireturn, []))]
set_option maxRecDepth 20000 in
def mh_347 : List (Nat × Nat × Nat) := [(0, 0, 0), (0, 0, 0), (0, 0, 0), (0, 0, 0), (0, 0, 0), (28, 1014, 1016), (0, 0, 0), (0, 0, 0), (0, 0, 0), (0, 0, 0), (0, 0, 0), (0, 0, 0), (0, 0, 0), (0, 0, 0), (0, 0, 0), (0, 0, 0), (0, 0, 0)]
set_option maxRecDepth 20000 in
def mt_347 : mm_M := (mc_347, 5, ⟨"DecisionDiagramsLaw", "variable", "(LDecisionDiagrams;II[J)I"⟩, method_7_code, some .int, [(0, 10, 13, 32), (0, 10, 17, 19)])
-- DecisionDiagramsLaw.variableAt(LDecisionDiagrams;I[J)I
set_option maxRecDepth 20000 in
def mc_348 : mm_Code := [(0, 1, (2, 0, 0, 0, 0, .aload_n 2, [])), (1, 1, (0, 0, 0, 0, 0, .iconst 0, [])), (2, 1, (2, 0, 0, 0, 0, .aload_n 0, [])), (3, 1, (2, 0, 0, 0, 0, .iload_n 1, [])), (4, 3, (15, 111, 2, 9, 0, .nop, [("java/lang/IndexOutOfBoundsException", 12, 1, 3)])), (7, 1, (0, 0, 0, 0, 0, .i2l, [])), (8, 1, (13, 0, 0, 0, 0, .lastore, [])), (9, 3, (1, 0, 0, 0, 0, .goto 6, [])), (12, 1, (2, 0, 0, 0, 0, .astore_n 3, [])), (13, 1, (0, 0, 0, 0, 0, .iconst 1, [])), (14, 1, (4, 0, 0, 0, 0, .ireturn, [])), (15, 1, (0, 0, 0, 0, 0, .iconst 0, [])), (16, 1, (4, 0, 0, 0, 0, .ireturn, []))]
set_option maxRecDepth 20000 in
def mh_348 : List (Nat × Nat × Nat) := [(0, 0, 0), (0, 0, 0), (0, 0, 0), (0, 0, 0), (34, 1051, 1053), (0, 0, 0), (0, 0, 0), (0, 0, 0), (0, 0, 0), (0, 0, 0), (0, 0, 0), (0, 0, 0), (0, 0, 0)]
set_option maxRecDepth 20000 in
def mt_348 : mm_M := (mc_348, 4, ⟨"DecisionDiagramsLaw", "variableAt", "(LDecisionDiagrams;I[J)I"⟩, method_8_code, some .int, [(0, 9, 12, 32)])
-- DecisionDiagramsLaw.function(LDecisionDiagrams;II[J)I
set_option maxRecDepth 20000 in
def mc_349 : mm_Code := [(0, 1, (2, 0, 0, 0, 0, .aload_n 3, [])), (1, 1, (0, 0, 0, 0, 0, .iconst 0, [])), (2, 1, (2, 0, 0, 0, 0, .aload_n 0, [])), (3, 1, (2, 0, 0, 0, 0, .iload_n 1, [])), (4, 1, (2, 0, 0, 0, 0, .iload_n 2, [])), (5, 3, (15, 112, 3, 9, 0, .nop, [("java/lang/IndexOutOfBoundsException", 13, 2, 4), ("java/lang/IllegalArgumentException", 17, 2, 4)])), (8, 1, (0, 0, 0, 0, 0, .i2l, [])), (9, 1, (13, 0, 0, 0, 0, .lastore, [])), (10, 3, (1, 0, 0, 0, 0, .goto 11, [])), (13, 2, (2, 0, 0, 0, 0, .astore 4, [])), (15, 1, (0, 0, 0, 0, 0, .iconst 1, [])), (16, 1, (4, 0, 0, 0, 0, .ireturn, [])), (17, 2, (2, 0, 0, 0, 0, .astore 4, [])), (19, 1, (0, 0, 0, 0, 0, .iconst 2, [])), (20, 1, (4, 0, 0, 0, 0, .ireturn, [])), (21, 1, (0, 0, 0, 0, 0, .iconst 0, [])), (22, 1, (4, 0, 0, 0, 0, .ireturn, []))]
set_option maxRecDepth 20000 in
def mh_349 : List (Nat × Nat × Nat) := [(0, 0, 0), (0, 0, 0), (0, 0, 0), (0, 0, 0), (0, 0, 0), (37, 1063, 1065), (0, 0, 0), (0, 0, 0), (0, 0, 0), (0, 0, 0), (0, 0, 0), (0, 0, 0), (0, 0, 0), (0, 0, 0), (0, 0, 0), (0, 0, 0), (0, 0, 0)]
set_option maxRecDepth 20000 in
def mt_349 : mm_M := (mc_349, 5, ⟨"DecisionDiagramsLaw", "function", "(LDecisionDiagrams;II[J)I"⟩, method_9_code, some .int, [(0, 10, 13, 32), (0, 10, 17, 19)])
-- DecisionDiagramsLaw.find(LDecisionDiagrams;[J)I
set_option maxRecDepth 20000 in
def mc_350 : mm_Code := [(0, 1, (2, 0, 0, 0, 0, .aload_n 1, [])), (1, 1, (0, 0, 0, 0, 0, .iconst 0, [])), (2, 1, (2, 0, 0, 0, 0, .aload_n 0, [])), (3, 3, (15, 113, 1, 9, 0, .nop, [("java/util/NoSuchElementException", 11, 1, 2)])), (6, 1, (0, 0, 0, 0, 0, .i2l, [])), (7, 1, (13, 0, 0, 0, 0, .lastore, [])), (8, 3, (1, 0, 0, 0, 0, .goto 6, [])), (11, 1, (2, 0, 0, 0, 0, .astore_n 2, [])), (12, 1, (0, 0, 0, 0, 0, .iconst 1, [])), (13, 1, (4, 0, 0, 0, 0, .ireturn, [])), (14, 1, (0, 0, 0, 0, 0, .iconst 0, [])), (15, 1, (4, 0, 0, 0, 0, .ireturn, []))]
set_option maxRecDepth 20000 in
def mh_350 : List (Nat × Nat × Nat) := [(0, 0, 0), (0, 0, 0), (0, 0, 0), (40, 1099, 1101), (0, 0, 0), (0, 0, 0), (0, 0, 0), (0, 0, 0), (0, 0, 0), (0, 0, 0), (0, 0, 0), (0, 0, 0)]
set_option maxRecDepth 20000 in
def mt_350 : mm_M := (mc_350, 3, ⟨"DecisionDiagramsLaw", "find", "(LDecisionDiagrams;[J)I"⟩, method_10_code, some .int, [(0, 8, 11, 43)])
-- DecisionDiagramsLaw.node(LDecisionDiagrams;II[J)I
set_option maxRecDepth 20000 in
def mc_351 : mm_Code := [(0, 1, (2, 0, 0, 0, 0, .aload_n 3, [])), (1, 1, (0, 0, 0, 0, 0, .iconst 0, [])), (2, 1, (2, 0, 0, 0, 0, .aload_n 0, [])), (3, 1, (2, 0, 0, 0, 0, .iload_n 1, [])), (4, 1, (2, 0, 0, 0, 0, .iload_n 2, [])), (5, 3, (15, 114, 3, 9, 0, .nop, [("java/lang/IndexOutOfBoundsException", 13, 2, 4), ("java/lang/IllegalArgumentException", 17, 2, 4)])), (8, 1, (0, 0, 0, 0, 0, .i2l, [])), (9, 1, (13, 0, 0, 0, 0, .lastore, [])), (10, 3, (1, 0, 0, 0, 0, .goto 11, [])), (13, 2, (2, 0, 0, 0, 0, .astore 4, [])), (15, 1, (0, 0, 0, 0, 0, .iconst 1, [])), (16, 1, (4, 0, 0, 0, 0, .ireturn, [])), (17, 2, (2, 0, 0, 0, 0, .astore 4, [])), (19, 1, (0, 0, 0, 0, 0, .iconst 2, [])), (20, 1, (4, 0, 0, 0, 0, .ireturn, [])), (21, 1, (0, 0, 0, 0, 0, .iconst 0, [])), (22, 1, (4, 0, 0, 0, 0, .ireturn, []))]
set_option maxRecDepth 20000 in
def mh_351 : List (Nat × Nat × Nat) := [(0, 0, 0), (0, 0, 0), (0, 0, 0), (0, 0, 0), (0, 0, 0), (45, 1127, 1129), (0, 0, 0), (0, 0, 0), (0, 0, 0), (0, 0, 0), (0, 0, 0), (0, 0, 0), (0, 0, 0), (0, 0, 0), (0, 0, 0), (0, 0, 0), (0, 0, 0)]
set_option maxRecDepth 20000 in
def mt_351 : mm_M := (mc_351, 5, ⟨"DecisionDiagramsLaw", "node", "(LDecisionDiagrams;II[J)I"⟩, method_11_code, some .int, [(0, 10, 13, 32), (0, 10, 17, 19)])
-- DecisionDiagramsLaw.value(LDecisionDiagrams;II[J)I
set_option maxRecDepth 20000 in
def mc_352 : mm_Code := [(0, 1, (2, 0, 0, 0, 0, .aload_n 3, [])), (1, 1, (0, 0, 0, 0, 0, .iconst 0, [])), (2, 1, (2, 0, 0, 0, 0, .aload_n 0, [])), (3, 1, (2, 0, 0, 0, 0, .iload_n 1, [])), (4, 1, (2, 0, 0, 0, 0, .iload_n 2, [])), (5, 3, (15, 115, 3, 9, 0, .nop, [("java/lang/IndexOutOfBoundsException", 13, 2, 4), ("java/lang/IllegalArgumentException", 17, 2, 4)])), (8, 1, (0, 0, 0, 0, 0, .i2l, [])), (9, 1, (13, 0, 0, 0, 0, .lastore, [])), (10, 3, (1, 0, 0, 0, 0, .goto 11, [])), (13, 2, (2, 0, 0, 0, 0, .astore 4, [])), (15, 1, (0, 0, 0, 0, 0, .iconst 1, [])), (16, 1, (4, 0, 0, 0, 0, .ireturn, [])), (17, 2, (2, 0, 0, 0, 0, .astore 4, [])), (19, 1, (0, 0, 0, 0, 0, .iconst 2, [])), (20, 1, (4, 0, 0, 0, 0, .ireturn, [])), (21, 1, (0, 0, 0, 0, 0, .iconst 0, [])), (22, 1, (4, 0, 0, 0, 0, .ireturn, []))]
set_option maxRecDepth 20000 in
def mh_352 : List (Nat × Nat × Nat) := [(0, 0, 0), (0, 0, 0), (0, 0, 0), (0, 0, 0), (0, 0, 0), (48, 1148, 1150), (0, 0, 0), (0, 0, 0), (0, 0, 0), (0, 0, 0), (0, 0, 0), (0, 0, 0), (0, 0, 0), (0, 0, 0), (0, 0, 0), (0, 0, 0), (0, 0, 0)]
set_option maxRecDepth 20000 in
def mt_352 : mm_M := (mc_352, 5, ⟨"DecisionDiagramsLaw", "value", "(LDecisionDiagrams;II[J)I"⟩, method_12_code, some .int, [(0, 10, 13, 32), (0, 10, 17, 19)])
-- DecisionDiagramsLaw.model(LDecisionDiagrams;II[J)I
set_option maxRecDepth 20000 in
def mc_353 : mm_Code := [(0, 1, (2, 0, 0, 0, 0, .aload_n 3, [])), (1, 1, (0, 0, 0, 0, 0, .iconst 0, [])), (2, 1, (2, 0, 0, 0, 0, .aload_n 0, [])), (3, 1, (2, 0, 0, 0, 0, .iload_n 1, [])), (4, 1, (2, 0, 0, 0, 0, .iload_n 2, [])), (5, 3, (15, 116, 3, 9, 0, .nop, [("java/lang/IndexOutOfBoundsException", 13, 2, 4), ("java/util/NoSuchElementException", 17, 2, 4)])), (8, 1, (0, 0, 0, 0, 0, .i2l, [])), (9, 1, (13, 0, 0, 0, 0, .lastore, [])), (10, 3, (1, 0, 0, 0, 0, .goto 11, [])), (13, 2, (2, 0, 0, 0, 0, .astore 4, [])), (15, 1, (0, 0, 0, 0, 0, .iconst 1, [])), (16, 1, (4, 0, 0, 0, 0, .ireturn, [])), (17, 2, (2, 0, 0, 0, 0, .astore 4, [])), (19, 1, (0, 0, 0, 0, 0, .iconst 2, [])), (20, 1, (4, 0, 0, 0, 0, .ireturn, [])), (21, 1, (0, 0, 0, 0, 0, .iconst 0, [])), (22, 1, (4, 0, 0, 0, 0, .ireturn, []))]
set_option maxRecDepth 20000 in
def mh_353 : List (Nat × Nat × Nat) := [(0, 0, 0), (0, 0, 0), (0, 0, 0), (0, 0, 0), (0, 0, 0), (51, 1158, 1160), (0, 0, 0), (0, 0, 0), (0, 0, 0), (0, 0, 0), (0, 0, 0), (0, 0, 0), (0, 0, 0), (0, 0, 0), (0, 0, 0), (0, 0, 0), (0, 0, 0)]
set_option maxRecDepth 20000 in
def mt_353 : mm_M := (mc_353, 5, ⟨"DecisionDiagramsLaw", "model", "(LDecisionDiagrams;II[J)I"⟩, method_13_code, some .int, [(0, 10, 13, 32), (0, 10, 17, 43)])
-- DecisionDiagramsLaw.support(LDecisionDiagrams;I[J)I
set_option maxRecDepth 20000 in
def mc_354 : mm_Code := [(0, 1, (2, 0, 0, 0, 0, .aload_n 2, [])), (1, 1, (0, 0, 0, 0, 0, .iconst 0, [])), (2, 1, (2, 0, 0, 0, 0, .aload_n 0, [])), (3, 1, (2, 0, 0, 0, 0, .iload_n 1, [])), (4, 3, (15, 117, 2, 9, 0, .nop, [("java/lang/IndexOutOfBoundsException", 12, 1, 3)])), (7, 1, (0, 0, 0, 0, 0, .i2l, [])), (8, 1, (13, 0, 0, 0, 0, .lastore, [])), (9, 3, (1, 0, 0, 0, 0, .goto 6, [])), (12, 1, (2, 0, 0, 0, 0, .astore_n 3, [])), (13, 1, (0, 0, 0, 0, 0, .iconst 1, [])), (14, 1, (4, 0, 0, 0, 0, .ireturn, [])), (15, 1, (0, 0, 0, 0, 0, .iconst 0, [])), (16, 1, (4, 0, 0, 0, 0, .ireturn, []))]
set_option maxRecDepth 20000 in
def mh_354 : List (Nat × Nat × Nat) := [(0, 0, 0), (0, 0, 0), (0, 0, 0), (0, 0, 0), (54, 1170, 1172), (0, 0, 0), (0, 0, 0), (0, 0, 0), (0, 0, 0), (0, 0, 0), (0, 0, 0), (0, 0, 0), (0, 0, 0)]
set_option maxRecDepth 20000 in
def mt_354 : mm_M := (mc_354, 4, ⟨"DecisionDiagramsLaw", "support", "(LDecisionDiagrams;I[J)I"⟩, method_14_code, some .int, [(0, 9, 12, 32)])
-- DecisionDiagramsLaw.polarity(LDecisionDiagrams;II[J)I
set_option maxRecDepth 20000 in
def mc_355 : mm_Code := [(0, 1, (2, 0, 0, 0, 0, .aload_n 3, [])), (1, 1, (0, 0, 0, 0, 0, .iconst 0, [])), (2, 1, (2, 0, 0, 0, 0, .aload_n 0, [])), (3, 1, (2, 0, 0, 0, 0, .iload_n 1, [])), (4, 1, (2, 0, 0, 0, 0, .iload_n 2, [])), (5, 3, (15, 118, 3, 9, 0, .nop, [("java/lang/IndexOutOfBoundsException", 13, 2, 4)])), (8, 1, (0, 0, 0, 0, 0, .i2l, [])), (9, 1, (13, 0, 0, 0, 0, .lastore, [])), (10, 3, (1, 0, 0, 0, 0, .goto 7, [])), (13, 2, (2, 0, 0, 0, 0, .astore 4, [])), (15, 1, (0, 0, 0, 0, 0, .iconst 1, [])), (16, 1, (4, 0, 0, 0, 0, .ireturn, [])), (17, 1, (0, 0, 0, 0, 0, .iconst 0, [])), (18, 1, (4, 0, 0, 0, 0, .ireturn, []))]
set_option maxRecDepth 20000 in
def mh_355 : List (Nat × Nat × Nat) := [(0, 0, 0), (0, 0, 0), (0, 0, 0), (0, 0, 0), (0, 0, 0), (57, 1177, 1179), (0, 0, 0), (0, 0, 0), (0, 0, 0), (0, 0, 0), (0, 0, 0), (0, 0, 0), (0, 0, 0), (0, 0, 0)]
set_option maxRecDepth 20000 in
def mt_355 : mm_M := (mc_355, 5, ⟨"DecisionDiagramsLaw", "polarity", "(LDecisionDiagrams;II[J)I"⟩, method_15_code, some .int, [(0, 10, 13, 32)])
-- DecisionDiagramsLaw.influence(LDecisionDiagrams;II[J)I
set_option maxRecDepth 20000 in
def mc_356 : mm_Code := [(0, 1, (2, 0, 0, 0, 0, .aload_n 3, [])), (1, 1, (0, 0, 0, 0, 0, .iconst 0, [])), (2, 1, (2, 0, 0, 0, 0, .aload_n 0, [])), (3, 1, (2, 0, 0, 0, 0, .iload_n 1, [])), (4, 1, (2, 0, 0, 0, 0, .iload_n 2, [])), (5, 3, (15, 119, 3, 9, 0, .nop, [("java/lang/IndexOutOfBoundsException", 13, 2, 4)])), (8, 1, (0, 0, 0, 0, 0, .i2l, [])), (9, 1, (13, 0, 0, 0, 0, .lastore, [])), (10, 3, (1, 0, 0, 0, 0, .goto 7, [])), (13, 2, (2, 0, 0, 0, 0, .astore 4, [])), (15, 1, (0, 0, 0, 0, 0, .iconst 1, [])), (16, 1, (4, 0, 0, 0, 0, .ireturn, [])), (17, 1, (0, 0, 0, 0, 0, .iconst 0, [])), (18, 1, (4, 0, 0, 0, 0, .ireturn, []))]
set_option maxRecDepth 20000 in
def mh_356 : List (Nat × Nat × Nat) := [(0, 0, 0), (0, 0, 0), (0, 0, 0), (0, 0, 0), (0, 0, 0), (60, 1188, 1190), (0, 0, 0), (0, 0, 0), (0, 0, 0), (0, 0, 0), (0, 0, 0), (0, 0, 0), (0, 0, 0), (0, 0, 0)]
set_option maxRecDepth 20000 in
def mt_356 : mm_M := (mc_356, 5, ⟨"DecisionDiagramsLaw", "influence", "(LDecisionDiagrams;II[J)I"⟩, method_16_code, some .int, [(0, 10, 13, 32)])
-- DecisionDiagramsLaw.paths(LDecisionDiagrams;II[J)I
set_option maxRecDepth 20000 in
def mc_357 : mm_Code := [(0, 1, (2, 0, 0, 0, 0, .aload_n 3, [])), (1, 1, (0, 0, 0, 0, 0, .iconst 0, [])), (2, 1, (2, 0, 0, 0, 0, .aload_n 0, [])), (3, 1, (2, 0, 0, 0, 0, .iload_n 1, [])), (4, 1, (2, 0, 0, 0, 0, .iload_n 2, [])), (5, 3, (15, 120, 3, 9, 0, .nop, [("java/lang/IndexOutOfBoundsException", 13, 2, 4), ("java/lang/IllegalArgumentException", 17, 2, 4)])), (8, 1, (0, 0, 0, 0, 0, .i2l, [])), (9, 1, (13, 0, 0, 0, 0, .lastore, [])), (10, 3, (1, 0, 0, 0, 0, .goto 11, [])), (13, 2, (2, 0, 0, 0, 0, .astore 4, [])), (15, 1, (0, 0, 0, 0, 0, .iconst 1, [])), (16, 1, (4, 0, 0, 0, 0, .ireturn, [])), (17, 2, (2, 0, 0, 0, 0, .astore 4, [])), (19, 1, (0, 0, 0, 0, 0, .iconst 2, [])), (20, 1, (4, 0, 0, 0, 0, .ireturn, [])), (21, 1, (0, 0, 0, 0, 0, .iconst 0, [])), (22, 1, (4, 0, 0, 0, 0, .ireturn, []))]
set_option maxRecDepth 20000 in
def mh_357 : List (Nat × Nat × Nat) := [(0, 0, 0), (0, 0, 0), (0, 0, 0), (0, 0, 0), (0, 0, 0), (63, 1195, 1197), (0, 0, 0), (0, 0, 0), (0, 0, 0), (0, 0, 0), (0, 0, 0), (0, 0, 0), (0, 0, 0), (0, 0, 0), (0, 0, 0), (0, 0, 0), (0, 0, 0)]
set_option maxRecDepth 20000 in
def mt_357 : mm_M := (mc_357, 5, ⟨"DecisionDiagramsLaw", "paths", "(LDecisionDiagrams;II[J)I"⟩, method_17_code, some .int, [(0, 10, 13, 32), (0, 10, 17, 19)])
-- DecisionDiagramsLaw.shortest(LDecisionDiagrams;II[J)I
set_option maxRecDepth 20000 in
def mc_358 : mm_Code := [(0, 1, (2, 0, 0, 0, 0, .aload_n 3, [])), (1, 1, (0, 0, 0, 0, 0, .iconst 0, [])), (2, 1, (2, 0, 0, 0, 0, .aload_n 0, [])), (3, 1, (2, 0, 0, 0, 0, .iload_n 1, [])), (4, 1, (2, 0, 0, 0, 0, .iload_n 2, [])), (5, 3, (15, 121, 3, 9, 0, .nop, [("java/lang/IndexOutOfBoundsException", 13, 2, 4), ("java/lang/IllegalArgumentException", 17, 2, 4)])), (8, 1, (0, 0, 0, 0, 0, .i2l, [])), (9, 1, (13, 0, 0, 0, 0, .lastore, [])), (10, 3, (1, 0, 0, 0, 0, .goto 11, [])), (13, 2, (2, 0, 0, 0, 0, .astore 4, [])), (15, 1, (0, 0, 0, 0, 0, .iconst 1, [])), (16, 1, (4, 0, 0, 0, 0, .ireturn, [])), (17, 2, (2, 0, 0, 0, 0, .astore 4, [])), (19, 1, (0, 0, 0, 0, 0, .iconst 2, [])), (20, 1, (4, 0, 0, 0, 0, .ireturn, [])), (21, 1, (0, 0, 0, 0, 0, .iconst 0, [])), (22, 1, (4, 0, 0, 0, 0, .ireturn, []))]
set_option maxRecDepth 20000 in
def mh_358 : List (Nat × Nat × Nat) := [(0, 0, 0), (0, 0, 0), (0, 0, 0), (0, 0, 0), (0, 0, 0), (66, 1215, 1217), (0, 0, 0), (0, 0, 0), (0, 0, 0), (0, 0, 0), (0, 0, 0), (0, 0, 0), (0, 0, 0), (0, 0, 0), (0, 0, 0), (0, 0, 0), (0, 0, 0)]
set_option maxRecDepth 20000 in
def mt_358 : mm_M := (mc_358, 5, ⟨"DecisionDiagramsLaw", "shortest", "(LDecisionDiagrams;II[J)I"⟩, method_18_code, some .int, [(0, 10, 13, 32), (0, 10, 17, 19)])
-- DecisionDiagramsLaw.longest(LDecisionDiagrams;I[J)I
set_option maxRecDepth 20000 in
def mc_359 : mm_Code := [(0, 1, (2, 0, 0, 0, 0, .aload_n 2, [])), (1, 1, (0, 0, 0, 0, 0, .iconst 0, [])), (2, 1, (2, 0, 0, 0, 0, .aload_n 0, [])), (3, 1, (2, 0, 0, 0, 0, .iload_n 1, [])), (4, 3, (15, 122, 2, 9, 0, .nop, [("java/lang/IndexOutOfBoundsException", 12, 1, 3)])), (7, 1, (0, 0, 0, 0, 0, .i2l, [])), (8, 1, (13, 0, 0, 0, 0, .lastore, [])), (9, 3, (1, 0, 0, 0, 0, .goto 6, [])), (12, 1, (2, 0, 0, 0, 0, .astore_n 3, [])), (13, 1, (0, 0, 0, 0, 0, .iconst 1, [])), (14, 1, (4, 0, 0, 0, 0, .ireturn, [])), (15, 1, (0, 0, 0, 0, 0, .iconst 0, [])), (16, 1, (4, 0, 0, 0, 0, .ireturn, []))]
set_option maxRecDepth 20000 in
def mh_359 : List (Nat × Nat × Nat) := [(0, 0, 0), (0, 0, 0), (0, 0, 0), (0, 0, 0), (69, 1230, 1232), (0, 0, 0), (0, 0, 0), (0, 0, 0), (0, 0, 0), (0, 0, 0), (0, 0, 0), (0, 0, 0), (0, 0, 0)]
set_option maxRecDepth 20000 in
def mt_359 : mm_M := (mc_359, 4, ⟨"DecisionDiagramsLaw", "longest", "(LDecisionDiagrams;I[J)I"⟩, method_19_code, some .int, [(0, 9, 12, 32)])
-- DecisionDiagramsLaw.cheapest(LDecisionDiagrams;I[J)I
set_option maxRecDepth 20000 in
def mc_360 : mm_Code := [(0, 1, (2, 0, 0, 0, 0, .aload_n 2, [])), (1, 1, (0, 0, 0, 0, 0, .iconst 0, [])), (2, 1, (2, 0, 0, 0, 0, .aload_n 0, [])), (3, 1, (2, 0, 0, 0, 0, .iload_n 1, [])), (4, 3, (15, 123, 2, 9, 0, .nop, [("java/lang/IndexOutOfBoundsException", 12, 1, 3)])), (7, 1, (0, 0, 0, 0, 0, .i2l, [])), (8, 1, (13, 0, 0, 0, 0, .lastore, [])), (9, 3, (1, 0, 0, 0, 0, .goto 6, [])), (12, 1, (2, 0, 0, 0, 0, .astore_n 3, [])), (13, 1, (0, 0, 0, 0, 0, .iconst 1, [])), (14, 1, (4, 0, 0, 0, 0, .ireturn, [])), (15, 1, (0, 0, 0, 0, 0, .iconst 0, [])), (16, 1, (4, 0, 0, 0, 0, .ireturn, []))]
set_option maxRecDepth 20000 in
def mh_360 : List (Nat × Nat × Nat) := [(0, 0, 0), (0, 0, 0), (0, 0, 0), (0, 0, 0), (72, 1248, 1250), (0, 0, 0), (0, 0, 0), (0, 0, 0), (0, 0, 0), (0, 0, 0), (0, 0, 0), (0, 0, 0), (0, 0, 0)]
set_option maxRecDepth 20000 in
def mt_360 : mm_M := (mc_360, 4, ⟨"DecisionDiagramsLaw", "cheapest", "(LDecisionDiagrams;I[J)I"⟩, method_20_code, some .int, [(0, 9, 12, 32)])
-- DecisionDiagramsLaw.cheapestModel(LDecisionDiagrams;I[J)I
set_option maxRecDepth 20000 in
def mc_361 : mm_Code := [(0, 1, (2, 0, 0, 0, 0, .aload_n 2, [])), (1, 1, (0, 0, 0, 0, 0, .iconst 0, [])), (2, 1, (2, 0, 0, 0, 0, .aload_n 0, [])), (3, 1, (2, 0, 0, 0, 0, .iload_n 1, [])), (4, 3, (15, 124, 2, 9, 0, .nop, [("java/lang/IndexOutOfBoundsException", 12, 1, 3), ("java/util/NoSuchElementException", 15, 1, 3)])), (7, 1, (0, 0, 0, 0, 0, .i2l, [])), (8, 1, (13, 0, 0, 0, 0, .lastore, [])), (9, 3, (1, 0, 0, 0, 0, .goto 9, [])), (12, 1, (2, 0, 0, 0, 0, .astore_n 3, [])), (13, 1, (0, 0, 0, 0, 0, .iconst 1, [])), (14, 1, (4, 0, 0, 0, 0, .ireturn, [])), (15, 1, (2, 0, 0, 0, 0, .astore_n 3, [])), (16, 1, (0, 0, 0, 0, 0, .iconst 2, [])), (17, 1, (4, 0, 0, 0, 0, .ireturn, [])), (18, 1, (0, 0, 0, 0, 0, .iconst 0, [])), (19, 1, (4, 0, 0, 0, 0, .ireturn, []))]
set_option maxRecDepth 20000 in
def mh_361 : List (Nat × Nat × Nat) := [(0, 0, 0), (0, 0, 0), (0, 0, 0), (0, 0, 0), (75, 1264, 1266), (0, 0, 0), (0, 0, 0), (0, 0, 0), (0, 0, 0), (0, 0, 0), (0, 0, 0), (0, 0, 0), (0, 0, 0), (0, 0, 0), (0, 0, 0), (0, 0, 0)]
set_option maxRecDepth 20000 in
def mt_361 : mm_M := (mc_361, 4, ⟨"DecisionDiagramsLaw", "cheapestModel", "(LDecisionDiagrams;I[J)I"⟩, method_21_code, some .int, [(0, 9, 12, 32), (0, 9, 15, 43)])
-- DecisionDiagramsLaw.chance(LDecisionDiagrams;I[D)I
set_option maxRecDepth 20000 in
def mc_362 : mm_Code := [(0, 1, (2, 0, 0, 0, 0, .aload_n 2, [])), (1, 1, (0, 0, 0, 0, 0, .iconst 0, [])), (2, 1, (2, 0, 0, 0, 0, .aload_n 0, [])), (3, 1, (2, 0, 0, 0, 0, .iload_n 1, [])), (4, 3, (15, 125, 2, 9, 0, .nop, [("java/lang/IndexOutOfBoundsException", 11, 1, 3)])), (7, 1, (13, 0, 0, 0, 0, .dastore, [])), (8, 3, (1, 0, 0, 0, 0, .goto 6, [])), (11, 1, (2, 0, 0, 0, 0, .astore_n 3, [])), (12, 1, (0, 0, 0, 0, 0, .iconst 1, [])), (13, 1, (4, 0, 0, 0, 0, .ireturn, [])), (14, 1, (0, 0, 0, 0, 0, .iconst 0, [])), (15, 1, (4, 0, 0, 0, 0, .ireturn, []))]
set_option maxRecDepth 20000 in
def mh_362 : List (Nat × Nat × Nat) := [(0, 0, 0), (0, 0, 0), (0, 0, 0), (0, 0, 0), (78, 1272, 1274), (0, 0, 0), (0, 0, 0), (0, 0, 0), (0, 0, 0), (0, 0, 0), (0, 0, 0), (0, 0, 0)]
set_option maxRecDepth 20000 in
def mt_362 : mm_M := (mc_362, 4, ⟨"DecisionDiagramsLaw", "chance", "(LDecisionDiagrams;I[D)I"⟩, method_22_code, some .int, [(0, 8, 11, 32)])
-- DecisionDiagramsLaw.same(LDecisionDiagrams;II[J)I
set_option maxRecDepth 20000 in
def mc_363 : mm_Code := [(0, 1, (2, 0, 0, 0, 0, .aload_n 3, [])), (1, 1, (0, 0, 0, 0, 0, .iconst 0, [])), (2, 1, (2, 0, 0, 0, 0, .aload_n 0, [])), (3, 1, (2, 0, 0, 0, 0, .iload_n 1, [])), (4, 1, (2, 0, 0, 0, 0, .iload_n 2, [])), (5, 3, (15, 126, 3, 9, 0, .nop, [("java/lang/IndexOutOfBoundsException", 20, 2, 4)])), (8, 3, (1, 0, 0, 0, 0, .ifCond .eq 7, [])), (11, 1, (0, 0, 0, 0, 0, .lconst 1, [])), (12, 3, (1, 0, 0, 0, 0, .goto 4, [])), (15, 1, (0, 0, 0, 0, 0, .lconst 0, [])), (16, 1, (13, 0, 0, 0, 0, .lastore, [])), (17, 3, (1, 0, 0, 0, 0, .goto 7, [])), (20, 2, (2, 0, 0, 0, 0, .astore 4, [])), (22, 1, (0, 0, 0, 0, 0, .iconst 1, [])), (23, 1, (4, 0, 0, 0, 0, .ireturn, [])), (24, 1, (0, 0, 0, 0, 0, .iconst 0, [])), (25, 1, (4, 0, 0, 0, 0, .ireturn, []))]
set_option maxRecDepth 20000 in
def mh_363 : List (Nat × Nat × Nat) := [(0, 0, 0), (0, 0, 0), (0, 0, 0), (0, 0, 0), (0, 0, 0), (82, 1288, 1290), (0, 0, 0), (0, 0, 0), (0, 0, 0), (0, 0, 0), (0, 0, 0), (0, 0, 0), (0, 0, 0), (0, 0, 0), (0, 0, 0), (0, 0, 0), (0, 0, 0)]
set_option maxRecDepth 20000 in
def mt_363 : mm_M := (mc_363, 5, ⟨"DecisionDiagramsLaw", "same", "(LDecisionDiagrams;II[J)I"⟩, method_23_code, some .int, [(0, 17, 20, 32)])
-- DecisionDiagramsLaw.implies(LDecisionDiagrams;II[J)I
set_option maxRecDepth 20000 in
def mc_364 : mm_Code := [(0, 1, (2, 0, 0, 0, 0, .aload_n 3, [])), (1, 1, (0, 0, 0, 0, 0, .iconst 0, [])), (2, 1, (2, 0, 0, 0, 0, .aload_n 0, [])), (3, 1, (2, 0, 0, 0, 0, .iload_n 1, [])), (4, 1, (2, 0, 0, 0, 0, .iload_n 2, [])), (5, 3, (15, 127, 3, 9, 0, .nop, [("java/lang/IndexOutOfBoundsException", 20, 2, 4)])), (8, 3, (1, 0, 0, 0, 0, .ifCond .eq 7, [])), (11, 1, (0, 0, 0, 0, 0, .lconst 1, [])), (12, 3, (1, 0, 0, 0, 0, .goto 4, [])), (15, 1, (0, 0, 0, 0, 0, .lconst 0, [])), (16, 1, (13, 0, 0, 0, 0, .lastore, [])), (17, 3, (1, 0, 0, 0, 0, .goto 7, [])), (20, 2, (2, 0, 0, 0, 0, .astore 4, [])), (22, 1, (0, 0, 0, 0, 0, .iconst 1, [])), (23, 1, (4, 0, 0, 0, 0, .ireturn, [])), (24, 1, (0, 0, 0, 0, 0, .iconst 0, [])), (25, 1, (4, 0, 0, 0, 0, .ireturn, []))]
set_option maxRecDepth 20000 in
def mh_364 : List (Nat × Nat × Nat) := [(0, 0, 0), (0, 0, 0), (0, 0, 0), (0, 0, 0), (0, 0, 0), (86, 1295, 1297), (0, 0, 0), (0, 0, 0), (0, 0, 0), (0, 0, 0), (0, 0, 0), (0, 0, 0), (0, 0, 0), (0, 0, 0), (0, 0, 0), (0, 0, 0), (0, 0, 0)]
set_option maxRecDepth 20000 in
def mt_364 : mm_M := (mc_364, 5, ⟨"DecisionDiagramsLaw", "implies", "(LDecisionDiagrams;II[J)I"⟩, method_24_code, some .int, [(0, 17, 20, 32)])
-- DecisionDiagramsLaw.difference(LDecisionDiagrams;II[J)I
set_option maxRecDepth 20000 in
def mc_365 : mm_Code := [(0, 1, (2, 0, 0, 0, 0, .aload_n 3, [])), (1, 1, (0, 0, 0, 0, 0, .iconst 0, [])), (2, 1, (2, 0, 0, 0, 0, .aload_n 0, [])), (3, 1, (2, 0, 0, 0, 0, .iload_n 1, [])), (4, 1, (2, 0, 0, 0, 0, .iload_n 2, [])), (5, 3, (15, 128, 3, 9, 0, .nop, [("java/lang/IndexOutOfBoundsException", 13, 2, 4)])), (8, 1, (0, 0, 0, 0, 0, .i2l, [])), (9, 1, (13, 0, 0, 0, 0, .lastore, [])), (10, 3, (1, 0, 0, 0, 0, .goto 7, [])), (13, 2, (2, 0, 0, 0, 0, .astore 4, [])), (15, 1, (0, 0, 0, 0, 0, .iconst 1, [])), (16, 1, (4, 0, 0, 0, 0, .ireturn, [])), (17, 1, (0, 0, 0, 0, 0, .iconst 0, [])), (18, 1, (4, 0, 0, 0, 0, .ireturn, []))]
set_option maxRecDepth 20000 in
def mh_365 : List (Nat × Nat × Nat) := [(0, 0, 0), (0, 0, 0), (0, 0, 0), (0, 0, 0), (0, 0, 0), (89, 1303, 1305), (0, 0, 0), (0, 0, 0), (0, 0, 0), (0, 0, 0), (0, 0, 0), (0, 0, 0), (0, 0, 0), (0, 0, 0)]
set_option maxRecDepth 20000 in
def mt_365 : mm_M := (mc_365, 5, ⟨"DecisionDiagramsLaw", "difference", "(LDecisionDiagrams;II[J)I"⟩, method_25_code, some .int, [(0, 10, 13, 32)])
-- DecisionDiagramsLaw.twin(LDecisionDiagrams;I[J)I
set_option maxRecDepth 20000 in
def mc_366 : mm_Code := [(0, 1, (2, 0, 0, 0, 0, .aload_n 2, [])), (1, 1, (0, 0, 0, 0, 0, .iconst 0, [])), (2, 1, (2, 0, 0, 0, 0, .aload_n 0, [])), (3, 1, (2, 0, 0, 0, 0, .iload_n 1, [])), (4, 3, (15, 129, 2, 9, 0, .nop, [("java/lang/IndexOutOfBoundsException", 12, 1, 3)])), (7, 1, (0, 0, 0, 0, 0, .i2l, [])), (8, 1, (13, 0, 0, 0, 0, .lastore, [])), (9, 3, (1, 0, 0, 0, 0, .goto 6, [])), (12, 1, (2, 0, 0, 0, 0, .astore_n 3, [])), (13, 1, (0, 0, 0, 0, 0, .iconst 1, [])), (14, 1, (4, 0, 0, 0, 0, .ireturn, [])), (15, 1, (0, 0, 0, 0, 0, .iconst 0, [])), (16, 1, (4, 0, 0, 0, 0, .ireturn, []))]
set_option maxRecDepth 20000 in
def mh_366 : List (Nat × Nat × Nat) := [(0, 0, 0), (0, 0, 0), (0, 0, 0), (0, 0, 0), (92, 1310, 1312), (0, 0, 0), (0, 0, 0), (0, 0, 0), (0, 0, 0), (0, 0, 0), (0, 0, 0), (0, 0, 0), (0, 0, 0)]
set_option maxRecDepth 20000 in
def mt_366 : mm_M := (mc_366, 4, ⟨"DecisionDiagramsLaw", "twin", "(LDecisionDiagrams;I[J)I"⟩, method_26_code, some .int, [(0, 9, 12, 32)])
-- DecisionDiagramsLaw.common(LDecisionDiagrams;II[J)I
set_option maxRecDepth 20000 in
def mc_367 : mm_Code := [(0, 1, (2, 0, 0, 0, 0, .aload_n 3, [])), (1, 1, (0, 0, 0, 0, 0, .iconst 0, [])), (2, 1, (2, 0, 0, 0, 0, .aload_n 0, [])), (3, 1, (2, 0, 0, 0, 0, .iload_n 1, [])), (4, 1, (2, 0, 0, 0, 0, .iload_n 2, [])), (5, 3, (15, 130, 3, 9, 0, .nop, [("java/lang/IndexOutOfBoundsException", 13, 2, 4)])), (8, 1, (0, 0, 0, 0, 0, .i2l, [])), (9, 1, (13, 0, 0, 0, 0, .lastore, [])), (10, 3, (1, 0, 0, 0, 0, .goto 7, [])), (13, 2, (2, 0, 0, 0, 0, .astore 4, [])), (15, 1, (0, 0, 0, 0, 0, .iconst 1, [])), (16, 1, (4, 0, 0, 0, 0, .ireturn, [])), (17, 1, (0, 0, 0, 0, 0, .iconst 0, [])), (18, 1, (4, 0, 0, 0, 0, .ireturn, []))]
set_option maxRecDepth 20000 in
def mh_367 : List (Nat × Nat × Nat) := [(0, 0, 0), (0, 0, 0), (0, 0, 0), (0, 0, 0), (0, 0, 0), (95, 1317, 1319), (0, 0, 0), (0, 0, 0), (0, 0, 0), (0, 0, 0), (0, 0, 0), (0, 0, 0), (0, 0, 0), (0, 0, 0)]
set_option maxRecDepth 20000 in
def mt_367 : mm_M := (mc_367, 5, ⟨"DecisionDiagramsLaw", "common", "(LDecisionDiagrams;II[J)I"⟩, method_27_code, some .int, [(0, 10, 13, 32)])
-- DecisionDiagramsLaw.pairs(LDecisionDiagrams;II[J)I
set_option maxRecDepth 20000 in
def mc_368 : mm_Code := [(0, 1, (2, 0, 0, 0, 0, .aload_n 3, [])), (1, 1, (0, 0, 0, 0, 0, .iconst 0, [])), (2, 1, (2, 0, 0, 0, 0, .aload_n 0, [])), (3, 1, (2, 0, 0, 0, 0, .iload_n 1, [])), (4, 1, (2, 0, 0, 0, 0, .iload_n 2, [])), (5, 3, (15, 131, 3, 9, 0, .nop, [("java/lang/IndexOutOfBoundsException", 13, 2, 4)])), (8, 1, (0, 0, 0, 0, 0, .i2l, [])), (9, 1, (13, 0, 0, 0, 0, .lastore, [])), (10, 3, (1, 0, 0, 0, 0, .goto 7, [])), (13, 2, (2, 0, 0, 0, 0, .astore 4, [])), (15, 1, (0, 0, 0, 0, 0, .iconst 1, [])), (16, 1, (4, 0, 0, 0, 0, .ireturn, [])), (17, 1, (0, 0, 0, 0, 0, .iconst 0, [])), (18, 1, (4, 0, 0, 0, 0, .ireturn, []))]
set_option maxRecDepth 20000 in
def mh_368 : List (Nat × Nat × Nat) := [(0, 0, 0), (0, 0, 0), (0, 0, 0), (0, 0, 0), (0, 0, 0), (98, 1324, 1326), (0, 0, 0), (0, 0, 0), (0, 0, 0), (0, 0, 0), (0, 0, 0), (0, 0, 0), (0, 0, 0), (0, 0, 0)]
set_option maxRecDepth 20000 in
def mt_368 : mm_M := (mc_368, 5, ⟨"DecisionDiagramsLaw", "pairs", "(LDecisionDiagrams;II[J)I"⟩, method_28_code, some .int, [(0, 10, 13, 32)])
-- DecisionDiagramsLaw.sizeOf(LDecisionDiagrams;III[J)I
set_option maxRecDepth 20000 in
def mc_369 : mm_Code := [(0, 2, (2, 0, 0, 0, 0, .aload 4, [])), (2, 1, (0, 0, 0, 0, 0, .iconst 0, [])), (3, 1, (2, 0, 0, 0, 0, .aload_n 0, [])), (4, 1, (2, 0, 0, 0, 0, .iload_n 1, [])), (5, 1, (2, 0, 0, 0, 0, .iload_n 2, [])), (6, 1, (2, 0, 0, 0, 0, .iload_n 3, [])), (7, 3, (15, 132, 4, 9, 0, .nop, [("java/lang/IndexOutOfBoundsException", 15, 2, 5), ("java/lang/IllegalArgumentException", 19, 2, 5)])), (10, 1, (0, 0, 0, 0, 0, .i2l, [])), (11, 1, (13, 0, 0, 0, 0, .lastore, [])), (12, 3, (1, 0, 0, 0, 0, .goto 11, [])), (15, 2, (2, 0, 0, 0, 0, .astore 5, [])), (17, 1, (0, 0, 0, 0, 0, .iconst 1, [])), (18, 1, (4, 0, 0, 0, 0, .ireturn, [])), (19, 2, (2, 0, 0, 0, 0, .astore 5, [])), (21, 1, (0, 0, 0, 0, 0, .iconst 2, [])), (22, 1, (4, 0, 0, 0, 0, .ireturn, [])), (23, 1, (0, 0, 0, 0, 0, .iconst 0, [])), (24, 1, (4, 0, 0, 0, 0, .ireturn, []))]
set_option maxRecDepth 20000 in
def mh_369 : List (Nat × Nat × Nat) := [(0, 0, 0), (0, 0, 0), (0, 0, 0), (0, 0, 0), (0, 0, 0), (0, 0, 0), (101, 1347, 1349), (0, 0, 0), (0, 0, 0), (0, 0, 0), (0, 0, 0), (0, 0, 0), (0, 0, 0), (0, 0, 0), (0, 0, 0), (0, 0, 0), (0, 0, 0), (0, 0, 0)]
set_option maxRecDepth 20000 in
def mt_369 : mm_M := (mc_369, 6, ⟨"DecisionDiagramsLaw", "sizeOf", "(LDecisionDiagrams;III[J)I"⟩, method_29_code, some .int, [(0, 12, 15, 32), (0, 12, 19, 19)])
-- DecisionDiagramsLaw.sizeIf(LDecisionDiagrams;II[J)I
set_option maxRecDepth 20000 in
def mc_370 : mm_Code := [(0, 1, (2, 0, 0, 0, 0, .aload_n 3, [])), (1, 1, (0, 0, 0, 0, 0, .iconst 0, [])), (2, 1, (2, 0, 0, 0, 0, .aload_n 0, [])), (3, 1, (2, 0, 0, 0, 0, .iload_n 1, [])), (4, 1, (2, 0, 0, 0, 0, .iload_n 2, [])), (5, 3, (15, 133, 3, 9, 0, .nop, [("java/lang/IndexOutOfBoundsException", 13, 2, 4)])), (8, 1, (0, 0, 0, 0, 0, .i2l, [])), (9, 1, (13, 0, 0, 0, 0, .lastore, [])), (10, 3, (1, 0, 0, 0, 0, .goto 7, [])), (13, 2, (2, 0, 0, 0, 0, .astore 4, [])), (15, 1, (0, 0, 0, 0, 0, .iconst 1, [])), (16, 1, (4, 0, 0, 0, 0, .ireturn, [])), (17, 1, (0, 0, 0, 0, 0, .iconst 0, [])), (18, 1, (4, 0, 0, 0, 0, .ireturn, []))]
set_option maxRecDepth 20000 in
def mh_370 : List (Nat × Nat × Nat) := [(0, 0, 0), (0, 0, 0), (0, 0, 0), (0, 0, 0), (0, 0, 0), (105, 1359, 1361), (0, 0, 0), (0, 0, 0), (0, 0, 0), (0, 0, 0), (0, 0, 0), (0, 0, 0), (0, 0, 0), (0, 0, 0)]
set_option maxRecDepth 20000 in
def mt_370 : mm_M := (mc_370, 5, ⟨"DecisionDiagramsLaw", "sizeIf", "(LDecisionDiagrams;II[J)I"⟩, method_30_code, some .int, [(0, 10, 13, 32)])
-- DecisionDiagramsLaw.bestLevel(LDecisionDiagrams;I[J)I
set_option maxRecDepth 20000 in
def mc_371 : mm_Code := [(0, 1, (2, 0, 0, 0, 0, .aload_n 2, [])), (1, 1, (0, 0, 0, 0, 0, .iconst 0, [])), (2, 1, (2, 0, 0, 0, 0, .aload_n 0, [])), (3, 1, (2, 0, 0, 0, 0, .iload_n 1, [])), (4, 3, (15, 134, 2, 9, 0, .nop, [("java/lang/IndexOutOfBoundsException", 12, 1, 3)])), (7, 1, (0, 0, 0, 0, 0, .i2l, [])), (8, 1, (13, 0, 0, 0, 0, .lastore, [])), (9, 3, (1, 0, 0, 0, 0, .goto 6, [])), (12, 1, (2, 0, 0, 0, 0, .astore_n 3, [])), (13, 1, (0, 0, 0, 0, 0, .iconst 1, [])), (14, 1, (4, 0, 0, 0, 0, .ireturn, [])), (15, 1, (0, 0, 0, 0, 0, .iconst 0, [])), (16, 1, (4, 0, 0, 0, 0, .ireturn, []))]
set_option maxRecDepth 20000 in
def mh_371 : List (Nat × Nat × Nat) := [(0, 0, 0), (0, 0, 0), (0, 0, 0), (0, 0, 0), (108, 1370, 1372), (0, 0, 0), (0, 0, 0), (0, 0, 0), (0, 0, 0), (0, 0, 0), (0, 0, 0), (0, 0, 0), (0, 0, 0)]
set_option maxRecDepth 20000 in
def mt_371 : mm_M := (mc_371, 4, ⟨"DecisionDiagramsLaw", "bestLevel", "(LDecisionDiagrams;I[J)I"⟩, method_31_code, some .int, [(0, 9, 12, 32)])
-- DecisionDiagramsLaw.width(LDecisionDiagrams;I[J)I
set_option maxRecDepth 20000 in
def mc_372 : mm_Code := [(0, 1, (2, 0, 0, 0, 0, .aload_n 2, [])), (1, 1, (0, 0, 0, 0, 0, .iconst 0, [])), (2, 1, (2, 0, 0, 0, 0, .aload_n 0, [])), (3, 1, (2, 0, 0, 0, 0, .iload_n 1, [])), (4, 3, (15, 135, 2, 9, 0, .nop, [("java/lang/IndexOutOfBoundsException", 12, 1, 3)])), (7, 1, (0, 0, 0, 0, 0, .i2l, [])), (8, 1, (13, 0, 0, 0, 0, .lastore, [])), (9, 3, (1, 0, 0, 0, 0, .goto 6, [])), (12, 1, (2, 0, 0, 0, 0, .astore_n 3, [])), (13, 1, (0, 0, 0, 0, 0, .iconst 1, [])), (14, 1, (4, 0, 0, 0, 0, .ireturn, [])), (15, 1, (0, 0, 0, 0, 0, .iconst 0, [])), (16, 1, (4, 0, 0, 0, 0, .ireturn, []))]
set_option maxRecDepth 20000 in
def mh_372 : List (Nat × Nat × Nat) := [(0, 0, 0), (0, 0, 0), (0, 0, 0), (0, 0, 0), (111, 1378, 1380), (0, 0, 0), (0, 0, 0), (0, 0, 0), (0, 0, 0), (0, 0, 0), (0, 0, 0), (0, 0, 0), (0, 0, 0)]
set_option maxRecDepth 20000 in
def mt_372 : mm_M := (mc_372, 4, ⟨"DecisionDiagramsLaw", "width", "(LDecisionDiagrams;I[J)I"⟩, method_32_code, some .int, [(0, 9, 12, 32)])
-- DecisionDiagramsLaw.combine(LDecisionDiagrams;III[J)I
set_option maxRecDepth 20000 in
def mc_373 : mm_Code := [(0, 2, (2, 0, 0, 0, 0, .aload 4, [])), (2, 1, (0, 0, 0, 0, 0, .iconst 0, [])), (3, 1, (2, 0, 0, 0, 0, .aload_n 0, [])), (4, 1, (2, 0, 0, 0, 0, .iload_n 1, [])), (5, 1, (2, 0, 0, 0, 0, .iload_n 2, [])), (6, 1, (2, 0, 0, 0, 0, .iload_n 3, [])), (7, 3, (15, 136, 4, 9, 0, .nop, [("java/lang/IndexOutOfBoundsException", 15, 2, 5), ("java/lang/IllegalArgumentException", 19, 2, 5), ("java/lang/IllegalStateException", 23, 2, 5)])), (10, 1, (0, 0, 0, 0, 0, .i2l, [])), (11, 1, (13, 0, 0, 0, 0, .lastore, [])), (12, 3, (1, 0, 0, 0, 0, .goto 15, [])), (15, 2, (2, 0, 0, 0, 0, .astore 5, [])), (17, 1, (0, 0, 0, 0, 0, .iconst 1, [])), (18, 1, (4, 0, 0, 0, 0, .ireturn, [])), (19, 2, (2, 0, 0, 0, 0, .astore 5, [])), (21, 1, (0, 0, 0, 0, 0, .iconst 2, [])), (22, 1, (4, 0, 0, 0, 0, .ireturn, [])), (23, 2, (2, 0, 0, 0, 0, .astore 5, [])), (25, 1, (0, 0, 0, 0, 0, .iconst 3, [])), (26, 1, (4, 0, 0, 0, 0, .ireturn, [])), (27, 1, (0, 0, 0, 0, 0, .iconst 0, [])), (28, 1, (4, 0, 0, 0, 0, .ireturn, []))]
set_option maxRecDepth 20000 in
def mh_373 : List (Nat × Nat × Nat) := [(0, 0, 0), (0, 0, 0), (0, 0, 0), (0, 0, 0), (0, 0, 0), (0, 0, 0), (114, 1385, 1387), (0, 0, 0), (0, 0, 0), (0, 0, 0), (0, 0, 0), (0, 0, 0), (0, 0, 0), (0, 0, 0), (0, 0, 0), (0, 0, 0), (0, 0, 0), (0, 0, 0), (0, 0, 0), (0, 0, 0), (0, 0, 0)]
set_option maxRecDepth 20000 in
def mt_373 : mm_M := (mc_373, 6, ⟨"DecisionDiagramsLaw", "combine", "(LDecisionDiagrams;III[J)I"⟩, method_33_code, some .int, [(0, 12, 15, 32), (0, 12, 19, 19), (0, 12, 23, 13)])
-- DecisionDiagramsLaw.choose(LDecisionDiagrams;III[J)I
set_option maxRecDepth 20000 in
def mc_374 : mm_Code := [(0, 2, (2, 0, 0, 0, 0, .aload 4, [])), (2, 1, (0, 0, 0, 0, 0, .iconst 0, [])), (3, 1, (2, 0, 0, 0, 0, .aload_n 0, [])), (4, 1, (2, 0, 0, 0, 0, .iload_n 1, [])), (5, 1, (2, 0, 0, 0, 0, .iload_n 2, [])), (6, 1, (2, 0, 0, 0, 0, .iload_n 3, [])), (7, 3, (15, 137, 4, 9, 0, .nop, [("java/lang/IndexOutOfBoundsException", 15, 2, 5), ("java/lang/IllegalStateException", 19, 2, 5)])), (10, 1, (0, 0, 0, 0, 0, .i2l, [])), (11, 1, (13, 0, 0, 0, 0, .lastore, [])), (12, 3, (1, 0, 0, 0, 0, .goto 11, [])), (15, 2, (2, 0, 0, 0, 0, .astore 5, [])), (17, 1, (0, 0, 0, 0, 0, .iconst 1, [])), (18, 1, (4, 0, 0, 0, 0, .ireturn, [])), (19, 2, (2, 0, 0, 0, 0, .astore 5, [])), (21, 1, (0, 0, 0, 0, 0, .iconst 2, [])), (22, 1, (4, 0, 0, 0, 0, .ireturn, [])), (23, 1, (0, 0, 0, 0, 0, .iconst 0, [])), (24, 1, (4, 0, 0, 0, 0, .ireturn, []))]
set_option maxRecDepth 20000 in
def mh_374 : List (Nat × Nat × Nat) := [(0, 0, 0), (0, 0, 0), (0, 0, 0), (0, 0, 0), (0, 0, 0), (0, 0, 0), (117, 1398, 1400), (0, 0, 0), (0, 0, 0), (0, 0, 0), (0, 0, 0), (0, 0, 0), (0, 0, 0), (0, 0, 0), (0, 0, 0), (0, 0, 0), (0, 0, 0), (0, 0, 0)]
set_option maxRecDepth 20000 in
def mt_374 : mm_M := (mc_374, 6, ⟨"DecisionDiagramsLaw", "choose", "(LDecisionDiagrams;III[J)I"⟩, method_34_code, some .int, [(0, 12, 15, 32), (0, 12, 19, 13)])
-- DecisionDiagramsLaw.negate(LDecisionDiagrams;I[J)I
set_option maxRecDepth 20000 in
def mc_375 : mm_Code := [(0, 1, (2, 0, 0, 0, 0, .aload_n 2, [])), (1, 1, (0, 0, 0, 0, 0, .iconst 0, [])), (2, 1, (2, 0, 0, 0, 0, .aload_n 0, [])), (3, 1, (2, 0, 0, 0, 0, .iload_n 1, [])), (4, 3, (15, 138, 2, 9, 0, .nop, [("java/lang/IndexOutOfBoundsException", 12, 1, 3), ("java/lang/IllegalStateException", 15, 1, 3)])), (7, 1, (0, 0, 0, 0, 0, .i2l, [])), (8, 1, (13, 0, 0, 0, 0, .lastore, [])), (9, 3, (1, 0, 0, 0, 0, .goto 9, [])), (12, 1, (2, 0, 0, 0, 0, .astore_n 3, [])), (13, 1, (0, 0, 0, 0, 0, .iconst 1, [])), (14, 1, (4, 0, 0, 0, 0, .ireturn, [])), (15, 1, (2, 0, 0, 0, 0, .astore_n 3, [])), (16, 1, (0, 0, 0, 0, 0, .iconst 2, [])), (17, 1, (4, 0, 0, 0, 0, .ireturn, [])), (18, 1, (0, 0, 0, 0, 0, .iconst 0, [])), (19, 1, (4, 0, 0, 0, 0, .ireturn, []))]
set_option maxRecDepth 20000 in
def mh_375 : List (Nat × Nat × Nat) := [(0, 0, 0), (0, 0, 0), (0, 0, 0), (0, 0, 0), (120, 1406, 1408), (0, 0, 0), (0, 0, 0), (0, 0, 0), (0, 0, 0), (0, 0, 0), (0, 0, 0), (0, 0, 0), (0, 0, 0), (0, 0, 0), (0, 0, 0), (0, 0, 0)]
set_option maxRecDepth 20000 in
def mt_375 : mm_M := (mc_375, 4, ⟨"DecisionDiagramsLaw", "negate", "(LDecisionDiagrams;I[J)I"⟩, method_35_code, some .int, [(0, 9, 12, 32), (0, 9, 15, 13)])
-- DecisionDiagramsLaw.restrict(LDecisionDiagrams;IIZ[J)I
set_option maxRecDepth 20000 in
def mc_376 : mm_Code := [(0, 2, (2, 0, 0, 0, 0, .aload 4, [])), (2, 1, (0, 0, 0, 0, 0, .iconst 0, [])), (3, 1, (2, 0, 0, 0, 0, .aload_n 0, [])), (4, 1, (2, 0, 0, 0, 0, .iload_n 1, [])), (5, 1, (2, 0, 0, 0, 0, .iload_n 2, [])), (6, 1, (2, 0, 0, 0, 0, .iload_n 3, [])), (7, 3, (15, 139, 4, 9, 0, .nop, [("java/lang/IndexOutOfBoundsException", 15, 2, 5), ("java/lang/IllegalStateException", 19, 2, 5)])), (10, 1, (0, 0, 0, 0, 0, .i2l, [])), (11, 1, (13, 0, 0, 0, 0, .lastore, [])), (12, 3, (1, 0, 0, 0, 0, .goto 11, [])), (15, 2, (2, 0, 0, 0, 0, .astore 5, [])), (17, 1, (0, 0, 0, 0, 0, .iconst 1, [])), (18, 1, (4, 0, 0, 0, 0, .ireturn, [])), (19, 2, (2, 0, 0, 0, 0, .astore 5, [])), (21, 1, (0, 0, 0, 0, 0, .iconst 2, [])), (22, 1, (4, 0, 0, 0, 0, .ireturn, [])), (23, 1, (0, 0, 0, 0, 0, .iconst 0, [])), (24, 1, (4, 0, 0, 0, 0, .ireturn, []))]
set_option maxRecDepth 20000 in
def mh_376 : List (Nat × Nat × Nat) := [(0, 0, 0), (0, 0, 0), (0, 0, 0), (0, 0, 0), (0, 0, 0), (0, 0, 0), (123, 1414, 1416), (0, 0, 0), (0, 0, 0), (0, 0, 0), (0, 0, 0), (0, 0, 0), (0, 0, 0), (0, 0, 0), (0, 0, 0), (0, 0, 0), (0, 0, 0), (0, 0, 0)]
set_option maxRecDepth 20000 in
def mt_376 : mm_M := (mc_376, 6, ⟨"DecisionDiagramsLaw", "restrict", "(LDecisionDiagrams;IIZ[J)I"⟩, method_36_code, some .int, [(0, 12, 15, 32), (0, 12, 19, 13)])
-- DecisionDiagramsLaw.quantify(LDecisionDiagrams;IIZ[J)I
set_option maxRecDepth 20000 in
def mc_377 : mm_Code := [(0, 2, (2, 0, 0, 0, 0, .aload 4, [])), (2, 1, (0, 0, 0, 0, 0, .iconst 0, [])), (3, 1, (2, 0, 0, 0, 0, .aload_n 0, [])), (4, 1, (2, 0, 0, 0, 0, .iload_n 1, [])), (5, 1, (2, 0, 0, 0, 0, .iload_n 2, [])), (6, 1, (2, 0, 0, 0, 0, .iload_n 3, [])), (7, 3, (15, 140, 4, 9, 0, .nop, [("java/lang/IndexOutOfBoundsException", 15, 2, 5), ("java/lang/IllegalStateException", 19, 2, 5)])), (10, 1, (0, 0, 0, 0, 0, .i2l, [])), (11, 1, (13, 0, 0, 0, 0, .lastore, [])), (12, 3, (1, 0, 0, 0, 0, .goto 11, [])), (15, 2, (2, 0, 0, 0, 0, .astore 5, [])), (17, 1, (0, 0, 0, 0, 0, .iconst 1, [])), (18, 1, (4, 0, 0, 0, 0, .ireturn, [])), (19, 2, (2, 0, 0, 0, 0, .astore 5, [])), (21, 1, (0, 0, 0, 0, 0, .iconst 2, [])), (22, 1, (4, 0, 0, 0, 0, .ireturn, [])), (23, 1, (0, 0, 0, 0, 0, .iconst 0, [])), (24, 1, (4, 0, 0, 0, 0, .ireturn, []))]
set_option maxRecDepth 20000 in
def mh_377 : List (Nat × Nat × Nat) := [(0, 0, 0), (0, 0, 0), (0, 0, 0), (0, 0, 0), (0, 0, 0), (0, 0, 0), (127, 1422, 1424), (0, 0, 0), (0, 0, 0), (0, 0, 0), (0, 0, 0), (0, 0, 0), (0, 0, 0), (0, 0, 0), (0, 0, 0), (0, 0, 0), (0, 0, 0), (0, 0, 0)]
set_option maxRecDepth 20000 in
def mt_377 : mm_M := (mc_377, 6, ⟨"DecisionDiagramsLaw", "quantify", "(LDecisionDiagrams;IIZ[J)I"⟩, method_37_code, some .int, [(0, 12, 15, 32), (0, 12, 19, 13)])
-- DecisionDiagramsLaw.compose(LDecisionDiagrams;III[J)I
set_option maxRecDepth 20000 in
def mc_378 : mm_Code := [(0, 2, (2, 0, 0, 0, 0, .aload 4, [])), (2, 1, (0, 0, 0, 0, 0, .iconst 0, [])), (3, 1, (2, 0, 0, 0, 0, .aload_n 0, [])), (4, 1, (2, 0, 0, 0, 0, .iload_n 1, [])), (5, 1, (2, 0, 0, 0, 0, .iload_n 2, [])), (6, 1, (2, 0, 0, 0, 0, .iload_n 3, [])), (7, 3, (15, 141, 4, 9, 0, .nop, [("java/lang/IndexOutOfBoundsException", 15, 2, 5), ("java/lang/IllegalStateException", 19, 2, 5)])), (10, 1, (0, 0, 0, 0, 0, .i2l, [])), (11, 1, (13, 0, 0, 0, 0, .lastore, [])), (12, 3, (1, 0, 0, 0, 0, .goto 11, [])), (15, 2, (2, 0, 0, 0, 0, .astore 5, [])), (17, 1, (0, 0, 0, 0, 0, .iconst 1, [])), (18, 1, (4, 0, 0, 0, 0, .ireturn, [])), (19, 2, (2, 0, 0, 0, 0, .astore 5, [])), (21, 1, (0, 0, 0, 0, 0, .iconst 2, [])), (22, 1, (4, 0, 0, 0, 0, .ireturn, [])), (23, 1, (0, 0, 0, 0, 0, .iconst 0, [])), (24, 1, (4, 0, 0, 0, 0, .ireturn, []))]
set_option maxRecDepth 20000 in
def mh_378 : List (Nat × Nat × Nat) := [(0, 0, 0), (0, 0, 0), (0, 0, 0), (0, 0, 0), (0, 0, 0), (0, 0, 0), (130, 1429, 1431), (0, 0, 0), (0, 0, 0), (0, 0, 0), (0, 0, 0), (0, 0, 0), (0, 0, 0), (0, 0, 0), (0, 0, 0), (0, 0, 0), (0, 0, 0), (0, 0, 0)]
set_option maxRecDepth 20000 in
def mt_378 : mm_M := (mc_378, 6, ⟨"DecisionDiagramsLaw", "compose", "(LDecisionDiagrams;III[J)I"⟩, method_38_code, some .int, [(0, 12, 15, 32), (0, 12, 19, 13)])
-- DecisionDiagramsLaw.drop(LDecisionDiagrams;I[J)I
set_option maxRecDepth 20000 in
def mc_379 : mm_Code := [(0, 1, (2, 0, 0, 0, 0, .aload_n 2, [])), (1, 1, (0, 0, 0, 0, 0, .iconst 0, [])), (2, 1, (2, 0, 0, 0, 0, .aload_n 0, [])), (3, 1, (2, 0, 0, 0, 0, .iload_n 1, [])), (4, 3, (15, 142, 2, 9, 0, .nop, [("java/lang/IndexOutOfBoundsException", 12, 1, 3)])), (7, 1, (0, 0, 0, 0, 0, .i2l, [])), (8, 1, (13, 0, 0, 0, 0, .lastore, [])), (9, 3, (1, 0, 0, 0, 0, .goto 6, [])), (12, 1, (2, 0, 0, 0, 0, .astore_n 3, [])), (13, 1, (0, 0, 0, 0, 0, .iconst 1, [])), (14, 1, (4, 0, 0, 0, 0, .ireturn, [])), (15, 1, (0, 0, 0, 0, 0, .iconst 0, [])), (16, 1, (4, 0, 0, 0, 0, .ireturn, []))]
set_option maxRecDepth 20000 in
def mh_379 : List (Nat × Nat × Nat) := [(0, 0, 0), (0, 0, 0), (0, 0, 0), (0, 0, 0), (133, 1436, 1438), (0, 0, 0), (0, 0, 0), (0, 0, 0), (0, 0, 0), (0, 0, 0), (0, 0, 0), (0, 0, 0), (0, 0, 0)]
set_option maxRecDepth 20000 in
def mt_379 : mm_M := (mc_379, 4, ⟨"DecisionDiagramsLaw", "drop", "(LDecisionDiagrams;I[J)I"⟩, method_39_code, some .int, [(0, 9, 12, 32)])
-- DecisionDiagramsLaw.swap(LDecisionDiagrams;I[J)I
set_option maxRecDepth 20000 in
def mc_380 : mm_Code := [(0, 1, (2, 0, 0, 0, 0, .aload_n 2, [])), (1, 1, (0, 0, 0, 0, 0, .iconst 0, [])), (2, 1, (2, 0, 0, 0, 0, .aload_n 0, [])), (3, 1, (2, 0, 0, 0, 0, .iload_n 1, [])), (4, 3, (15, 143, 2, 9, 0, .nop, [("java/lang/IndexOutOfBoundsException", 12, 1, 3)])), (7, 1, (0, 0, 0, 0, 0, .i2l, [])), (8, 1, (13, 0, 0, 0, 0, .lastore, [])), (9, 3, (1, 0, 0, 0, 0, .goto 6, [])), (12, 1, (2, 0, 0, 0, 0, .astore_n 3, [])), (13, 1, (0, 0, 0, 0, 0, .iconst 1, [])), (14, 1, (4, 0, 0, 0, 0, .ireturn, [])), (15, 1, (0, 0, 0, 0, 0, .iconst 0, [])), (16, 1, (4, 0, 0, 0, 0, .ireturn, []))]
set_option maxRecDepth 20000 in
def mh_380 : List (Nat × Nat × Nat) := [(0, 0, 0), (0, 0, 0), (0, 0, 0), (0, 0, 0), (136, 1444, 1446), (0, 0, 0), (0, 0, 0), (0, 0, 0), (0, 0, 0), (0, 0, 0), (0, 0, 0), (0, 0, 0), (0, 0, 0)]
set_option maxRecDepth 20000 in
def mt_380 : mm_M := (mc_380, 4, ⟨"DecisionDiagramsLaw", "swap", "(LDecisionDiagrams;I[J)I"⟩, method_40_code, some .int, [(0, 9, 12, 32)])
-- DecisionDiagramsLaw.move(LDecisionDiagrams;II[J)I
set_option maxRecDepth 20000 in
def mc_381 : mm_Code := [(0, 1, (2, 0, 0, 0, 0, .aload_n 3, [])), (1, 1, (0, 0, 0, 0, 0, .iconst 0, [])), (2, 1, (2, 0, 0, 0, 0, .aload_n 0, [])), (3, 1, (2, 0, 0, 0, 0, .iload_n 1, [])), (4, 1, (2, 0, 0, 0, 0, .iload_n 2, [])), (5, 3, (15, 144, 3, 9, 0, .nop, [("java/lang/IndexOutOfBoundsException", 13, 2, 4)])), (8, 1, (0, 0, 0, 0, 0, .i2l, [])), (9, 1, (13, 0, 0, 0, 0, .lastore, [])), (10, 3, (1, 0, 0, 0, 0, .goto 7, [])), (13, 2, (2, 0, 0, 0, 0, .astore 4, [])), (15, 1, (0, 0, 0, 0, 0, .iconst 1, [])), (16, 1, (4, 0, 0, 0, 0, .ireturn, [])), (17, 1, (0, 0, 0, 0, 0, .iconst 0, [])), (18, 1, (4, 0, 0, 0, 0, .ireturn, []))]
set_option maxRecDepth 20000 in
def mh_381 : List (Nat × Nat × Nat) := [(0, 0, 0), (0, 0, 0), (0, 0, 0), (0, 0, 0), (0, 0, 0), (139, 1453, 1455), (0, 0, 0), (0, 0, 0), (0, 0, 0), (0, 0, 0), (0, 0, 0), (0, 0, 0), (0, 0, 0), (0, 0, 0)]
set_option maxRecDepth 20000 in
def mt_381 : mm_M := (mc_381, 5, ⟨"DecisionDiagramsLaw", "move", "(LDecisionDiagrams;II[J)I"⟩, method_41_code, some .int, [(0, 10, 13, 32)])
-- DecisionDiagramsLaw.sift(LDecisionDiagrams;I[J)I
set_option maxRecDepth 20000 in
def mc_382 : mm_Code := [(0, 1, (2, 0, 0, 0, 0, .aload_n 2, [])), (1, 1, (0, 0, 0, 0, 0, .iconst 0, [])), (2, 1, (2, 0, 0, 0, 0, .aload_n 0, [])), (3, 1, (2, 0, 0, 0, 0, .iload_n 1, [])), (4, 3, (15, 145, 2, 9, 0, .nop, [("java/lang/IndexOutOfBoundsException", 12, 1, 3)])), (7, 1, (0, 0, 0, 0, 0, .i2l, [])), (8, 1, (13, 0, 0, 0, 0, .lastore, [])), (9, 3, (1, 0, 0, 0, 0, .goto 6, [])), (12, 1, (2, 0, 0, 0, 0, .astore_n 3, [])), (13, 1, (0, 0, 0, 0, 0, .iconst 1, [])), (14, 1, (4, 0, 0, 0, 0, .ireturn, [])), (15, 1, (0, 0, 0, 0, 0, .iconst 0, [])), (16, 1, (4, 0, 0, 0, 0, .ireturn, []))]
set_option maxRecDepth 20000 in
def mh_382 : List (Nat × Nat × Nat) := [(0, 0, 0), (0, 0, 0), (0, 0, 0), (0, 0, 0), (142, 1460, 1462), (0, 0, 0), (0, 0, 0), (0, 0, 0), (0, 0, 0), (0, 0, 0), (0, 0, 0), (0, 0, 0), (0, 0, 0)]
set_option maxRecDepth 20000 in
def mt_382 : mm_M := (mc_382, 4, ⟨"DecisionDiagramsLaw", "sift", "(LDecisionDiagrams;I[J)I"⟩, method_42_code, some .int, [(0, 9, 12, 32)])
-- DecisionDiagramsLaw.setCost(LDecisionDiagrams;II[J)I
set_option maxRecDepth 20000 in
def mc_383 : mm_Code := [(0, 1, (2, 0, 0, 0, 0, .aload_n 3, [])), (1, 1, (0, 0, 0, 0, 0, .iconst 0, [])), (2, 1, (2, 0, 0, 0, 0, .aload_n 0, [])), (3, 1, (2, 0, 0, 0, 0, .iload_n 1, [])), (4, 1, (2, 0, 0, 0, 0, .iload_n 2, [])), (5, 3, (15, 147, 3, 9, 0, .nop, [("java/lang/IndexOutOfBoundsException", 13, 2, 4), ("java/lang/IllegalArgumentException", 17, 2, 4)])), (8, 1, (0, 0, 0, 0, 0, .i2l, [])), (9, 1, (13, 0, 0, 0, 0, .lastore, [])), (10, 3, (1, 0, 0, 0, 0, .goto 11, [])), (13, 2, (2, 0, 0, 0, 0, .astore 4, [])), (15, 1, (0, 0, 0, 0, 0, .iconst 1, [])), (16, 1, (4, 0, 0, 0, 0, .ireturn, [])), (17, 2, (2, 0, 0, 0, 0, .astore 4, [])), (19, 1, (0, 0, 0, 0, 0, .iconst 2, [])), (20, 1, (4, 0, 0, 0, 0, .ireturn, [])), (21, 1, (0, 0, 0, 0, 0, .iconst 0, [])), (22, 1, (4, 0, 0, 0, 0, .ireturn, []))]
set_option maxRecDepth 20000 in
def mh_383 : List (Nat × Nat × Nat) := [(0, 0, 0), (0, 0, 0), (0, 0, 0), (0, 0, 0), (0, 0, 0), (145, 1467, 1469), (0, 0, 0), (0, 0, 0), (0, 0, 0), (0, 0, 0), (0, 0, 0), (0, 0, 0), (0, 0, 0), (0, 0, 0), (0, 0, 0), (0, 0, 0), (0, 0, 0)]
set_option maxRecDepth 20000 in
def mt_383 : mm_M := (mc_383, 5, ⟨"DecisionDiagramsLaw", "setCost", "(LDecisionDiagrams;II[J)I"⟩, method_43_code, some .int, [(0, 10, 13, 32), (0, 10, 17, 19)])
-- DecisionDiagramsLaw.setPercent(LDecisionDiagrams;II[J)I
set_option maxRecDepth 20000 in
def mc_384 : mm_Code := [(0, 1, (2, 0, 0, 0, 0, .aload_n 3, [])), (1, 1, (0, 0, 0, 0, 0, .iconst 0, [])), (2, 1, (2, 0, 0, 0, 0, .aload_n 0, [])), (3, 1, (2, 0, 0, 0, 0, .iload_n 1, [])), (4, 1, (2, 0, 0, 0, 0, .iload_n 2, [])), (5, 3, (15, 148, 3, 9, 0, .nop, [("java/lang/IndexOutOfBoundsException", 13, 2, 4), ("java/lang/IllegalArgumentException", 17, 2, 4)])), (8, 1, (0, 0, 0, 0, 0, .i2l, [])), (9, 1, (13, 0, 0, 0, 0, .lastore, [])), (10, 3, (1, 0, 0, 0, 0, .goto 11, [])), (13, 2, (2, 0, 0, 0, 0, .astore 4, [])), (15, 1, (0, 0, 0, 0, 0, .iconst 1, [])), (16, 1, (4, 0, 0, 0, 0, .ireturn, [])), (17, 2, (2, 0, 0, 0, 0, .astore 4, [])), (19, 1, (0, 0, 0, 0, 0, .iconst 2, [])), (20, 1, (4, 0, 0, 0, 0, .ireturn, [])), (21, 1, (0, 0, 0, 0, 0, .iconst 0, [])), (22, 1, (4, 0, 0, 0, 0, .ireturn, []))]
set_option maxRecDepth 20000 in
def mh_384 : List (Nat × Nat × Nat) := [(0, 0, 0), (0, 0, 0), (0, 0, 0), (0, 0, 0), (0, 0, 0), (148, 1475, 1477), (0, 0, 0), (0, 0, 0), (0, 0, 0), (0, 0, 0), (0, 0, 0), (0, 0, 0), (0, 0, 0), (0, 0, 0), (0, 0, 0), (0, 0, 0), (0, 0, 0)]
set_option maxRecDepth 20000 in
def mt_384 : mm_M := (mc_384, 5, ⟨"DecisionDiagramsLaw", "setPercent", "(LDecisionDiagrams;II[J)I"⟩, method_44_code, some .int, [(0, 10, 13, 32), (0, 10, 17, 19)])
-- DecisionDiagramsLaw.script(LDecisionDiagrams;[J)I
set_option maxRecDepth 20000 in
def mc_385 : mm_Code := [(0, 1, (2, 0, 0, 0, 0, .aload_n 1, [])), (1, 1, (0, 0, 0, 0, 0, .iconst 0, [])), (2, 1, (2, 0, 0, 0, 0, .aload_n 0, [])), (3, 3, (15, 149, 1, 9, 0, .nop, [("java/lang/IllegalArgumentException", 11, 1, 2)])), (6, 1, (0, 0, 0, 0, 0, .i2l, [])), (7, 1, (13, 0, 0, 0, 0, .lastore, [])), (8, 3, (1, 0, 0, 0, 0, .goto 6, [])), (11, 1, (2, 0, 0, 0, 0, .astore_n 2, [])), (12, 1, (0, 0, 0, 0, 0, .iconst 1, [])), (13, 1, (4, 0, 0, 0, 0, .ireturn, [])), (14, 1, (0, 0, 0, 0, 0, .iconst 0, [])), (15, 1, (4, 0, 0, 0, 0, .ireturn, []))]
set_option maxRecDepth 20000 in
def mh_385 : List (Nat × Nat × Nat) := [(0, 0, 0), (0, 0, 0), (0, 0, 0), (151, 1483, 1485), (0, 0, 0), (0, 0, 0), (0, 0, 0), (0, 0, 0), (0, 0, 0), (0, 0, 0), (0, 0, 0), (0, 0, 0)]
set_option maxRecDepth 20000 in
def mt_385 : mm_M := (mc_385, 3, ⟨"DecisionDiagramsLaw", "script", "(LDecisionDiagrams;[J)I"⟩, method_45_code, some .int, [(0, 8, 11, 19)])
-- DecisionDiagramsLaw.undo(LDecisionDiagrams;[J)I
set_option maxRecDepth 20000 in
def mc_386 : mm_Code := [(0, 1, (2, 0, 0, 0, 0, .aload_n 1, [])), (1, 1, (0, 0, 0, 0, 0, .iconst 0, [])), (2, 1, (2, 0, 0, 0, 0, .aload_n 0, [])), (3, 3, (15, 150, 1, 9, 0, .nop, [("java/lang/IllegalStateException", 11, 1, 2)])), (6, 1, (0, 0, 0, 0, 0, .i2l, [])), (7, 1, (13, 0, 0, 0, 0, .lastore, [])), (8, 3, (1, 0, 0, 0, 0, .goto 6, [])), (11, 1, (2, 0, 0, 0, 0, .astore_n 2, [])), (12, 1, (0, 0, 0, 0, 0, .iconst 1, [])), (13, 1, (4, 0, 0, 0, 0, .ireturn, [])), (14, 1, (0, 0, 0, 0, 0, .iconst 0, [])), (15, 1, (4, 0, 0, 0, 0, .ireturn, []))]
set_option maxRecDepth 20000 in
def mh_386 : List (Nat × Nat × Nat) := [(0, 0, 0), (0, 0, 0), (0, 0, 0), (154, 1496, 1498), (0, 0, 0), (0, 0, 0), (0, 0, 0), (0, 0, 0), (0, 0, 0), (0, 0, 0), (0, 0, 0), (0, 0, 0)]
set_option maxRecDepth 20000 in
def mt_386 : mm_M := (mc_386, 3, ⟨"DecisionDiagramsLaw", "undo", "(LDecisionDiagrams;[J)I"⟩, method_46_code, some .int, [(0, 8, 11, 13)])
-- DecisionDiagramsLaw.save(LDecisionDiagrams;I[J)I
set_option maxRecDepth 20000 in
def mc_387 : mm_Code := [(0, 1, (2, 0, 0, 0, 0, .aload_n 2, [])), (1, 1, (0, 0, 0, 0, 0, .iconst 0, [])), (2, 1, (2, 0, 0, 0, 0, .aload_n 0, [])), (3, 1, (2, 0, 0, 0, 0, .iload_n 1, [])), (4, 3, (15, 151, 2, 9, 0, .nop, [("java/lang/IndexOutOfBoundsException", 12, 1, 3)])), (7, 1, (0, 0, 0, 0, 0, .i2l, [])), (8, 1, (13, 0, 0, 0, 0, .lastore, [])), (9, 3, (1, 0, 0, 0, 0, .goto 6, [])), (12, 1, (2, 0, 0, 0, 0, .astore_n 3, [])), (13, 1, (0, 0, 0, 0, 0, .iconst 1, [])), (14, 1, (4, 0, 0, 0, 0, .ireturn, [])), (15, 1, (0, 0, 0, 0, 0, .iconst 0, [])), (16, 1, (4, 0, 0, 0, 0, .ireturn, []))]
set_option maxRecDepth 20000 in
def mh_387 : List (Nat × Nat × Nat) := [(0, 0, 0), (0, 0, 0), (0, 0, 0), (0, 0, 0), (157, 1508, 1510), (0, 0, 0), (0, 0, 0), (0, 0, 0), (0, 0, 0), (0, 0, 0), (0, 0, 0), (0, 0, 0), (0, 0, 0)]
set_option maxRecDepth 20000 in
def mt_387 : mm_M := (mc_387, 4, ⟨"DecisionDiagramsLaw", "save", "(LDecisionDiagrams;I[J)I"⟩, method_47_code, some .int, [(0, 9, 12, 32)])
-- DecisionDiagramsLaw.restore(LDecisionDiagrams;I[J)I
set_option maxRecDepth 20000 in
def mc_388 : mm_Code := [(0, 1, (2, 0, 0, 0, 0, .aload_n 2, [])), (1, 1, (0, 0, 0, 0, 0, .iconst 0, [])), (2, 1, (2, 0, 0, 0, 0, .aload_n 0, [])), (3, 1, (2, 0, 0, 0, 0, .iload_n 1, [])), (4, 3, (15, 152, 2, 9, 0, .nop, [("java/lang/IndexOutOfBoundsException", 12, 1, 3), ("java/lang/IllegalStateException", 15, 1, 3)])), (7, 1, (0, 0, 0, 0, 0, .i2l, [])), (8, 1, (13, 0, 0, 0, 0, .lastore, [])), (9, 3, (1, 0, 0, 0, 0, .goto 9, [])), (12, 1, (2, 0, 0, 0, 0, .astore_n 3, [])), (13, 1, (0, 0, 0, 0, 0, .iconst 1, [])), (14, 1, (4, 0, 0, 0, 0, .ireturn, [])), (15, 1, (2, 0, 0, 0, 0, .astore_n 3, [])), (16, 1, (0, 0, 0, 0, 0, .iconst 2, [])), (17, 1, (4, 0, 0, 0, 0, .ireturn, [])), (18, 1, (0, 0, 0, 0, 0, .iconst 0, [])), (19, 1, (4, 0, 0, 0, 0, .ireturn, []))]
set_option maxRecDepth 20000 in
def mh_388 : List (Nat × Nat × Nat) := [(0, 0, 0), (0, 0, 0), (0, 0, 0), (0, 0, 0), (160, 1520, 1522), (0, 0, 0), (0, 0, 0), (0, 0, 0), (0, 0, 0), (0, 0, 0), (0, 0, 0), (0, 0, 0), (0, 0, 0), (0, 0, 0), (0, 0, 0), (0, 0, 0)]
set_option maxRecDepth 20000 in
def mt_388 : mm_M := (mc_388, 4, ⟨"DecisionDiagramsLaw", "restore", "(LDecisionDiagrams;I[J)I"⟩, method_48_code, some .int, [(0, 9, 12, 32), (0, 9, 15, 13)])
-- DecisionDiagramsLaw.writeFunction(LDecisionDiagrams;I[J)I
set_option maxRecDepth 20000 in
def mc_389 : mm_Code := [(0, 1, (2, 0, 0, 0, 0, .aload_n 2, [])), (1, 1, (0, 0, 0, 0, 0, .iconst 0, [])), (2, 1, (2, 0, 0, 0, 0, .aload_n 0, [])), (3, 1, (2, 0, 0, 0, 0, .iload_n 1, [])), (4, 3, (15, 153, 2, 9, 0, .nop, [("java/lang/IndexOutOfBoundsException", 12, 1, 3)])), (7, 1, (0, 0, 0, 0, 0, .i2l, [])), (8, 1, (13, 0, 0, 0, 0, .lastore, [])), (9, 3, (1, 0, 0, 0, 0, .goto 6, [])), (12, 1, (2, 0, 0, 0, 0, .astore_n 3, [])), (13, 1, (0, 0, 0, 0, 0, .iconst 1, [])), (14, 1, (4, 0, 0, 0, 0, .ireturn, [])), (15, 1, (0, 0, 0, 0, 0, .iconst 0, [])), (16, 1, (4, 0, 0, 0, 0, .ireturn, []))]
set_option maxRecDepth 20000 in
def mh_389 : List (Nat × Nat × Nat) := [(0, 0, 0), (0, 0, 0), (0, 0, 0), (0, 0, 0), (163, 1528, 1530), (0, 0, 0), (0, 0, 0), (0, 0, 0), (0, 0, 0), (0, 0, 0), (0, 0, 0), (0, 0, 0), (0, 0, 0)]
set_option maxRecDepth 20000 in
def mt_389 : mm_M := (mc_389, 4, ⟨"DecisionDiagramsLaw", "writeFunction", "(LDecisionDiagrams;I[J)I"⟩, method_49_code, some .int, [(0, 9, 12, 32)])
-- DecisionDiagramsLaw.textByte(LDecisionDiagrams;I[J)I
set_option maxRecDepth 20000 in
def mc_390 : mm_Code := [(0, 1, (2, 0, 0, 0, 0, .aload_n 2, [])), (1, 1, (0, 0, 0, 0, 0, .iconst 0, [])), (2, 1, (2, 0, 0, 0, 0, .aload_n 0, [])), (3, 1, (2, 0, 0, 0, 0, .iload_n 1, [])), (4, 3, (15, 155, 2, 9, 0, .nop, [("java/lang/IndexOutOfBoundsException", 12, 1, 3)])), (7, 1, (0, 0, 0, 0, 0, .i2l, [])), (8, 1, (13, 0, 0, 0, 0, .lastore, [])), (9, 3, (1, 0, 0, 0, 0, .goto 6, [])), (12, 1, (2, 0, 0, 0, 0, .astore_n 3, [])), (13, 1, (0, 0, 0, 0, 0, .iconst 1, [])), (14, 1, (4, 0, 0, 0, 0, .ireturn, [])), (15, 1, (0, 0, 0, 0, 0, .iconst 0, [])), (16, 1, (4, 0, 0, 0, 0, .ireturn, []))]
set_option maxRecDepth 20000 in
def mh_390 : List (Nat × Nat × Nat) := [(0, 0, 0), (0, 0, 0), (0, 0, 0), (0, 0, 0), (166, 1543, 1545), (0, 0, 0), (0, 0, 0), (0, 0, 0), (0, 0, 0), (0, 0, 0), (0, 0, 0), (0, 0, 0), (0, 0, 0)]
set_option maxRecDepth 20000 in
def mt_390 : mm_M := (mc_390, 4, ⟨"DecisionDiagramsLaw", "textByte", "(LDecisionDiagrams;I[J)I"⟩, method_50_code, some .int, [(0, 9, 12, 32)])
