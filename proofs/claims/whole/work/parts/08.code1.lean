set_option maxRecDepth 100000 in
def mA_init : sM := (⟨"TermBench$Alphabet", "<init>", "()V"⟩, prog_2_method_1_code, 1, none, [(0, .aload_n 0, 0, 0), (1, .invokespecial 3, 0, 0), (4, .aload_n 0, 0, 0), (5, .bipush 40, 0, 0), (7, .newarray .int, 0, 0), (9, .putfield 9, 1, 0), (12, .aload_n 0, 0, 0), (13, .bipush 40, 0, 0), (15, .newarray .boolean, 0, 0), (17, .putfield 15, 1, 1), (20, .return_, 0, 0), (21, .nop, 0, 0)], [])
set_option maxRecDepth 100000 in
set_option maxHeartbeats 4000000 in
theorem ct_A_init : sCert mA_init := sCert_of (by decide +kernel)
set_option maxRecDepth 100000 in
def mA_enter : sM := (⟨"TermBench$Alphabet", "enter", "(IZ)I"⟩, prog_2_method_2_code, 4, (some .int), [(0, .aload_n 0, 0, 0), (1, .getfield 19, 1, 2), (4, .istore_n 3, 0, 0), (5, .aload_n 0, 0, 0), (6, .getfield 9, 1, 0), (9, .iload_n 3, 0, 0), (10, .iload_n 1, 0, 0), (11, .iastore, 0, 0), (12, .aload_n 0, 0, 0), (13, .getfield 15, 1, 1), (16, .iload_n 3, 0, 0), (17, .iload_n 2, 0, 0), (18, .bastore, 0, 0), (19, .aload_n 0, 0, 0), (20, .dup, 0, 0), (21, .getfield 19, 1, 2), (24, .iconst 1, 0, 0), (25, .iadd, 0, 0), (26, .putfield 19, 1, 2), (29, .iload_n 3, 0, 0), (30, .ireturn, 0, 0), (31, .nop, 0, 0)], [])
set_option maxRecDepth 100000 in
set_option maxHeartbeats 4000000 in
theorem ct_A_enter : sCert mA_enter := sCert_of (by decide +kernel)
set_option maxRecDepth 100000 in
def mA_termsOf : sM := (⟨"TermBench$Alphabet", "termsOf", "(I)I"⟩, prog_2_method_3_code, 2, (some .int), [(0, .iload_n 1, 0, 0), (1, .ifCond .ge 7, 4, 0), (4, .iconst 0, 0, 0), (5, .goto 9, 8, 0), (8, .aload_n 0, 0, 0), (9, .getfield 9, 1, 0), (12, .iload_n 1, 0, 0), (13, .iaload, 0, 0), (14, .ireturn, 0, 0), (15, .nop, 0, 0)], [])
set_option maxRecDepth 100000 in
set_option maxHeartbeats 4000000 in
theorem ct_A_termsOf : sCert mA_termsOf := sCert_of (by decide +kernel)
set_option maxRecDepth 100000 in
def mA_isPredicate : sM := (⟨"TermBench$Alphabet", "isPredicate", "(I)Z"⟩, prog_2_method_4_code, 2, (some .boolean), [(0, .iload_n 1, 0, 0), (1, .ifCond .lt 16, 9, 0), (4, .aload_n 0, 0, 0), (5, .getfield 15, 1, 1), (8, .iload_n 1, 0, 0), (9, .baload, 0, 0), (10, .ifCond .eq 7, 9, 0), (13, .iconst 1, 0, 0), (14, .goto 4, 10, 0), (17, .iconst 0, 0, 0), (18, .ireturn, 0, 0), (19, .nop, 0, 0)], [])
set_option maxRecDepth 100000 in
set_option maxHeartbeats 4000000 in
theorem ct_A_isPredicate : sCert mA_isPredicate := sCert_of (by decide +kernel)
set_option maxRecDepth 100000 in
def mT_init : sM := (⟨"TermBench$Term", "<init>", "()V"⟩, prog_4_method_1_code, 1, none, [(0, .aload_n 0, 0, 0), (1, .invokespecial 3, 0, 0), (4, .aload_n 0, 0, 0), (5, .bipush 100, 0, 0), (7, .newarray .int, 0, 0), (9, .putfield 9, 2, 0), (12, .aload_n 0, 0, 0), (13, .bipush 100, 0, 0), (15, .newarray .int, 0, 0), (17, .putfield 15, 2, 1), (20, .aload_n 0, 0, 0), (21, .getfield 9, 2, 0), (24, .iconst 0, 0, 0), (25, .iconst (-1), 0, 0), (26, .iastore, 0, 0), (27, .aload_n 0, 0, 0), (28, .getfield 15, 2, 1), (31, .iconst 0, 0, 0), (32, .iconst 1, 0, 0), (33, .iastore, 0, 0), (34, .aload_n 0, 0, 0), (35, .iconst 1, 0, 0), (36, .putfield 18, 2, 2), (39, .return_, 0, 0), (40, .nop, 0, 0)], [])
set_option maxRecDepth 100000 in
set_option maxHeartbeats 4000000 in
theorem ct_T_init : sCert mT_init := sCert_of (by decide +kernel)
set_option maxRecDepth 100000 in
def mT_add : sM := (⟨"TermBench$Term", "add", "(I)V"⟩, prog_4_method_2_code, 2, none, [(0, .aload_n 0, 0, 0), (1, .getfield 18, 2, 2), (4, .bipush 100, 0, 0), (6, .if_icmp .ge 23, 16, 0), (9, .aload_n 0, 0, 0), (10, .getfield 9, 2, 0), (13, .aload_n 0, 0, 0), (14, .getfield 18, 2, 2), (17, .iload_n 1, 0, 0), (18, .iastore, 0, 0), (19, .aload_n 0, 0, 0), (20, .dup, 0, 0), (21, .getfield 18, 2, 2), (24, .iconst 1, 0, 0), (25, .iadd, 0, 0), (26, .putfield 18, 2, 2), (29, .return_, 0, 0), (30, .nop, 0, 0)], [])
set_option maxRecDepth 100000 in
set_option maxHeartbeats 4000000 in
theorem ct_T_add : sCert mT_add := sCert_of (by decide +kernel)
set_option maxRecDepth 100000 in
def mT_addPart : sM := (⟨"TermBench$Term", "addPart", "(LTermBench$Term;II)V"⟩, prog_4_method_3_code, 5, none, [(0, .iload_n 2, 0, 0), (1, .istore 4, 0, 0), (3, .iload 4, 0, 0), (5, .iload_n 3, 0, 0), (6, .if_icmp .ge 20, 13, 0), (9, .aload_n 0, 0, 0), (10, .aload_n 1, 0, 0), (11, .getfield 9, 2, 0), (14, .iload 4, 0, 0), (16, .iaload, 0, 0), (17, .invokevirtual 22, 0, 0), (20, .iinc 4 1, 0, 0), (23, .goto (-20), 2, 0), (26, .return_, 0, 0), (27, .nop, 0, 0)], [])
set_option maxRecDepth 100000 in
set_option maxHeartbeats 4000000 in
theorem ct_T_addPart : sCert mT_addPart := sCert_of (by decide +kernel)
set_option maxRecDepth 100000 in
def mT_become : sM := (⟨"TermBench$Term", "become", "(LTermBench$Term;)V"⟩, prog_4_method_4_code, 2, none, [(0, .aload_n 1, 0, 0), (1, .getfield 9, 2, 0), (4, .iconst 0, 0, 0), (5, .aload_n 0, 0, 0), (6, .getfield 9, 2, 0), (9, .iconst 0, 0, 0), (10, .aload_n 1, 0, 0), (11, .getfield 18, 2, 2), (14, .invokestatic 26, 0, 0), (17, .aload_n 1, 0, 0), (18, .getfield 15, 2, 1), (21, .iconst 0, 0, 0), (22, .aload_n 0, 0, 0), (23, .getfield 15, 2, 1), (26, .iconst 0, 0, 0), (27, .aload_n 1, 0, 0), (28, .getfield 18, 2, 2), (31, .invokestatic 26, 0, 0), (34, .aload_n 0, 0, 0), (35, .aload_n 1, 0, 0), (36, .getfield 18, 2, 2), (39, .putfield 18, 2, 2), (42, .return_, 0, 0), (43, .nop, 0, 0)], [])
set_option maxRecDepth 100000 in
set_option maxHeartbeats 4000000 in
theorem ct_T_become : sCert mT_become := sCert_of (by decide +kernel)
set_option maxRecDepth 100000 in
def mT_findEnds : sM := (⟨"TermBench$Term", "findEnds", "(LTermBench$Alphabet;)V"⟩, prog_4_method_5_code, 6, none, [(0, .aload_n 0, 0, 0), (1, .getfield 18, 2, 2), (4, .iconst 1, 0, 0), (5, .isub, 0, 0), (6, .istore_n 2, 0, 0), (7, .iload_n 2, 0, 0), (8, .ifCond .lt 63, 41, 0), (11, .iload_n 2, 0, 0), (12, .iconst 1, 0, 0), (13, .iadd, 0, 0), (14, .istore_n 3, 0, 0), (15, .aload_n 1, 0, 0), (16, .aload_n 0, 0, 0), (17, .getfield 9, 2, 0), (20, .iload_n 2, 0, 0), (21, .iaload, 0, 0), (22, .invokevirtual 32, 0, 0), (25, .istore 4, 0, 0), (27, .iconst 0, 0, 0), (28, .istore 5, 0, 0), (30, .iload 5, 0, 0), (32, .iload 4, 0, 0), (34, .if_icmp .ge 24, 34, 0), (37, .iload_n 3, 0, 0), (38, .aload_n 0, 0, 0), (39, .getfield 18, 2, 2), (42, .if_icmp .ge 16, 34, 0), (45, .aload_n 0, 0, 0), (46, .getfield 15, 2, 1), (49, .iload_n 3, 0, 0), (50, .iaload, 0, 0), (51, .istore_n 3, 0, 0), (52, .iinc 5 1, 0, 0), (55, .goto (-25), 20, 0), (58, .aload_n 0, 0, 0), (59, .getfield 15, 2, 1), (62, .iload_n 2, 0, 0), (63, .iload_n 3, 0, 0), (64, .iastore, 0, 0), (65, .iinc 2 (-1), 0, 0), (68, .goto (-61), 5, 0), (71, .return_, 0, 0), (72, .nop, 0, 0)], [])
set_option maxRecDepth 100000 in
set_option maxHeartbeats 4000000 in
theorem ct_T_findEnds : sCert mT_findEnds := sCert_of (by decide +kernel)
set_option maxRecDepth 100000 in
def mT_weightAt : sM := (⟨"TermBench$Term", "weightAt", "(I)I"⟩, prog_4_method_6_code, 2, (some .int), [(0, .aload_n 0, 0, 0), (1, .getfield 15, 2, 1), (4, .iload_n 1, 0, 0), (5, .iaload, 0, 0), (6, .iload_n 1, 0, 0), (7, .isub, 0, 0), (8, .ireturn, 0, 0), (9, .nop, 0, 0)], [])
set_option maxRecDepth 100000 in
set_option maxHeartbeats 4000000 in
theorem ct_T_weightAt : sCert mT_weightAt := sCert_of (by decide +kernel)
set_option maxRecDepth 100000 in
def mT_firstDifference : sM := (⟨"TermBench$Term", "firstDifference", "(ILTermBench$Term;I)I"⟩, prog_4_method_7_code, 6, (some .int), [(0, .aload_n 0, 0, 0), (1, .iload_n 1, 0, 0), (2, .invokevirtual 38, 0, 0), (5, .aload_n 2, 0, 0), (6, .iload_n 3, 0, 0), (7, .invokevirtual 38, 0, 0), (10, .invokestatic 41, 0, 0), (13, .istore 4, 0, 0), (15, .iconst 0, 0, 0), (16, .istore 5, 0, 0), (18, .iload 5, 0, 0), (20, .iload 4, 0, 0), (22, .if_icmp .ge 33, 30, 0), (25, .aload_n 0, 0, 0), (26, .getfield 9, 2, 0), (29, .iload_n 1, 0, 0), (30, .iload 5, 0, 0), (32, .iadd, 0, 0), (33, .iaload, 0, 0), (34, .aload_n 2, 0, 0), (35, .getfield 9, 2, 0), (38, .iload_n 3, 0, 0), (39, .iload 5, 0, 0), (41, .iadd, 0, 0), (42, .iaload, 0, 0), (43, .if_icmp .eq 6, 28, 0), (46, .iload 5, 0, 0), (48, .ireturn, 0, 0), (49, .iinc 5 1, 0, 0), (52, .goto (-34), 10, 0), (55, .iconst (-1), 0, 0), (56, .ireturn, 0, 0), (57, .nop, 0, 0)], [])
set_option maxRecDepth 100000 in
set_option maxHeartbeats 4000000 in
theorem ct_T_firstDifference : sCert mT_firstDifference := sCert_of (by decide +kernel)
set_option maxRecDepth 100000 in
def mT_isAt : sM := (⟨"TermBench$Term", "isAt", "(ILTermBench$Term;I)Z"⟩, prog_4_method_8_code, 4, (some .boolean), [(0, .aload_n 0, 0, 0), (1, .iload_n 1, 0, 0), (2, .aload_n 2, 0, 0), (3, .iload_n 3, 0, 0), (4, .invokevirtual 47, 0, 0), (7, .ifCond .ge 7, 8, 0), (10, .iconst 1, 0, 0), (11, .goto 4, 9, 0), (14, .iconst 0, 0, 0), (15, .ireturn, 0, 0), (16, .nop, 0, 0)], [])
set_option maxRecDepth 100000 in
set_option maxHeartbeats 4000000 in
theorem ct_T_isAt : sCert mT_isAt := sCert_of (by decide +kernel)
set_option maxRecDepth 100000 in
def mT_variables : sM := (⟨"TermBench$Term", "variables", "()I"⟩, prog_4_method_9_code, 3, (some .int), [(0, .iconst 0, 0, 0), (1, .istore_n 1, 0, 0), (2, .iconst 0, 0, 0), (3, .istore_n 2, 0, 0), (4, .iload_n 2, 0, 0), (5, .aload_n 0, 0, 0), (6, .getfield 18, 2, 2), (9, .if_icmp .ge 31, 26, 0), (12, .aload_n 0, 0, 0), (13, .getfield 9, 2, 0), (16, .iload_n 2, 0, 0), (17, .iaload, 0, 0), (18, .ifCond .ge 16, 24, 0), (21, .iload_n 1, 0, 0), (22, .iconst 1, 0, 0), (23, .iconst (-1), 0, 0), (24, .aload_n 0, 0, 0), (25, .getfield 9, 2, 0), (28, .iload_n 2, 0, 0), (29, .iaload, 0, 0), (30, .isub, 0, 0), (31, .ishl, 0, 0), (32, .ior, 0, 0), (33, .istore_n 1, 0, 0), (34, .iinc 2 1, 0, 0), (37, .goto (-33), 4, 0), (40, .iload_n 1, 0, 0), (41, .ireturn, 0, 0), (42, .nop, 0, 0)], [])
set_option maxRecDepth 100000 in
set_option maxHeartbeats 4000000 in
theorem ct_T_variables : sCert mT_variables := sCert_of (by decide +kernel)
set_option maxRecDepth 100000 in
def mT_depth : sM := (⟨"TermBench$Term", "depth", "()I"⟩, prog_4_method_10_code, 3, (some .int), [(0, .iconst 0, 0, 0), (1, .istore_n 1, 0, 0), (2, .iconst 0, 0, 0), (3, .istore_n 2, 0, 0), (4, .iload_n 2, 0, 0), (5, .aload_n 0, 0, 0), (6, .getfield 18, 2, 2), (9, .if_icmp .ge 19, 16, 0), (12, .iload_n 1, 0, 0), (13, .aload_n 0, 0, 0), (14, .iload_n 2, 0, 0), (15, .invokevirtual 51, 0, 0), (18, .invokestatic 54, 0, 0), (21, .istore_n 1, 0, 0), (22, .iinc 2 1, 0, 0), (25, .goto (-21), 4, 0), (28, .iload_n 1, 0, 0), (29, .ireturn, 0, 0), (30, .nop, 0, 0)], [])
set_option maxRecDepth 100000 in
set_option maxHeartbeats 4000000 in
theorem ct_T_depth : sCert mT_depth := sCert_of (by decide +kernel)
set_option maxRecDepth 100000 in
def mT_levelOf : sM := (⟨"TermBench$Term", "levelOf", "(I)I"⟩, prog_4_method_11_code, 4, (some .int), [(0, .iconst 0, 0, 0), (1, .istore_n 2, 0, 0), (2, .iconst 0, 0, 0), (3, .istore_n 3, 0, 0), (4, .iload_n 3, 0, 0), (5, .iload_n 1, 0, 0), (6, .if_icmp .gt 22, 16, 0), (9, .aload_n 0, 0, 0), (10, .getfield 15, 2, 1), (13, .iload_n 3, 0, 0), (14, .iaload, 0, 0), (15, .iload_n 1, 0, 0), (16, .if_icmp .le 6, 14, 0), (19, .iinc 2 1, 0, 0), (22, .iinc 3 1, 0, 0), (25, .goto (-21), 4, 0), (28, .iload_n 2, 0, 0), (29, .ireturn, 0, 0), (30, .nop, 0, 0)], [])
set_option maxRecDepth 100000 in
set_option maxHeartbeats 4000000 in
theorem ct_T_levelOf : sCert mT_levelOf := sCert_of (by decide +kernel)
set_option maxRecDepth 100000 in
def mV_init : sM := (⟨"TermBench$Values", "<init>", "()V"⟩, prog_6_method_1_code, 2, none, [(0, .aload_n 0, 0, 0), (1, .invokespecial 3, 0, 0), (4, .aload_n 0, 0, 0), (5, .bipush 6, 0, 0), (7, .newarray .int, 0, 0), (9, .putfield 9, 3, 0), (12, .iconst 0, 0, 0), (13, .istore_n 1, 0, 0), (14, .iload_n 1, 0, 0), (15, .bipush 6, 0, 0), (17, .if_icmp .ge 16, 18, 0), (20, .aload_n 0, 0, 0), (21, .getfield 9, 3, 0), (24, .iload_n 1, 0, 0), (25, .iconst (-1), 0, 0), (26, .iastore, 0, 0), (27, .iinc 1 1, 0, 0), (30, .goto (-16), 8, 0), (33, .return_, 0, 0), (34, .nop, 0, 0)], [])
set_option maxRecDepth 100000 in
set_option maxHeartbeats 4000000 in
theorem ct_V_init : sCert mV_init := sCert_of (by decide +kernel)
set_option maxRecDepth 100000 in
def mV_become : sM := (⟨"TermBench$Values", "become", "(LTermBench$Values;)V"⟩, prog_6_method_2_code, 2, none, [(0, .aload_n 1, 0, 0), (1, .getfield 9, 3, 0), (4, .iconst 0, 0, 0), (5, .aload_n 0, 0, 0), (6, .getfield 9, 3, 0), (9, .iconst 0, 0, 0), (10, .bipush 6, 0, 0), (12, .invokestatic 15, 0, 0), (15, .return_, 0, 0), (16, .nop, 0, 0)], [])
set_option maxRecDepth 100000 in
set_option maxHeartbeats 4000000 in
theorem ct_V_become : sCert mV_become := sCert_of (by decide +kernel)
set_option maxRecDepth 100000 in
def mV_has : sM := (⟨"TermBench$Values", "has", "(I)Z"⟩, prog_6_method_3_code, 2, (some .boolean), [(0, .iload_n 1, 0, 0), (1, .ifCond .lt 23, 13, 0), (4, .iload_n 1, 0, 0), (5, .bipush 6, 0, 0), (7, .if_icmp .ge 17, 13, 0), (10, .aload_n 0, 0, 0), (11, .getfield 9, 3, 0), (14, .iload_n 1, 0, 0), (15, .iaload, 0, 0), (16, .iconst (-1), 0, 0), (17, .if_icmp .eq 7, 13, 0), (20, .iconst 1, 0, 0), (21, .goto 4, 14, 0), (24, .iconst 0, 0, 0), (25, .ireturn, 0, 0), (26, .nop, 0, 0)], [])
set_option maxRecDepth 100000 in
set_option maxHeartbeats 4000000 in
theorem ct_V_has : sCert mV_has := sCert_of (by decide +kernel)
set_option maxRecDepth 100000 in
def mV_find : sM := (⟨"TermBench$Values", "find", "(LTermBench$Term;LTermBench$Term;ILTermBench$Alphabet;)Z"⟩, prog_6_method_4_code, 8, (some .boolean), [(0, .iconst 0, 0, 0), (1, .istore 5, 0, 0), (3, .iload 5, 0, 0), (5, .bipush 6, 0, 0), (7, .if_icmp .ge 17, 12, 0), (10, .aload_n 0, 0, 0), (11, .getfield 9, 3, 0), (14, .iload 5, 0, 0), (16, .iconst (-1), 0, 0), (17, .iastore, 0, 0), (18, .iinc 5 1, 0, 0), (21, .goto (-18), 2, 0), (24, .iload_n 3, 0, 0), (25, .istore 5, 0, 0), (27, .iconst 0, 0, 0), (28, .istore 6, 0, 0), (30, .iload 6, 0, 0), (32, .aload_n 1, 0, 0), (33, .getfield 21, 2, 2), (36, .if_icmp .ge 81, 61, 0), (39, .aload_n 1, 0, 0), (40, .getfield 27, 2, 0), (43, .iload 6, 0, 0), (45, .iaload, 0, 0), (46, .istore 7, 0, 0), (48, .iload 5, 0, 0), (50, .aload_n 2, 0, 0), (51, .getfield 21, 2, 2), (54, .if_icmp .lt 5, 31, 0), (57, .iconst 0, 0, 0), (58, .ireturn, 0, 0), (59, .iload 7, 0, 0), (61, .ifCond .lt 23, 43, 0), (64, .aload_n 2, 0, 0), (65, .getfield 27, 2, 0), (68, .iload 5, 0, 0), (70, .iaload, 0, 0), (71, .iload 7, 0, 0), (73, .if_icmp .eq 5, 41, 0), (76, .iconst 0, 0, 0), (77, .ireturn, 0, 0), (78, .iinc 5 1, 0, 0), (81, .goto 30, 59, 0), (84, .aload_n 0, 0, 0), (85, .iconst (-1), 0, 0), (86, .iload 7, 0, 0), (88, .isub, 0, 0), (89, .aload_n 2, 0, 0), (90, .iload 5, 0, 0), (92, .aload 4, 0, 0), (94, .invokevirtual 30, 0, 0), (97, .ifCond .ne 5, 54, 0), (100, .iconst 0, 0, 0), (101, .ireturn, 0, 0), (102, .aload_n 2, 0, 0), (103, .getfield 34, 2, 1), (106, .iload 5, 0, 0), (108, .iaload, 0, 0), (109, .istore 5, 0, 0), (111, .iinc 6 1, 0, 0), (114, .goto (-84), 16, 0), (117, .iconst 1, 0, 0), (118, .ireturn, 0, 0), (119, .nop, 0, 0)], [])
set_option maxRecDepth 100000 in
set_option maxHeartbeats 4000000 in
theorem ct_V_find : sCert mV_find := sCert_of (by decide +kernel)
set_option maxRecDepth 100000 in
def mV_take : sM := (⟨"TermBench$Values", "take", "(ILTermBench$Term;ILTermBench$Alphabet;)Z"⟩, prog_6_method_5_code, 5, (some .boolean), [(0, .aload_n 0, 0, 0), (1, .getfield 9, 3, 0), (4, .iload_n 1, 0, 0), (5, .iaload, 0, 0), (6, .iconst (-1), 0, 0), (7, .if_icmp .eq 16, 15, 0), (10, .aload_n 2, 0, 0), (11, .aload_n 0, 0, 0), (12, .getfield 9, 3, 0), (15, .iload_n 1, 0, 0), (16, .iaload, 0, 0), (17, .aload_n 2, 0, 0), (18, .iload_n 3, 0, 0), (19, .invokevirtual 37, 0, 0), (22, .ireturn, 0, 0), (23, .aload_n 0, 0, 0), (24, .getfield 9, 3, 0), (27, .iload_n 1, 0, 0), (28, .iload_n 3, 0, 0), (29, .iastore, 0, 0), (30, .aload 4, 0, 0), (32, .aload_n 2, 0, 0), (33, .getfield 27, 2, 0), (36, .iload_n 3, 0, 0), (37, .iaload, 0, 0), (38, .invokevirtual 41, 0, 0), (41, .ifCond .ne 7, 29, 0), (44, .iconst 1, 0, 0), (45, .goto 4, 30, 0), (48, .iconst 0, 0, 0), (49, .ireturn, 0, 0), (50, .nop, 0, 0)], [])
set_option maxRecDepth 100000 in
set_option maxHeartbeats 4000000 in
theorem ct_V_take : sCert mV_take := sCert_of (by decide +kernel)
set_option maxRecDepth 100000 in
def mV_weightOf : sM := (⟨"TermBench$Values", "weightOf", "(LTermBench$Term;LTermBench$Term;)I"⟩, prog_6_method_6_code, 6, (some .int), [(0, .iconst 0, 0, 0), (1, .istore_n 3, 0, 0), (2, .iconst 0, 0, 0), (3, .istore 4, 0, 0), (5, .iload 4, 0, 0), (7, .aload_n 1, 0, 0), (8, .getfield 21, 2, 2), (11, .if_icmp .ge 43, 30, 0), (14, .aload_n 1, 0, 0), (15, .getfield 27, 2, 0), (18, .iload 4, 0, 0), (20, .iaload, 0, 0), (21, .istore 5, 0, 0), (23, .iload_n 3, 0, 0), (24, .iload 5, 0, 0), (26, .ifCond .ge 19, 25, 0), (29, .aload_n 2, 0, 0), (30, .aload_n 0, 0, 0), (31, .getfield 9, 3, 0), (34, .iconst (-1), 0, 0), (35, .iload 5, 0, 0), (37, .isub, 0, 0), (38, .iaload, 0, 0), (39, .invokevirtual 47, 0, 0), (42, .goto 4, 26, 0), (45, .iconst 1, 0, 0), (46, .iadd, 0, 0), (47, .istore_n 3, 0, 0), (48, .iinc 4 1, 0, 0), (51, .goto (-46), 4, 0), (54, .iload_n 3, 0, 0), (55, .ireturn, 0, 0), (56, .nop, 0, 0)], [])
set_option maxRecDepth 100000 in
set_option maxHeartbeats 4000000 in
theorem ct_V_weightOf : sCert mV_weightOf := sCert_of (by decide +kernel)
set_option maxRecDepth 100000 in
def mV_fill : sM := (⟨"TermBench$Values", "fill", "(LTermBench$Term;LTermBench$Term;LTermBench$Term;)V"⟩, prog_6_method_7_code, 7, none, [(0, .aload_n 1, 0, 0), (1, .iconst 0, 0, 0), (2, .putfield 21, 2, 2), (5, .iconst 0, 0, 0), (6, .istore 4, 0, 0), (8, .iload 4, 0, 0), (10, .aload_n 2, 0, 0), (11, .getfield 21, 2, 2), (14, .if_icmp .ge 57, 37, 0), (17, .aload_n 2, 0, 0), (18, .getfield 27, 2, 0), (21, .iload 4, 0, 0), (23, .iaload, 0, 0), (24, .istore 5, 0, 0), (26, .iload 5, 0, 0), (28, .ifCond .ge 31, 32, 0), (31, .aload_n 0, 0, 0), (32, .getfield 9, 3, 0), (35, .iconst (-1), 0, 0), (36, .iload 5, 0, 0), (38, .isub, 0, 0), (39, .iaload, 0, 0), (40, .istore 6, 0, 0), (42, .aload_n 1, 0, 0), (43, .aload_n 3, 0, 0), (44, .iload 6, 0, 0), (46, .aload_n 3, 0, 0), (47, .getfield 34, 2, 1), (50, .iload 6, 0, 0), (52, .iaload, 0, 0), (53, .invokevirtual 51, 0, 0), (56, .goto 9, 35, 0), (59, .aload_n 1, 0, 0), (60, .iload 5, 0, 0), (62, .invokevirtual 55, 0, 0), (65, .iinc 4 1, 0, 0), (68, .goto (-60), 5, 0), (71, .return_, 0, 0), (72, .nop, 0, 0)], [])
set_option maxRecDepth 100000 in
set_option maxHeartbeats 4000000 in
theorem ct_V_fill : sCert mV_fill := sCert_of (by decide +kernel)
set_option maxRecDepth 100000 in
def mO_init : sM := (⟨"TermBench$Ordering", "<init>", "()V"⟩, prog_3_method_1_code, 1, none, [(0, .aload_n 0, 0, 0), (1, .invokespecial 3, 0, 0), (4, .aload_n 0, 0, 0), (5, .bipush 6, 0, 0), (7, .newarray .int, 0, 0), (9, .putfield 9, 4, 0), (12, .return_, 0, 0), (13, .nop, 0, 0)], [])
set_option maxRecDepth 100000 in
set_option maxHeartbeats 4000000 in
theorem ct_O_init : sCert mO_init := sCert_of (by decide +kernel)
set_option maxRecDepth 100000 in
def mO_isGreater : sM := (⟨"TermBench$Ordering", "isGreater", "(LTermBench$Term;ILTermBench$Term;)Z"⟩, prog_3_method_2_code, 7, (some .boolean), [(0, .aload_n 1, 0, 0), (1, .iload_n 2, 0, 0), (2, .aload_n 3, 0, 0), (3, .iconst 0, 0, 0), (4, .invokevirtual 15, 0, 0), (7, .istore 4, 0, 0), (9, .iconst 0, 0, 0), (10, .istore 5, 0, 0), (12, .iload 5, 0, 0), (14, .iload 4, 0, 0), (16, .if_icmp .gt 56, 41, 0), (19, .aload_n 1, 0, 0), (20, .getfield 21, 2, 1), (23, .iload_n 2, 0, 0), (24, .iload 5, 0, 0), (26, .iadd, 0, 0), (27, .iaload, 0, 0), (28, .iload_n 2, 0, 0), (29, .iload 4, 0, 0), (31, .iadd, 0, 0), (32, .if_icmp .le 34, 39, 0), (35, .aload_n 0, 0, 0), (36, .aload_n 1, 0, 0), (37, .iload_n 2, 0, 0), (38, .iload 5, 0, 0), (40, .iadd, 0, 0), (41, .aload_n 3, 0, 0), (42, .iload 5, 0, 0), (44, .invokevirtual 24, 0, 0), (47, .istore 6, 0, 0), (49, .iload 6, 0, 0), (51, .ifCond .eq 15, 39, 0), (54, .iload 6, 0, 0), (56, .iconst 1, 0, 0), (57, .if_icmp .ne 7, 37, 0), (60, .iconst 1, 0, 0), (61, .goto 4, 38, 0), (64, .iconst 0, 0, 0), (65, .ireturn, 0, 0), (66, .iinc 5 1, 0, 0), (69, .goto (-57), 8, 0), (72, .iconst 0, 0, 0), (73, .ireturn, 0, 0), (74, .nop, 0, 0)], [])
set_option maxRecDepth 100000 in
set_option maxHeartbeats 4000000 in
theorem ct_O_isGreater : sCert mO_isGreater := sCert_of (by decide +kernel)
set_option maxRecDepth 100000 in
def mO_compareHere : sM := (⟨"TermBench$Ordering", "compareHere", "(LTermBench$Term;ILTermBench$Term;I)I"⟩, prog_3_method_3_code, 6, (some .int), [(0, .aload_n 1, 0, 0), (1, .iload_n 2, 0, 0), (2, .invokevirtual 28, 0, 0), (5, .aload_n 3, 0, 0), (6, .iload 4, 0, 0), (8, .invokevirtual 28, 0, 0), (11, .isub, 0, 0), (12, .istore 5, 0, 0), (14, .aload_n 1, 0, 0), (15, .getfield 32, 2, 0), (18, .iload_n 2, 0, 0), (19, .iaload, 0, 0), (20, .ifCond .lt 20, 22, 0), (23, .iload 5, 0, 0), (25, .ifCond .lt 15, 22, 0), (28, .aload_n 0, 0, 0), (29, .aload_n 1, 0, 0), (30, .iload_n 2, 0, 0), (31, .aload_n 3, 0, 0), (32, .iload 4, 0, 0), (34, .invokevirtual 35, 0, 0), (37, .ifCond .ne 5, 24, 0), (40, .iconst (-1), 0, 0), (41, .ireturn, 0, 0), (42, .iload 5, 0, 0), (44, .ifCond .gt 19, 35, 0), (47, .aload_n 1, 0, 0), (48, .getfield 32, 2, 0), (51, .iload_n 2, 0, 0), (52, .iaload, 0, 0), (53, .aload_n 3, 0, 0), (54, .getfield 32, 2, 0), (57, .iload 4, 0, 0), (59, .iaload, 0, 0), (60, .if_icmp .le 5, 37, 0), (63, .iconst 1, 0, 0), (64, .ireturn, 0, 0), (65, .aload_n 1, 0, 0), (66, .getfield 32, 2, 0), (69, .iload_n 2, 0, 0), (70, .iaload, 0, 0), (71, .aload_n 3, 0, 0), (72, .getfield 32, 2, 0), (75, .iload 4, 0, 0), (77, .iaload, 0, 0), (78, .if_icmp .ge 7, 48, 0), (81, .iconst (-1), 0, 0), (82, .goto 4, 49, 0), (85, .iconst 0, 0, 0), (86, .ireturn, 0, 0), (87, .nop, 0, 0)], [])
set_option maxRecDepth 100000 in
set_option maxHeartbeats 4000000 in
theorem ct_O_compareHere : sCert mO_compareHere := sCert_of (by decide +kernel)
set_option maxRecDepth 100000 in
def mO_hasEachVariableAsOften : sM := (⟨"TermBench$Ordering", "hasEachVariableAsOften", "(LTermBench$Term;ILTermBench$Term;I)Z"⟩, prog_3_method_4_code, 6, (some .boolean), [(0, .iconst 0, 0, 0), (1, .istore 5, 0, 0), (3, .iload 5, 0, 0), (5, .bipush 6, 0, 0), (7, .if_icmp .ge 17, 12, 0), (10, .aload_n 0, 0, 0), (11, .getfield 9, 4, 0), (14, .iload 5, 0, 0), (16, .iconst 0, 0, 0), (17, .iastore, 0, 0), (18, .iinc 5 1, 0, 0), (21, .goto (-18), 2, 0), (24, .aload_n 0, 0, 0), (25, .aload_n 1, 0, 0), (26, .iload_n 2, 0, 0), (27, .iconst 1, 0, 0), (28, .invokevirtual 39, 0, 0), (31, .aload_n 0, 0, 0), (32, .aload_n 3, 0, 0), (33, .iload 4, 0, 0), (35, .iconst (-1), 0, 0), (36, .invokevirtual 39, 0, 0), (39, .iconst 0, 0, 0), (40, .istore 5, 0, 0), (42, .iload 5, 0, 0), (44, .bipush 6, 0, 0), (46, .if_icmp .ge 21, 36, 0), (49, .aload_n 0, 0, 0), (50, .getfield 9, 4, 0), (53, .iload 5, 0, 0), (55, .iaload, 0, 0), (56, .ifCond .ge 5, 34, 0), (59, .iconst 0, 0, 0), (60, .ireturn, 0, 0), (61, .iinc 5 1, 0, 0), (64, .goto (-22), 24, 0), (67, .iconst 1, 0, 0), (68, .ireturn, 0, 0), (69, .nop, 0, 0)], [])
set_option maxRecDepth 100000 in
set_option maxHeartbeats 4000000 in
theorem ct_O_hasEachVariableAsOften : sCert mO_hasEachVariableAsOften := sCert_of (by decide +kernel)
set_option maxRecDepth 100000 in
def mO_addOccurrences : sM := (⟨"TermBench$Ordering", "addOccurrences", "(LTermBench$Term;II)V"⟩, prog_3_method_5_code, 5, none, [(0, .iload_n 2, 0, 0), (1, .istore 4, 0, 0), (3, .iload 4, 0, 0), (5, .aload_n 1, 0, 0), (6, .getfield 21, 2, 1), (9, .iload_n 2, 0, 0), (10, .iaload, 0, 0), (11, .if_icmp .ge 37, 28, 0), (14, .aload_n 1, 0, 0), (15, .getfield 32, 2, 0), (18, .iload 4, 0, 0), (20, .iaload, 0, 0), (21, .ifCond .ge 21, 26, 0), (24, .aload_n 0, 0, 0), (25, .getfield 9, 4, 0), (28, .iconst (-1), 0, 0), (29, .aload_n 1, 0, 0), (30, .getfield 32, 2, 0), (33, .iload 4, 0, 0), (35, .iaload, 0, 0), (36, .isub, 0, 0), (37, .dup2, 0, 0), (38, .iaload, 0, 0), (39, .iload_n 3, 0, 0), (40, .iadd, 0, 0), (41, .iastore, 0, 0), (42, .iinc 4 1, 0, 0), (45, .goto (-42), 2, 0), (48, .return_, 0, 0), (49, .nop, 0, 0)], [])
set_option maxRecDepth 100000 in
set_option maxHeartbeats 4000000 in
theorem ct_O_addOccurrences : sCert mO_addOccurrences := sCert_of (by decide +kernel)
set_option maxRecDepth 100000 in
def mU_init : sM := (⟨"TermBench$Unifier", "<init>", "()V"⟩, prog_5_method_1_code, 1, none, [(0, .aload_n 0, 0, 0), (1, .invokespecial 5, 0, 0), (4, .aload_n 0, 0, 0), (5, .sipush 200, 0, 0), (8, .newarray .int, 0, 0), (10, .putfield 11, 5, 0), (13, .aload_n 0, 0, 0), (14, .sipush 200, 0, 0), (17, .newarray .int, 0, 0), (19, .putfield 15, 5, 1), (22, .aload_n 0, 0, 0), (23, .sipush 212, 0, 0), (26, .newarray .int, 0, 0), (28, .putfield 18, 5, 2), (31, .aload_n 0, 0, 0), (32, .sipush 212, 0, 0), (35, .newarray .int, 0, 0), (37, .putfield 21, 5, 3), (40, .aload_n 0, 0, 0), (41, .sipush 201, 0, 0), (44, .newarray .int, 0, 0), (46, .putfield 24, 5, 4), (49, .aload_n 0, 0, 0), (50, .sipush 201, 0, 0), (53, .newarray .int, 0, 0), (55, .putfield 27, 5, 5), (58, .aload_n 0, 0, 0), (59, .bipush 12, 0, 0), (61, .newarray .int, 0, 0), (63, .putfield 30, 5, 7), (66, .aload_n 0, 0, 0), (67, .bipush 12, 0, 0), (69, .newarray .int, 0, 0), (71, .putfield 33, 5, 8), (74, .return_, 0, 0), (75, .nop, 0, 0)], [])
set_option maxRecDepth 100000 in
set_option maxHeartbeats 4000000 in
theorem ct_U_init : sCert mU_init := sCert_of (by decide +kernel)
set_option maxRecDepth 100000 in
def mU_load : sM := (⟨"TermBench$Unifier", "load", "(LTermBench$Term;LTermBench$Term;Z)V"⟩, prog_5_method_2_code, 5, none, [(0, .aload_n 0, 0, 0), (1, .aload_n 1, 0, 0), (2, .iconst 0, 0, 0), (3, .iconst 0, 0, 0), (4, .invokevirtual 36, 0, 0), (7, .aload_n 0, 0, 0), (8, .aload_n 2, 0, 0), (9, .bipush 100, 0, 0), (11, .iload_n 3, 0, 0), (12, .ifCond .eq 8, 12, 0), (15, .bipush 6, 0, 0), (17, .goto 4, 13, 0), (20, .iconst 0, 0, 0), (21, .invokevirtual 36, 0, 0), (24, .iconst 0, 0, 0), (25, .istore 4, 0, 0), (27, .iload 4, 0, 0), (29, .sipush 212, 0, 0), (32, .if_icmp .ge 39, 36, 0), (35, .aload_n 0, 0, 0), (36, .getfield 18, 5, 2), (39, .iload 4, 0, 0), (41, .iload 4, 0, 0), (43, .iastore, 0, 0), (44, .aload_n 0, 0, 0), (45, .getfield 21, 5, 3), (48, .iload 4, 0, 0), (50, .iload 4, 0, 0), (52, .sipush 200, 0, 0), (55, .if_icmp .ge 8, 32, 0), (58, .iload 4, 0, 0), (60, .goto 4, 33, 0), (63, .iconst (-1), 0, 0), (64, .iastore, 0, 0), (65, .iinc 4 1, 0, 0), (68, .goto (-41), 16, 0), (71, .aload_n 0, 0, 0), (72, .iconst 0, 0, 0), (73, .putfield 40, 5, 6), (76, .aload_n 0, 0, 0), (77, .iconst 0, 0, 0), (78, .bipush 100, 0, 0), (80, .invokevirtual 44, 0, 0), (83, .return_, 0, 0), (84, .nop, 0, 0)], [])
set_option maxRecDepth 100000 in
set_option maxHeartbeats 4000000 in
theorem ct_U_load : sCert mU_load := sCert_of (by decide +kernel)
set_option maxRecDepth 100000 in
def mU_loadOne : sM := (⟨"TermBench$Unifier", "loadOne", "(LTermBench$Term;II)V"⟩, prog_5_method_3_code, 6, none, [(0, .iconst 0, 0, 0), (1, .istore 4, 0, 0), (3, .iload 4, 0, 0), (5, .aload_n 1, 0, 0), (6, .getfield 48, 2, 2), (9, .if_icmp .ge 59, 38, 0), (12, .aload_n 1, 0, 0), (13, .getfield 53, 2, 0), (16, .iload 4, 0, 0), (18, .iaload, 0, 0), (19, .istore 5, 0, 0), (21, .aload_n 0, 0, 0), (22, .getfield 11, 5, 0), (25, .iload_n 2, 0, 0), (26, .iload 4, 0, 0), (28, .iadd, 0, 0), (29, .iload 5, 0, 0), (31, .ifCond .ge 10, 22, 0), (34, .iload 5, 0, 0), (36, .iload_n 3, 0, 0), (37, .isub, 0, 0), (38, .goto 5, 23, 0), (41, .iload 5, 0, 0), (43, .iastore, 0, 0), (44, .aload_n 0, 0, 0), (45, .getfield 15, 5, 1), (48, .iload_n 2, 0, 0), (49, .iload 4, 0, 0), (51, .iadd, 0, 0), (52, .iload_n 2, 0, 0), (53, .aload_n 1, 0, 0), (54, .getfield 54, 2, 1), (57, .iload 4, 0, 0), (59, .iaload, 0, 0), (60, .iadd, 0, 0), (61, .iastore, 0, 0), (62, .iinc 4 1, 0, 0), (65, .goto (-62), 2, 0), (68, .return_, 0, 0), (69, .nop, 0, 0)], [])
set_option maxRecDepth 100000 in
set_option maxHeartbeats 4000000 in
theorem ct_U_loadOne : sCert mU_loadOne := sCert_of (by decide +kernel)
set_option maxRecDepth 100000 in
def mU_addPair : sM := (⟨"TermBench$Unifier", "addPair", "(II)V"⟩, prog_5_method_4_code, 3, none, [(0, .aload_n 0, 0, 0), (1, .getfield 40, 5, 6), (4, .sipush 201, 0, 0), (7, .if_icmp .ge 33, 22, 0), (10, .aload_n 0, 0, 0), (11, .getfield 24, 5, 4), (14, .aload_n 0, 0, 0), (15, .getfield 40, 5, 6), (18, .iload_n 1, 0, 0), (19, .iastore, 0, 0), (20, .aload_n 0, 0, 0), (21, .getfield 27, 5, 5), (24, .aload_n 0, 0, 0), (25, .getfield 40, 5, 6), (28, .iload_n 2, 0, 0), (29, .iastore, 0, 0), (30, .aload_n 0, 0, 0), (31, .dup, 0, 0), (32, .getfield 40, 5, 6), (35, .iconst 1, 0, 0), (36, .iadd, 0, 0), (37, .putfield 40, 5, 6), (40, .return_, 0, 0), (41, .nop, 0, 0)], [])
set_option maxRecDepth 100000 in
set_option maxHeartbeats 4000000 in
theorem ct_U_addPair : sCert mU_addPair := sCert_of (by decide +kernel)
set_option maxRecDepth 100000 in
def mU_hasValues : sM := (⟨"TermBench$Unifier", "hasValues", "(LTermBench$Alphabet;)Z"⟩, prog_5_method_5_code, 3, (some .boolean), [(0, .iconst 0, 0, 0), (1, .istore_n 2, 0, 0), (2, .iload_n 2, 0, 0), (3, .aload_n 0, 0, 0), (4, .getfield 40, 5, 6), (7, .if_icmp .ge 54, 33, 0), (10, .iload_n 2, 0, 0), (11, .sipush 201, 0, 0), (14, .if_icmp .ge 47, 33, 0), (17, .aload_n 0, 0, 0), (18, .aload_n 0, 0, 0), (19, .aload_n 0, 0, 0), (20, .aload_n 0, 0, 0), (21, .getfield 24, 5, 4), (24, .iload_n 2, 0, 0), (25, .iaload, 0, 0), (26, .invokevirtual 55, 0, 0), (29, .invokevirtual 59, 0, 0), (32, .aload_n 0, 0, 0), (33, .aload_n 0, 0, 0), (34, .aload_n 0, 0, 0), (35, .getfield 27, 5, 5), (38, .iload_n 2, 0, 0), (39, .iaload, 0, 0), (40, .invokevirtual 55, 0, 0), (43, .invokevirtual 59, 0, 0), (46, .aload_n 1, 0, 0), (47, .invokevirtual 62, 0, 0), (50, .ifCond .ne 5, 31, 0), (53, .iconst 0, 0, 0), (54, .ireturn, 0, 0), (55, .iinc 2 1, 0, 0), (58, .goto (-56), 2, 0), (61, .aload_n 0, 0, 0), (62, .aload_n 1, 0, 0), (63, .invokevirtual 66, 0, 0), (66, .ifCond .eq 14, 42, 0), (69, .aload_n 0, 0, 0), (70, .invokevirtual 70, 0, 0), (73, .ifCond .eq 7, 42, 0), (76, .iconst 1, 0, 0), (77, .goto 4, 43, 0), (80, .iconst 0, 0, 0), (81, .ireturn, 0, 0), (82, .nop, 0, 0)], [])
set_option maxRecDepth 100000 in
set_option maxHeartbeats 4000000 in
theorem ct_U_hasValues : sCert mU_hasValues := sCert_of (by decide +kernel)
set_option maxRecDepth 100000 in
def mU_nodeAt : sM := (⟨"TermBench$Unifier", "nodeAt", "(I)I"⟩, prog_5_method_6_code, 2, (some .int), [(0, .aload_n 0, 0, 0), (1, .getfield 11, 5, 0), (4, .iload_n 1, 0, 0), (5, .iaload, 0, 0), (6, .ifCond .ge 16, 12, 0), (9, .sipush 199, 0, 0), (12, .aload_n 0, 0, 0), (13, .getfield 11, 5, 0), (16, .iload_n 1, 0, 0), (17, .iaload, 0, 0), (18, .isub, 0, 0), (19, .goto 4, 13, 0), (22, .iload_n 1, 0, 0), (23, .ireturn, 0, 0), (24, .nop, 0, 0)], [])
set_option maxRecDepth 100000 in
set_option maxHeartbeats 4000000 in
theorem ct_U_nodeAt : sCert mU_nodeAt := sCert_of (by decide +kernel)
set_option maxRecDepth 100000 in
def mU_root : sM := (⟨"TermBench$Unifier", "root", "(I)I"⟩, prog_5_method_7_code, 4, (some .int), [(0, .iload_n 1, 0, 0), (1, .istore_n 2, 0, 0), (2, .iconst 0, 0, 0), (3, .istore_n 3, 0, 0), (4, .iload_n 3, 0, 0), (5, .sipush 212, 0, 0), (8, .if_icmp .ge 26, 20, 0), (11, .aload_n 0, 0, 0), (12, .getfield 18, 5, 2), (15, .iload_n 2, 0, 0), (16, .iaload, 0, 0), (17, .iload_n 2, 0, 0), (18, .if_icmp .eq 16, 20, 0), (21, .aload_n 0, 0, 0), (22, .getfield 18, 5, 2), (25, .iload_n 2, 0, 0), (26, .iaload, 0, 0), (27, .istore_n 2, 0, 0), (28, .iinc 3 1, 0, 0), (31, .goto (-27), 4, 0), (34, .iload_n 2, 0, 0), (35, .ireturn, 0, 0), (36, .nop, 0, 0)], [])
set_option maxRecDepth 100000 in
set_option maxHeartbeats 4000000 in
theorem ct_U_root : sCert mU_root := sCert_of (by decide +kernel)
