def pJs_coder : PM := (⟨"java/lang/String", "coder", "()B"⟩, prog_21_method_152_code, 1, some .byte, [(0, .getstatic 38, 3), (3, .ifCond .eq 10, 3), (6, .aload_n 0, 1), (7, .getfield 15, 3), (10, .goto 4, 3), (13, .iconst 1, 1), (14, .ireturn, 1)])
set_option maxRecDepth 100000 in
theorem cok_Js_coder : CodeOK pJs_coder := by unfold CodeOK; decide +kernel
theorem ht_Js_coder : hTab pJs_coder = none := ht_of rfl nl_Js
theorem pl_Js_coder : plainName (mY pJs_coder).cls = true := np_Js
theorem pm_Js_coder : PlainM pJs_coder 0 := ⟨nm_Js.1, nm_Js.2, pd_0, by decide, gt1 45 rfl rfl, gt1 3 rfl rfl⟩
theorem im_Js_coder : Cond.instanceMethod (mY pJs_coder) ∈ GW := gt1 43 rfl rfl
theorem sl_Js_coder : Cond.selects (mY pJs_coder).cls (mY pJs_coder) (mY pJs_coder) ∈ GW := gt1 44 rfl rfl
def pJs_length : PM := (⟨"java/lang/String", "length", "()I"⟩, prog_21_method_54_code, 1, some .int, [(0, .aload_n 0, 1), (1, .getfield 9, 3), (4, .arraylength, 1), (5, .aload_n 0, 1), (6, .invokevirtual 335, 3), (9, .ishr, 1), (10, .ireturn, 1)])
set_option maxRecDepth 100000 in
theorem cok_Js_length : CodeOK pJs_length := by unfold CodeOK; decide +kernel
theorem ht_Js_length : hTab pJs_length = none := ht_of rfl nl_Js
theorem pl_Js_length : plainName (mY pJs_length).cls = true := np_Js
theorem pm_Js_length : PlainM pJs_length 0 := ⟨nm_Js.1, nm_Js.2, pd_1, by decide, gt1 41 rfl rfl, gt1 3 rfl rfl⟩
theorem im_Js_length : Cond.instanceMethod (mY pJs_length) ∈ GW := gt1 39 rfl rfl
theorem sl_Js_length : Cond.selects (mY pJs_length).cls (mY pJs_length) (mY pJs_length) ∈ GW := gt1 40 rfl rfl
def pJs_isLatin1 : PM := (⟨"java/lang/String", "isLatin1", "()Z"⟩, prog_21_method_154_code, 1, some .boolean, [(0, .getstatic 38, 3), (3, .ifCond .eq 14, 3), (6, .aload_n 0, 1), (7, .getfield 15, 3), (10, .ifCond .ne 7, 3), (13, .iconst 1, 1), (14, .goto 4, 3), (17, .iconst 0, 1), (18, .ireturn, 1)])
set_option maxRecDepth 100000 in
theorem cok_Js_isLatin1 : CodeOK pJs_isLatin1 := by unfold CodeOK; decide +kernel
theorem ht_Js_isLatin1 : hTab pJs_isLatin1 = none := ht_of rfl nl_Js
theorem pl_Js_isLatin1 : plainName (mY pJs_isLatin1).cls = true := np_Js
theorem pm_Js_isLatin1 : PlainM pJs_isLatin1 0 := ⟨nm_Js.1, nm_Js.2, pd_3, by decide, gt1 55 rfl rfl, gt1 3 rfl rfl⟩
theorem im_Js_isLatin1 : Cond.instanceMethod (mY pJs_isLatin1) ∈ GW := gt1 53 rfl rfl
theorem sl_Js_isLatin1 : Cond.selects (mY pJs_isLatin1).cls (mY pJs_isLatin1) (mY pJs_isLatin1) ∈ GW := gt1 54 rfl rfl
def pJp_checkIndex : PM := (⟨"jdk/internal/util/Preconditions", "checkIndex", "(IILjava/util/function/BiFunction;)I"⟩, prog_28_method_11_code, 3, some .int, [(0, .iload_n 0, 1), (1, .ifCond .lt 8, 3), (4, .iload_n 0, 1), (5, .iload_n 1, 1), (6, .if_icmp .lt 10, 3), (9, .aload_n 2, 1), (10, .iload_n 0, 1), (11, .iload_n 1, 1), (12, .invokestatic 95, 3), (15, .athrow, 1), (16, .iload_n 0, 1), (17, .ireturn, 1)])
set_option maxRecDepth 100000 in
theorem cok_Jp_checkIndex : CodeOK pJp_checkIndex := by unfold CodeOK; decide +kernel
theorem ht_Jp_checkIndex : hTab pJp_checkIndex = none := ht_of rfl nl_Jp
theorem pl_Jp_checkIndex : plainName (mY pJp_checkIndex).cls = true := np_Jp
theorem pm_Jp_checkIndex : PlainM pJp_checkIndex 3 := ⟨nm_Jp.1, nm_Jp.2, pd_20, by decide, gt1 66 rfl rfl, gt1 5 rfl rfl⟩
theorem st_Jp_checkIndex : Cond.static (mY pJp_checkIndex) ∈ GW := gt1 65 rfl rfl
def pJs_checkIndex : PM := (⟨"java/lang/String", "checkIndex", "(II)V"⟩, prog_21_method_155_code, 2, none, [(0, .iload_n 0, 1), (1, .iload_n 1, 1), (2, .getstatic 1053, 3), (5, .invokestatic 1059, 3), (8, .pop, 1), (9, .return_, 1)])
set_option maxRecDepth 100000 in
theorem cok_Js_checkIndex : CodeOK pJs_checkIndex := by unfold CodeOK; decide +kernel
theorem ht_Js_checkIndex : hTab pJs_checkIndex = none := ht_of rfl nl_Js
theorem pl_Js_checkIndex : plainName (mY pJs_checkIndex).cls = true := np_Js
theorem pm_Js_checkIndex : PlainM pJs_checkIndex 2 := ⟨nm_Js.1, nm_Js.2, pd_9, by decide, gt1 61 rfl rfl, gt1 3 rfl rfl⟩
theorem st_Js_checkIndex : Cond.static (mY pJs_checkIndex) ∈ GW := gt1 60 rfl rfl
def pJl_charAt : PM := (⟨"java/lang/StringLatin1", "charAt", "([BI)C"⟩, prog_22_method_2_code, 2, some .char, [(0, .iload_n 1, 1), (1, .aload_n 0, 1), (2, .arraylength, 1), (3, .invokestatic 9, 3), (6, .aload_n 0, 1), (7, .iload_n 1, 1), (8, .baload, 1), (9, .sipush 255, 3), (12, .iand, 1), (13, .i2c, 1), (14, .ireturn, 1)])
set_option maxRecDepth 100000 in
theorem cok_Jl_charAt : CodeOK pJl_charAt := by unfold CodeOK; decide +kernel
theorem ht_Jl_charAt : hTab pJl_charAt = none := ht_of rfl nl_Jl
theorem pl_Jl_charAt : plainName (mY pJl_charAt).cls = true := np_Jl
theorem pm_Jl_charAt : PlainM pJl_charAt 2 := ⟨nm_Jl.1, nm_Jl.2, pd_51, by decide, gt1 58 rfl rfl, gt1 4 rfl rfl⟩
theorem st_Jl_charAt : Cond.static (mY pJl_charAt) ∈ GW := gt1 57 rfl rfl
def pJs_charAt : PM := (⟨"java/lang/String", "charAt", "(I)C"⟩, prog_21_method_56_code, 2, some .char, [(0, .aload_n 0, 1), (1, .invokevirtual 492, 3), (4, .ifCond .eq 12, 3), (7, .aload_n 0, 1), (8, .getfield 9, 3), (11, .iload_n 1, 1), (12, .invokestatic 495, 3), (15, .ireturn, 1), (16, .aload_n 0, 1), (17, .getfield 9, 3), (20, .iload_n 1, 1), (21, .invokestatic 498, 3), (24, .ireturn, 1)])
set_option maxRecDepth 100000 in
theorem cok_Js_charAt : CodeOK pJs_charAt := by unfold CodeOK; decide +kernel
theorem ht_Js_charAt : hTab pJs_charAt = none := ht_of rfl nl_Js
theorem pl_Js_charAt : plainName (mY pJs_charAt).cls = true := np_Js
theorem pm_Js_charAt : PlainM pJs_charAt 1 := ⟨nm_Js.1, nm_Js.2, pd_4, by decide, gt1 51 rfl rfl, gt1 3 rfl rfl⟩
theorem im_Js_charAt : Cond.instanceMethod (mY pJs_charAt) ∈ GW := gt1 49 rfl rfl
theorem sl_Js_charAt : Cond.selects (mY pJs_charAt).cls (mY pJs_charAt) (mY pJs_charAt) ∈ GW := gt1 50 rfl rfl
def pTa_joined : PM := (⟨RX8, "joined", "(JI)J"⟩, prog_10_method_14_code, 3, some .long, [(0, .lload_n 0, 1), (1, .ldc2_w 90, 3), (4, .lmul, 1), (5, .iload_n 2, 1), (6, .bipush 97, 2), (8, .isub, 1), (9, .iconst 1, 1), (10, .iadd, 1), (11, .i2l, 1), (12, .ladd, 1), (13, .lreturn, 1)])
set_option maxRecDepth 100000 in
theorem cok_Ta_joined : CodeOK pTa_joined := by unfold CodeOK; decide +kernel
theorem ht_Ta_joined : hTab pTa_joined = none := ht_of rfl nl_8
theorem pl_Ta_joined : plainName (mY pTa_joined).cls = true := np_8
theorem pm_Ta_joined : PlainM pTa_joined 2 := ⟨nm_8.1, nm_8.2, pd_29, by decide, gt1 88 rfl rfl, gt1 2 rfl rfl⟩
theorem st_Ta_joined : Cond.static (mY pTa_joined) ∈ GW := gt1 87 rfl rfl
def pTa_init : PM := (⟨RX8, "<init>", "()V"⟩, prog_10_method_1_code, 3, none, [(0, .aload_n 0, 1), (1, .invokespecial 3, 3), (4, .aload_n 0, 1), (5, .sipush 1000, 3), (8, .newarray .byte, 2), (10, .putfield 9, 3), (13, .aload_n 0, 1), (14, .iconst 0, 1), (15, .putfield 15, 3), (18, .aload_n 0, 1), (19, .iconst 3, 1), (20, .putfield 19, 3), (23, .aload_n 0, 1), (24, .iconst 0, 1), (25, .putfield 22, 3), (28, .aload_n 0, 1), (29, .iconst 0, 1), (30, .putfield 25, 3), (33, .aload_n 0, 1), (34, .iconst 0, 1), (35, .putfield 28, 3), (38, .aload_n 0, 1), (39, .iconst (-1), 1), (40, .putfield 31, 3), (43, .aload_n 0, 1), (44, .lconst 0, 1), (45, .putfield 34, 3), (48, .aload_n 0, 1), (49, .iconst 0, 1), (50, .putfield 38, 3), (53, .aload_n 0, 1), (54, .bipush 28, 2), (56, .newarray .long, 2), (58, .putfield 41, 3), (61, .iconst 0, 1), (62, .istore_n 1, 1), (63, .iconst 0, 1), (64, .istore_n 2, 1), (65, .iload_n 2, 1), (66, .ldc 45, 2), (68, .invokevirtual 47, 3), (71, .if_icmp .ge 56, 3), (74, .ldc 45, 2), (76, .iload_n 2, 1), (77, .invokevirtual 52, 3), (80, .bipush 32, 2), (82, .if_icmp .ne 9, 3), (85, .iinc 1 1, 3), (88, .goto 33, 3), (91, .iload_n 1, 1), (92, .aload_n 0, 1), (93, .getfield 41, 3), (96, .arraylength, 1), (97, .if_icmp .ge 24, 3), (100, .aload_n 0, 1), (101, .getfield 41, 3), (104, .iload_n 1, 1), (105, .aload_n 0, 1), (106, .getfield 41, 3), (109, .iload_n 1, 1), (110, .laload, 1), (111, .ldc 45, 2), (113, .iload_n 2, 1), (114, .invokevirtual 52, 3), (117, .invokestatic 56, 3), (120, .lastore, 1), (121, .iinc 2 1, 3), (124, .goto (-59), 3), (127, .return_, 1)])
set_option maxRecDepth 100000 in
theorem cok_Ta_init : CodeOK pTa_init := by unfold CodeOK; decide +kernel
theorem ht_Ta_init : hTab pTa_init = none := ht_of rfl nl_8
theorem pl_Ta_init : plainName (mY pTa_init).cls = true := np_8
theorem pm_Ta_init : PlainM pTa_init 0 := ⟨nm_8.1, nm_8.2, pd_2, by decide, gt1 35 rfl rfl, gt1 2 rfl rfl⟩
theorem im_Ta_init : Cond.instanceMethod (mY pTa_init) ∈ GW := gt1 34 rfl rfl
def pLe_put : PM := (⟨RX10, "put", "([III)V"⟩, prog_1_method_43_code, 3, none, [(0, .iload_n 1, 1), (1, .ifCond .lt 13, 3), (4, .iload_n 1, 1), (5, .aload_n 0, 1), (6, .arraylength, 1), (7, .if_icmp .ge 7, 3), (10, .aload_n 0, 1), (11, .iload_n 1, 1), (12, .iload_n 2, 1), (13, .iastore, 1), (14, .return_, 1)])
set_option maxRecDepth 100000 in
theorem cok_Le_put : CodeOK pLe_put := by unfold CodeOK; decide +kernel
theorem ht_Le_put : hTab pLe_put = none := ht_of rfl nl_10
theorem pl_Le_put : plainName (mY pLe_put).cls = true := np_10
theorem pm_Le_put : PlainM pLe_put 3 := ⟨nm_10.1, nm_10.2, pd_57, by decide, gt1 141 rfl rfl, gt1 1 rfl rfl⟩
theorem st_Le_put : Cond.static (mY pLe_put) ∈ GW := gt1 140 rfl rfl
def pHo_begin : PM := (⟨RX0, "begin", "()V"⟩, prog_2_method_2_code, 2, none, [(0, .aload_n 0, 1), (1, .iconst 1, 1), (2, .putfield 9, 3), (5, .aload_n 0, 1), (6, .iconst 0, 1), (7, .putfield 15, 3), (10, .aload_n 0, 1), (11, .iconst 0, 1), (12, .putfield 18, 3), (15, .aload_n 0, 1), (16, .iconst 0, 1), (17, .putfield 21, 3), (20, .aload_n 0, 1), (21, .iconst 0, 1), (22, .putfield 24, 3), (25, .aload_n 0, 1), (26, .iconst 0, 1), (27, .putfield 27, 3), (30, .aload_n 0, 1), (31, .iconst 0, 1), (32, .putfield 30, 3), (35, .aload_n 0, 1), (36, .bipush 24, 2), (38, .putfield 33, 3), (41, .aload_n 0, 1), (42, .iconst 0, 1), (43, .putfield 36, 3), (46, .aload_n 0, 1), (47, .iconst 0, 1), (48, .putfield 39, 3), (51, .aload_n 0, 1), (52, .iconst 0, 1), (53, .putfield 42, 3), (56, .aload_n 0, 1), (57, .iconst 0, 1), (58, .putfield 45, 3), (61, .aload_n 0, 1), (62, .iconst 0, 1), (63, .putfield 48, 3), (66, .aload_n 0, 1), (67, .iconst 0, 1), (68, .putfield 51, 3), (71, .aload_n 0, 1), (72, .getfield 54, 3), (75, .iconst 1, 1), (76, .iconst 3, 1), (77, .invokestatic 76, 3), (80, .aload_n 0, 1), (81, .getfield 54, 3), (84, .iconst 2, 1), (85, .iconst 5, 1), (86, .invokestatic 76, 3), (89, .aload_n 0, 1), (90, .getfield 54, 3), (93, .iconst 3, 1), (94, .bipush 6, 2), (96, .invokestatic 76, 3), (99, .iconst 0, 1), (100, .istore_n 1, 1), (101, .iload_n 1, 1), (102, .aload_n 0, 1), (103, .getfield 58, 3), (106, .arraylength, 1), (107, .if_icmp .ge 27, 3), (110, .aload_n 0, 1), (111, .getfield 58, 3), (114, .iload_n 1, 1), (115, .iload_n 1, 1), (116, .iconst 4, 1), (117, .irem, 1), (118, .ifCond .ne 8, 3), (121, .bipush 10, 2), (123, .goto 4, 3), (126, .iconst 0, 1), (127, .iastore, 1), (128, .iinc 1 1, 3), (131, .goto (-30), 3), (134, .return_, 1)])
set_option maxRecDepth 100000 in
theorem cok_Ho_begin : CodeOK pHo_begin := by unfold CodeOK; decide +kernel
theorem ht_Ho_begin : hTab pHo_begin = none := ht_of rfl nl_0
theorem pl_Ho_begin : plainName (mY pHo_begin).cls = true := np_0
theorem pm_Ho_begin : PlainM pHo_begin 0 := ⟨nm_0.1, nm_0.2, pd_2, by decide, gt1 138 rfl rfl, gt1 7 rfl rfl⟩
theorem im_Ho_begin : Cond.instanceMethod (mY pHo_begin) ∈ GW := gt1 136 rfl rfl
theorem sl_Ho_begin : Cond.selects (mY pHo_begin).cls (mY pHo_begin) (mY pHo_begin) ∈ GW := gt1 137 rfl rfl
def pLe_at : PM := (⟨RX10, "at", "([II)I"⟩, prog_1_method_42_code, 2, some .int, [(0, .iload_n 1, 1), (1, .ifCond .lt 15, 3), (4, .iload_n 1, 1), (5, .aload_n 0, 1), (6, .arraylength, 1), (7, .if_icmp .ge 9, 3), (10, .aload_n 0, 1), (11, .iload_n 1, 1), (12, .iaload, 1), (13, .goto 4, 3), (16, .iconst 0, 1), (17, .ireturn, 1)])
set_option maxRecDepth 100000 in
theorem cok_Le_at : CodeOK pLe_at := by unfold CodeOK; decide +kernel
theorem ht_Le_at : hTab pLe_at = none := ht_of rfl nl_10
theorem pl_Le_at : plainName (mY pLe_at).cls = true := np_10
theorem pm_Le_at : PlainM pLe_at 2 := ⟨nm_10.1, nm_10.2, pd_54, by decide, gt1 148 rfl rfl, gt1 1 rfl rfl⟩
theorem st_Le_at : Cond.static (mY pLe_at) ∈ GW := gt1 147 rfl rfl
def pHo_settle : PM := (⟨RX0, "settle", "()V"⟩, prog_2_method_3_code, 3, none, [(0, .iconst 0, 1), (1, .istore_n 1, 1), (2, .iload_n 1, 1), (3, .bipush 24, 2), (5, .if_icmp .ge 91, 3), (8, .iload_n 1, 1), (9, .iconst 4, 1), (10, .imul, 1), (11, .istore_n 2, 1), (12, .aload_n 0, 1), (13, .getfield 61, 3), (16, .iload_n 2, 1), (17, .aload_n 0, 1), (18, .getfield 58, 3), (21, .iload_n 2, 1), (22, .invokestatic 80, 3), (25, .aload_n 0, 1), (26, .getfield 58, 3), (29, .iload_n 2, 1), (30, .iconst 1, 1), (31, .iadd, 1), (32, .invokestatic 80, 3), (35, .iadd, 1), (36, .invokestatic 76, 3), (39, .aload_n 0, 1), (40, .getfield 61, 3), (43, .iload_n 2, 1), (44, .iconst 1, 1), (45, .iadd, 1), (46, .aload_n 0, 1), (47, .getfield 58, 3), (50, .iload_n 2, 1), (51, .iconst 2, 1), (52, .iadd, 1), (53, .invokestatic 80, 3), (56, .invokestatic 76, 3), (59, .aload_n 0, 1), (60, .getfield 61, 3), (63, .iload_n 2, 1), (64, .iconst 2, 1), (65, .iadd, 1), (66, .aload_n 0, 1), (67, .getfield 58, 3), (70, .iload_n 2, 1), (71, .iconst 3, 1), (72, .iadd, 1), (73, .invokestatic 80, 3), (76, .invokestatic 76, 3), (79, .aload_n 0, 1), (80, .getfield 61, 3), (83, .iload_n 2, 1), (84, .iconst 3, 1), (85, .iadd, 1), (86, .iconst 0, 1), (87, .invokestatic 76, 3), (90, .iinc 1 1, 3), (93, .goto (-91), 3), (96, .return_, 1)])
set_option maxRecDepth 100000 in
theorem cok_Ho_settle : CodeOK pHo_settle := by unfold CodeOK; decide +kernel
theorem ht_Ho_settle : hTab pHo_settle = none := ht_of rfl nl_0
theorem pl_Ho_settle : plainName (mY pHo_settle).cls = true := np_0
theorem pm_Ho_settle : PlainM pHo_settle 0 := ⟨nm_0.1, nm_0.2, pd_2, by decide, gt1 145 rfl rfl, gt1 7 rfl rfl⟩
theorem im_Ho_settle : Cond.instanceMethod (mY pHo_settle) ∈ GW := gt1 143 rfl rfl
theorem sl_Ho_settle : Cond.selects (mY pHo_settle).cls (mY pHo_settle) (mY pHo_settle) ∈ GW := gt1 144 rfl rfl
def pHo_init : PM := (⟨RX0, "<init>", "()V"⟩, prog_2_method_1_code, 1, none, [(0, .aload_n 0, 1), (1, .invokespecial 3, 3), (4, .aload_n 0, 1), (5, .iconst 1, 1), (6, .putfield 9, 3), (9, .aload_n 0, 1), (10, .iconst 0, 1), (11, .putfield 15, 3), (14, .aload_n 0, 1), (15, .iconst 0, 1), (16, .putfield 18, 3), (19, .aload_n 0, 1), (20, .iconst 0, 1), (21, .putfield 21, 3), (24, .aload_n 0, 1), (25, .iconst 0, 1), (26, .putfield 24, 3), (29, .aload_n 0, 1), (30, .iconst 0, 1), (31, .putfield 27, 3), (34, .aload_n 0, 1), (35, .iconst 0, 1), (36, .putfield 30, 3), (39, .aload_n 0, 1), (40, .bipush 24, 2), (42, .putfield 33, 3), (45, .aload_n 0, 1), (46, .iconst 0, 1), (47, .putfield 36, 3), (50, .aload_n 0, 1), (51, .iconst 0, 1), (52, .putfield 39, 3), (55, .aload_n 0, 1), (56, .iconst 0, 1), (57, .putfield 42, 3), (60, .aload_n 0, 1), (61, .iconst 0, 1), (62, .putfield 45, 3), (65, .aload_n 0, 1), (66, .iconst 0, 1), (67, .putfield 48, 3), (70, .aload_n 0, 1), (71, .iconst 0, 1), (72, .putfield 51, 3), (75, .aload_n 0, 1), (76, .iconst 4, 1), (77, .newarray .int, 2), (79, .putfield 54, 3), (82, .aload_n 0, 1), (83, .bipush 96, 2), (85, .newarray .int, 2), (87, .putfield 58, 3), (90, .aload_n 0, 1), (91, .bipush 96, 2), (93, .newarray .int, 2), (95, .putfield 61, 3), (98, .aload_n 0, 1), (99, .sipush 1000, 3), (102, .newarray .int, 2), (104, .putfield 64, 3), (107, .aload_n 0, 1), (108, .iconst 4, 1), (109, .newarray .int, 2), (111, .putfield 67, 3), (114, .aload_n 0, 1), (115, .invokevirtual 70, 3), (118, .aload_n 0, 1), (119, .invokevirtual 73, 3), (122, .return_, 1)])
set_option maxRecDepth 100000 in
theorem cok_Ho_init : CodeOK pHo_init := by unfold CodeOK; decide +kernel
theorem ht_Ho_init : hTab pHo_init = none := ht_of rfl nl_0
theorem pl_Ho_init : plainName (mY pHo_init).cls = true := np_0
theorem pm_Ho_init : PlainM pHo_init 0 := ⟨nm_0.1, nm_0.2, pd_2, by decide, gt1 133 rfl rfl, gt1 7 rfl rfl⟩
theorem im_Ho_init : Cond.instanceMethod (mY pHo_init) ∈ GW := gt1 132 rfl rfl
def pSc_init : PM := (⟨RX6, "<init>", "()V"⟩, prog_8_method_1_code, 1, none, [(0, .aload_n 0, 1), (1, .invokespecial 3, 3), (4, .aload_n 0, 1), (5, .bipush 60, 2), (7, .newarray .int, 2), (9, .putfield 9, 3), (12, .aload_n 0, 1), (13, .bipush 60, 2), (15, .newarray .int, 2), (17, .putfield 15, 3), (20, .aload_n 0, 1), (21, .iconst 0, 1), (22, .putfield 18, 3), (25, .return_, 1)])
set_option maxRecDepth 100000 in
theorem cok_Sc_init : CodeOK pSc_init := by unfold CodeOK; decide +kernel
theorem ht_Sc_init : hTab pSc_init = none := ht_of rfl nl_6
theorem pl_Sc_init : plainName (mY pSc_init).cls = true := np_6
theorem pm_Sc_init : PlainM pSc_init 0 := ⟨nm_6.1, nm_6.2, pd_2, by decide, gt2 8 rfl rfl, gt1 8 rfl rfl⟩
theorem im_Sc_init : Cond.instanceMethod (mY pSc_init) ∈ GW := gt2 7 rfl rfl
def pRe_init : PM := (⟨RX4, "<init>", "(LLastsEvening$Tape;LLastsEvening$House;LLastsEvening$Script;)V"⟩, prog_6_method_1_code, 4, none, [(0, .aload_n 0, 1), (1, .invokespecial 3, 3), (4, .aload_n 0, 1), (5, .iconst 4, 1), (6, .newarray .long, 2), (8, .putfield 9, 3), (11, .aload_n 0, 1), (12, .bipush 11, 2), (14, .newarray .boolean, 2), (16, .putfield 15, 3), (19, .aload_n 0, 1), (20, .bipush 24, 2), (22, .newarray .boolean, 2), (24, .putfield 19, 3), (27, .aload_n 0, 1), (28, .iconst 0, 1), (29, .putfield 22, 3), (32, .aload_n 0, 1), (33, .aload_n 1, 1), (34, .putfield 26, 3), (37, .aload_n 0, 1), (38, .aload_n 2, 1), (39, .putfield 30, 3), (42, .aload_n 0, 1), (43, .aload_n 3, 1), (44, .putfield 34, 3), (47, .return_, 1)])
set_option maxRecDepth 100000 in
theorem cok_Re_init : CodeOK pRe_init := by unfold CodeOK; decide +kernel
theorem ht_Re_init : hTab pRe_init = none := ht_of rfl nl_4
theorem pl_Re_init : plainName (mY pRe_init).cls = true := np_4
theorem pm_Re_init : PlainM pRe_init 3 := ⟨nm_4.1, nm_4.2, pd_42, by decide, gt2 28 rfl rfl, gt1 9 rfl rfl⟩
theorem im_Re_init : Cond.instanceMethod (mY pRe_init) ∈ GW := gt2 27 rfl rfl
def pNi_init : PM := (⟨RX3, "<init>", "()V"⟩, prog_5_method_1_code, 1, none, [(0, .aload_n 0, 1), (1, .invokespecial 3, 3), (4, .aload_n 0, 1), (5, .iconst 0, 1), (6, .putfield 9, 3), (9, .aload_n 0, 1), (10, .iconst 0, 1), (11, .putfield 15, 3), (14, .aload_n 0, 1), (15, .iconst 0, 1), (16, .putfield 18, 3), (19, .aload_n 0, 1), (20, .iconst 0, 1), (21, .putfield 21, 3), (24, .aload_n 0, 1), (25, .iconst 0, 1), (26, .putfield 24, 3), (29, .aload_n 0, 1), (30, .iconst 0, 1), (31, .putfield 27, 3), (34, .aload_n 0, 1), (35, .iconst 0, 1), (36, .putfield 30, 3), (39, .aload_n 0, 1), (40, .iconst 0, 1), (41, .putfield 33, 3), (44, .aload_n 0, 1), (45, .iconst 0, 1), (46, .putfield 36, 3), (49, .aload_n 0, 1), (50, .iconst 0, 1), (51, .putfield 40, 3), (54, .aload_n 0, 1), (55, .iconst 1, 1), (56, .putfield 43, 3), (59, .aload_n 0, 1), (60, .iconst 0, 1), (61, .putfield 46, 3), (64, .aload_n 0, 1), (65, .iconst 0, 1), (66, .putfield 49, 3), (69, .aload_n 0, 1), (70, .iconst 0, 1), (71, .putfield 52, 3), (74, .return_, 1)])
set_option maxRecDepth 100000 in
theorem cok_Ni_init : CodeOK pNi_init := by unfold CodeOK; decide +kernel
theorem ht_Ni_init : hTab pNi_init = none := ht_of rfl nl_3
theorem pl_Ni_init : plainName (mY pNi_init).cls = true := np_3
theorem pm_Ni_init : PlainM pNi_init 0 := ⟨nm_3.1, nm_3.2, pd_2, by decide, gt2 57 rfl rfl, gt1 10 rfl rfl⟩
theorem im_Ni_init : Cond.instanceMethod (mY pNi_init) ∈ GW := gt2 56 rfl rfl
def pVa_init : PM := (⟨RX9, "<init>", "(LLastsEvening$House;ZZ)V"⟩, prog_11_method_1_code, 4, none, [(0, .aload_n 0, 1), (1, .invokespecial 3, 3), (4, .aload_n 0, 1), (5, .iconst 5, 1), (6, .newarray .int, 2), (8, .putfield 9, 3), (11, .aload_n 0, 1), (12, .iconst 0, 1), (13, .newarray .int, 2), (15, .putfield 15, 3), (18, .aload_n 0, 1), (19, .iconst 0, 1), (20, .putfield 18, 3), (23, .aload_n 0, 1), (24, .aload_n 1, 1), (25, .putfield 22, 3), (28, .aload_n 0, 1), (29, .iload_n 2, 1), (30, .putfield 26, 3), (33, .aload_n 0, 1), (34, .iload_n 3, 1), (35, .putfield 30, 3), (38, .return_, 1)])
set_option maxRecDepth 100000 in
theorem cok_Va_init : CodeOK pVa_init := by unfold CodeOK; decide +kernel
theorem ht_Va_init : hTab pVa_init = none := ht_of rfl nl_9
theorem pl_Va_init : plainName (mY pVa_init).cls = true := np_9
theorem pm_Va_init : PlainM pVa_init 3 := ⟨nm_9.1, nm_9.2, pd_39, by decide, gt2 128 rfl rfl, gt1 11 rfl rfl⟩
theorem im_Va_init : Cond.instanceMethod (mY pVa_init) ∈ GW := gt2 127 rfl rfl
def pMe_init : PM := (⟨RX2, "<init>", "(LLastsEvening$House;)V"⟩, prog_4_method_1_code, 2, none, [(0, .aload_n 0, 1), (1, .invokespecial 3, 3), (4, .aload_n 0, 1), (5, .bipush 64, 2), (7, .newarray .int, 2), (9, .putfield 9, 3), (12, .aload_n 0, 1), (13, .iconst 0, 1), (14, .putfield 15, 3), (17, .aload_n 0, 1), (18, .iconst 0, 1), (19, .putfield 19, 3), (22, .aload_n 0, 1), (23, .iconst 0, 1), (24, .putfield 22, 3), (27, .aload_n 0, 1), (28, .iconst 0, 1), (29, .newarray .int, 2), (31, .putfield 26, 3), (34, .aload_n 0, 1), (35, .iconst 0, 1), (36, .newarray .int, 2), (38, .putfield 29, 3), (41, .aload_n 0, 1), (42, .iconst 0, 1), (43, .putfield 32, 3), (46, .aload_n 0, 1), (47, .aload_n 1, 1), (48, .putfield 35, 3), (51, .return_, 1)])
set_option maxRecDepth 100000 in
theorem cok_Me_init : CodeOK pMe_init := by unfold CodeOK; decide +kernel
theorem ht_Me_init : hTab pMe_init = none := ht_of rfl nl_2
theorem pl_Me_init : plainName (mY pMe_init).cls = true := np_2
theorem pm_Me_init : PlainM pMe_init 1 := ⟨nm_2.1, nm_2.2, pd_32, by decide, gt2 153 rfl rfl, gt1 12 rfl rfl⟩
theorem im_Me_init : Cond.instanceMethod (mY pMe_init) ∈ GW := gt2 152 rfl rfl
def pRd_init : PM := (⟨RX5, "<init>", "(LLastsEvening$House;LLastsEvening$Means;)V"⟩, prog_7_method_1_code, 3, none, [(0, .aload_n 0, 1), (1, .invokespecial 3, 3), (4, .aload_n 0, 1), (5, .iconst 1, 1), (6, .putfield 9, 3), (9, .aload_n 0, 1), (10, .iconst 0, 1), (11, .newarray .int, 2), (13, .putfield 15, 3), (16, .aload_n 0, 1), (17, .iconst 0, 1), (18, .newarray .int, 2), (20, .putfield 19, 3), (23, .aload_n 0, 1), (24, .aload_n 1, 1), (25, .putfield 22, 3), (28, .aload_n 0, 1), (29, .aload_n 2, 1), (30, .putfield 26, 3), (33, .return_, 1)])
set_option maxRecDepth 100000 in
theorem cok_Rd_init : CodeOK pRd_init := by unfold CodeOK; decide +kernel
theorem ht_Rd_init : hTab pRd_init = none := ht_of rfl nl_5
theorem pl_Rd_init : plainName (mY pRd_init).cls = true := np_5
theorem pm_Rd_init : PlainM pRd_init 2 := ⟨nm_5.1, nm_5.2, pd_38, by decide, gt2 184 rfl rfl, gt1 13 rfl rfl⟩
theorem im_Rd_init : Cond.instanceMethod (mY pRd_init) ∈ GW := gt2 183 rfl rfl
def pSh_init : PM := (⟨RX7, "<init>", "(LLastsEvening$House;)V"⟩, prog_9_method_1_code, 2, none, [(0, .aload_n 0, 1), (1, .invokespecial 3, 3), (4, .aload_n 0, 1), (5, .bipush 7, 2), (7, .newarray .int, 2), (9, .putfield 11, 3), (12, .aload_n 0, 1), (13, .sipush 242, 3), (16, .newarray .int, 2), (18, .putfield 15, 3), (21, .aload_n 0, 1), (22, .sipush 242, 3), (25, .newarray .int, 2), (27, .putfield 18, 3), (30, .aload_n 0, 1), (31, .aload_n 1, 1), (32, .putfield 21, 3), (35, .return_, 1)])
set_option maxRecDepth 100000 in
theorem cok_Sh_init : CodeOK pSh_init := by unfold CodeOK; decide +kernel
theorem ht_Sh_init : hTab pSh_init = none := ht_of rfl nl_7
theorem pl_Sh_init : plainName (mY pSh_init).cls = true := np_7
theorem pm_Sh_init : PlainM pSh_init 1 := ⟨nm_7.1, nm_7.2, pd_32, by decide, gt2 206 rfl rfl, gt1 14 rfl rfl⟩
theorem im_Sh_init : Cond.instanceMethod (mY pSh_init) ∈ GW := gt2 205 rfl rfl
def pMa_init : PM := (⟨RX1, "<init>", "()V"⟩, prog_3_method_1_code, 1, none, [(0, .aload_n 0, 1), (1, .invokespecial 1, 3), (4, .aload_n 0, 1), (5, .new 7, 3), (8, .dup, 1), (9, .invokespecial 9, 3), (12, .putfield 10, 3), (15, .aload_n 0, 1), (16, .new 16, 3), (19, .dup, 1), (20, .invokespecial 18, 3), (23, .putfield 19, 3), (26, .aload_n 0, 1), (27, .iconst 0, 1), (28, .putfield 23, 3), (31, .return_, 1)])
set_option maxRecDepth 100000 in
theorem cok_Ma_init : CodeOK pMa_init := by unfold CodeOK; decide +kernel
theorem ht_Ma_init : hTab pMa_init = none := ht_of rfl nl_1
theorem pl_Ma_init : plainName (mY pMa_init).cls = true := np_1
theorem pm_Ma_init : PlainM pMa_init 0 := ⟨nm_1.1, nm_1.2, pd_2, by decide, gt2 224 rfl rfl, gt1 15 rfl rfl⟩
theorem im_Ma_init : Cond.instanceMethod (mY pMa_init) ∈ GW := gt2 223 rfl rfl
def pLe_copyRow : PM := (⟨RX10, "copyRow", "([I[II)V"⟩, prog_1_method_44_code, 4, none, [(0, .iconst 0, 1), (1, .istore_n 3, 1), (2, .iload_n 3, 1), (3, .iload_n 2, 1), (4, .if_icmp .ge 27, 3), (7, .iload_n 3, 1), (8, .aload_n 0, 1), (9, .arraylength, 1), (10, .if_icmp .ge 21, 3), (13, .iload_n 3, 1), (14, .aload_n 1, 1), (15, .arraylength, 1), (16, .if_icmp .ge 15, 3), (19, .aload_n 0, 1), (20, .iload_n 3, 1), (21, .aload_n 1, 1), (22, .iload_n 3, 1), (23, .iaload, 1), (24, .iastore, 1), (25, .iinc 3 1, 3), (28, .goto (-26), 3), (31, .return_, 1)])
set_option maxRecDepth 100000 in
theorem cok_Le_copyRow : CodeOK pLe_copyRow := by unfold CodeOK; decide +kernel
theorem ht_Le_copyRow : hTab pLe_copyRow = none := ht_of rfl nl_10
theorem pl_Le_copyRow : plainName (mY pLe_copyRow).cls = true := np_10
theorem pm_Le_copyRow : PlainM pLe_copyRow 3 := ⟨nm_10.1, nm_10.2, pd_59, by decide, gt3 13 rfl rfl, gt1 1 rfl rfl⟩
theorem st_Le_copyRow : Cond.static (mY pLe_copyRow) ∈ GW := gt3 12 rfl rfl
def pHo_copy : PM := (⟨RX0, "copy", "(LLastsEvening$House;)V"⟩, prog_2_method_4_code, 2, none, [(0, .aload_n 0, 1), (1, .aload_n 1, 1), (2, .getfield 9, 3), (5, .putfield 9, 3), (8, .aload_n 0, 1), (9, .aload_n 1, 1), (10, .getfield 15, 3), (13, .putfield 15, 3), (16, .aload_n 0, 1), (17, .aload_n 1, 1), (18, .getfield 18, 3), (21, .putfield 18, 3), (24, .aload_n 0, 1), (25, .aload_n 1, 1), (26, .getfield 21, 3), (29, .putfield 21, 3), (32, .aload_n 0, 1), (33, .aload_n 1, 1), (34, .getfield 24, 3), (37, .putfield 24, 3), (40, .aload_n 0, 1), (41, .aload_n 1, 1), (42, .getfield 27, 3), (45, .putfield 27, 3), (48, .aload_n 0, 1), (49, .aload_n 1, 1), (50, .getfield 30, 3), (53, .putfield 30, 3), (56, .aload_n 0, 1), (57, .aload_n 1, 1), (58, .getfield 33, 3), (61, .putfield 33, 3), (64, .aload_n 0, 1), (65, .aload_n 1, 1), (66, .getfield 36, 3), (69, .putfield 36, 3), (72, .aload_n 0, 1), (73, .aload_n 1, 1), (74, .getfield 39, 3), (77, .putfield 39, 3), (80, .aload_n 0, 1), (81, .aload_n 1, 1), (82, .getfield 42, 3), (85, .putfield 42, 3), (88, .aload_n 0, 1), (89, .aload_n 1, 1), (90, .getfield 45, 3), (93, .putfield 45, 3), (96, .aload_n 0, 1), (97, .aload_n 1, 1), (98, .getfield 48, 3), (101, .putfield 48, 3), (104, .aload_n 0, 1), (105, .aload_n 1, 1), (106, .getfield 51, 3), (109, .putfield 51, 3), (112, .aload_n 0, 1), (113, .getfield 54, 3), (116, .aload_n 1, 1), (117, .getfield 54, 3), (120, .iconst 4, 1), (121, .invokestatic 84, 3), (124, .aload_n 0, 1), (125, .getfield 58, 3), (128, .aload_n 1, 1), (129, .getfield 58, 3), (132, .bipush 96, 2), (134, .invokestatic 84, 3), (137, .aload_n 0, 1), (138, .getfield 61, 3), (141, .aload_n 1, 1), (142, .getfield 61, 3), (145, .bipush 96, 2), (147, .invokestatic 84, 3), (150, .aload_n 0, 1), (151, .getfield 64, 3), (154, .aload_n 1, 1), (155, .getfield 64, 3), (158, .aload_n 1, 1), (159, .getfield 51, 3), (162, .invokestatic 84, 3), (165, .aload_n 0, 1), (166, .getfield 67, 3), (169, .aload_n 1, 1), (170, .getfield 67, 3), (173, .aload_n 1, 1), (174, .getfield 48, 3), (177, .invokestatic 84, 3), (180, .return_, 1)])
set_option maxRecDepth 100000 in
theorem cok_Ho_copy : CodeOK pHo_copy := by unfold CodeOK; decide +kernel
theorem ht_Ho_copy : hTab pHo_copy = none := ht_of rfl nl_0
theorem pl_Ho_copy : plainName (mY pHo_copy).cls = true := np_0
theorem pm_Ho_copy : PlainM pHo_copy 1 := ⟨nm_0.1, nm_0.2, pd_32, by decide, gt3 10 rfl rfl, gt1 7 rfl rfl⟩
theorem im_Ho_copy : Cond.instanceMethod (mY pHo_copy) ∈ GW := gt3 8 rfl rfl
theorem sl_Ho_copy : Cond.selects (mY pHo_copy).cls (mY pHo_copy) (mY pHo_copy) ∈ GW := gt3 9 rfl rfl
def pNi_begin : PM := (⟨RX3, "begin", "(LLastsEvening$House;)V"⟩, prog_5_method_2_code, 2, none, [(0, .aload_n 0, 1), (1, .iconst 0, 1), (2, .putfield 9, 3), (5, .aload_n 0, 1), (6, .aload_n 1, 1), (7, .getfield 55, 3), (10, .putfield 15, 3), (13, .aload_n 0, 1), (14, .aload_n 1, 1), (15, .getfield 60, 3), (18, .putfield 18, 3), (21, .aload_n 0, 1), (22, .iconst 0, 1), (23, .putfield 21, 3), (26, .aload_n 0, 1), (27, .aload_n 1, 1), (28, .getfield 61, 3), (31, .ldc 64, 2), (33, .imul, 1), (34, .putfield 24, 3), (37, .aload_n 0, 1), (38, .iconst 0, 1), (39, .putfield 27, 3), (42, .aload_n 0, 1), (43, .iconst 0, 1), (44, .putfield 30, 3), (47, .aload_n 0, 1), (48, .iconst 0, 1), (49, .putfield 33, 3), (52, .aload_n 0, 1), (53, .iconst 0, 1), (54, .putfield 36, 3), (57, .aload_n 0, 1), (58, .iconst 0, 1), (59, .putfield 40, 3), (62, .aload_n 0, 1), (63, .iconst 1, 1), (64, .putfield 43, 3), (67, .aload_n 0, 1), (68, .iconst 0, 1), (69, .putfield 46, 3), (72, .aload_n 0, 1), (73, .iconst 0, 1), (74, .putfield 49, 3), (77, .aload_n 0, 1), (78, .iconst 0, 1), (79, .putfield 52, 3), (82, .return_, 1)])
set_option maxRecDepth 100000 in
theorem cok_Ni_begin : CodeOK pNi_begin := by unfold CodeOK; decide +kernel
theorem ht_Ni_begin : hTab pNi_begin = none := ht_of rfl nl_3
theorem pl_Ni_begin : plainName (mY pNi_begin).cls = true := np_3
theorem pm_Ni_begin : PlainM pNi_begin 1 := ⟨nm_3.1, nm_3.2, pd_32, by decide, gt3 17 rfl rfl, gt1 10 rfl rfl⟩
theorem im_Ni_begin : Cond.instanceMethod (mY pNi_begin) ∈ GW := gt3 15 rfl rfl
theorem sl_Ni_begin : Cond.selects (mY pNi_begin).cls (mY pNi_begin) (mY pNi_begin) ∈ GW := gt3 16 rfl rfl
def pLe_forgetPast : PM := (⟨RX10, "forgetPast", "()V"⟩, prog_1_method_35_code, 1, none, [(0, .aload_n 0, 1), (1, .iconst 0, 1), (2, .putfield 59, 3), (5, .aload_n 0, 1), (6, .iconst 0, 1), (7, .putfield 63, 3), (10, .return_, 1)])
set_option maxRecDepth 100000 in
theorem cok_Le_forgetPast : CodeOK pLe_forgetPast := by unfold CodeOK; decide +kernel
theorem ht_Le_forgetPast : hTab pLe_forgetPast = none := ht_of rfl nl_10
theorem pl_Le_forgetPast : plainName (mY pLe_forgetPast).cls = true := np_10
theorem pm_Le_forgetPast : PlainM pLe_forgetPast 0 := ⟨nm_10.1, nm_10.2, pd_2, by decide, gt3 22 rfl rfl, gt1 1 rfl rfl⟩
theorem im_Le_forgetPast : Cond.instanceMethod (mY pLe_forgetPast) ∈ GW := gt3 21 rfl rfl
theorem sl_Le_forgetPast : Cond.selects (mY pLe_forgetPast).cls (mY pLe_forgetPast) (mY pLe_forgetPast) ∈ GW := gtS 1 rfl rfl
def pVa_begin : PM := (⟨RX9, "begin", "()V"⟩, prog_11_method_2_code, 1, none, [(0, .aload_n 0, 1), (1, .aload_n 0, 1), (2, .getfield 22, 3), (5, .getfield 33, 3), (8, .putfield 18, 3), (11, .return_, 1)])
set_option maxRecDepth 100000 in
theorem cok_Va_begin : CodeOK pVa_begin := by unfold CodeOK; decide +kernel
theorem ht_Va_begin : hTab pVa_begin = none := ht_of rfl nl_9
theorem pl_Va_begin : plainName (mY pVa_begin).cls = true := np_9
theorem pm_Va_begin : PlainM pVa_begin 0 := ⟨nm_9.1, nm_9.2, pd_2, by decide, gt3 26 rfl rfl, gt1 11 rfl rfl⟩
theorem im_Va_begin : Cond.instanceMethod (mY pVa_begin) ∈ GW := gt3 24 rfl rfl
theorem sl_Va_begin : Cond.selects (mY pVa_begin).cls (mY pVa_begin) (mY pVa_begin) ∈ GW := gt3 25 rfl rfl
def pLe_moveIn : PM := (⟨RX10, "moveIn", "()V"⟩, prog_1_method_34_code, 2, none, [(0, .aload_n 0, 1), (1, .getfield 19, 3), (4, .aload_n 0, 1), (5, .getfield 23, 3), (8, .invokevirtual 326, 3), (11, .aload_n 0, 1), (12, .getfield 48, 3), (15, .aload_n 0, 1), (16, .getfield 19, 3), (19, .invokevirtual 186, 3), (22, .aload_n 0, 1), (23, .getfield 29, 3), (26, .iconst 0, 1), (27, .putfield 189, 3), (30, .aload_n 0, 1), (31, .invokevirtual 314, 3), (34, .iconst 0, 1), (35, .istore_n 1, 1), (36, .iload_n 1, 1), (37, .aload_n 0, 1), (38, .getfield 68, 3), (41, .arraylength, 1), (42, .if_icmp .ge 28, 3), (45, .aload_n 0, 1), (46, .getfield 68, 3), (49, .iload_n 1, 1), (50, .aaload, 1), (51, .ifnull 13, 3), (54, .aload_n 0, 1), (55, .getfield 68, 3), (58, .iload_n 1, 1), (59, .aaload, 1), (60, .iconst 0, 1), (61, .putfield 307, 3), (64, .iinc 1 1, 3), (67, .goto (-31), 3), (70, .aload_n 0, 1), (71, .getfield 77, 3), (74, .invokevirtual 328, 3), (77, .aload_n 0, 1), (78, .getfield 81, 3), (81, .invokevirtual 328, 3), (84, .aload_n 0, 1), (85, .getfield 84, 3), (88, .invokevirtual 328, 3), (91, .return_, 1)])
set_option maxRecDepth 100000 in
theorem cok_Le_moveIn : CodeOK pLe_moveIn := by unfold CodeOK; decide +kernel
theorem ht_Le_moveIn : hTab pLe_moveIn = none := ht_of rfl nl_10
theorem pl_Le_moveIn : plainName (mY pLe_moveIn).cls = true := np_10
theorem pm_Le_moveIn : PlainM pLe_moveIn 0 := ⟨nm_10.1, nm_10.2, pd_2, by decide, gt3 6 rfl rfl, gt1 1 rfl rfl⟩
theorem im_Le_moveIn : Cond.instanceMethod (mY pLe_moveIn) ∈ GW := gt3 5 rfl rfl
theorem sl_Le_moveIn : Cond.selects (mY pLe_moveIn).cls (mY pLe_moveIn) (mY pLe_moveIn) ∈ GW := gtS 0 rfl rfl
def pLe_init : PM := (⟨RX10, "<init>", "()V"⟩, prog_1_method_1_code, 2, none, [(0, .aload_n 0, 1), (1, .invokespecial 3, 3), (4, .aload_n 0, 1), (5, .new 9, 3), (8, .dup, 1), (9, .invokespecial 11, 3), (12, .putfield 12, 3), (15, .aload_n 0, 1), (16, .new 16, 3), (19, .dup, 1), (20, .invokespecial 18, 3), (23, .putfield 19, 3), (26, .aload_n 0, 1), (27, .new 16, 3), (30, .dup, 1), (31, .invokespecial 18, 3), (34, .putfield 23, 3), (37, .aload_n 0, 1), (38, .new 26, 3), (41, .dup, 1), (42, .invokespecial 28, 3), (45, .putfield 29, 3), (48, .aload_n 0, 1), (49, .new 26, 3), (52, .dup, 1), (53, .invokespecial 28, 3), (56, .putfield 33, 3), (59, .aload_n 0, 1), (60, .new 36, 3), (63, .dup, 1), (64, .aload_n 0, 1), (65, .getfield 12, 3), (68, .aload_n 0, 1), (69, .getfield 23, 3), (72, .aload_n 0, 1), (73, .getfield 33, 3), (76, .invokespecial 38, 3), (79, .putfield 41, 3), (82, .aload_n 0, 1), (83, .new 45, 3), (86, .dup, 1), (87, .invokespecial 47, 3), (90, .putfield 48, 3), (93, .aload_n 0, 1), (94, .new 45, 3), (97, .dup, 1), (98, .invokespecial 47, 3), (101, .putfield 52, 3), (104, .aload_n 0, 1), (105, .bipush 16, 2), (107, .anewarray 45, 3), (110, .putfield 55, 3), (113, .aload_n 0, 1), (114, .iconst 0, 1), (115, .putfield 59, 3), (118, .aload_n 0, 1), (119, .iconst 0, 1), (120, .putfield 63, 3), (123, .aload_n 0, 1), (124, .iconst 4, 1), (125, .anewarray 66, 3), (128, .putfield 68, 3), (131, .aload_n 0, 1), (132, .new 72, 3), (135, .dup, 1), (136, .aload_n 0, 1), (137, .getfield 19, 3), (140, .iconst 0, 1), (141, .iconst 1, 1), (142, .invokespecial 74, 3), (145, .putfield 77, 3), (148, .aload_n 0, 1), (149, .new 72, 3), (152, .dup, 1), (153, .aload_n 0, 1), (154, .getfield 19, 3), (157, .iconst 1, 1), (158, .iconst 1, 1), (159, .invokespecial 74, 3), (162, .putfield 81, 3), (165, .aload_n 0, 1), (166, .new 72, 3), (169, .dup, 1), (170, .aload_n 0, 1), (171, .getfield 19, 3), (174, .iconst 0, 1), (175, .iconst 0, 1), (176, .invokespecial 74, 3), (179, .putfield 84, 3), (182, .aload_n 0, 1), (183, .new 87, 3), (186, .dup, 1), (187, .aload_n 0, 1), (188, .getfield 19, 3), (191, .invokespecial 89, 3), (194, .putfield 92, 3), (197, .aload_n 0, 1), (198, .new 96, 3), (201, .dup, 1), (202, .aload_n 0, 1), (203, .getfield 19, 3), (206, .aload_n 0, 1), (207, .getfield 92, 3), (210, .invokespecial 98, 3), (213, .putfield 101, 3), (216, .aload_n 0, 1), (217, .new 105, 3), (220, .dup, 1), (221, .aload_n 0, 1), (222, .getfield 19, 3), (225, .invokespecial 107, 3), (228, .putfield 108, 3), (231, .iconst 0, 1), (232, .istore_n 1, 1), (233, .iload_n 1, 1), (234, .aload_n 0, 1), (235, .getfield 55, 3), (238, .arraylength, 1), (239, .if_icmp .ge 22, 3), (242, .aload_n 0, 1), (243, .getfield 55, 3), (246, .iload_n 1, 1), (247, .new 45, 3), (250, .dup, 1), (251, .invokespecial 47, 3), (254, .aastore, 1), (255, .iinc 1 1, 3), (258, .goto (-25), 3), (261, .iconst 0, 1), (262, .istore_n 1, 1), (263, .iload_n 1, 1), (264, .aload_n 0, 1), (265, .getfield 68, 3), (268, .arraylength, 1), (269, .if_icmp .ge 22, 3), (272, .aload_n 0, 1), (273, .getfield 68, 3), (276, .iload_n 1, 1), (277, .new 66, 3), (280, .dup, 1), (281, .invokespecial 112, 3), (284, .aastore, 1), (285, .iinc 1 1, 3), (288, .goto (-25), 3), (291, .aload_n 0, 1), (292, .invokevirtual 113, 3), (295, .return_, 1)])
set_option maxRecDepth 100000 in
theorem cok_Le_init : CodeOK pLe_init := by unfold CodeOK; decide +kernel
theorem ht_Le_init : hTab pLe_init = none := ht_of rfl nl_10
theorem pl_Le_init : plainName (mY pLe_init).cls = true := np_10
theorem pm_Le_init : PlainM pLe_init 0 := ⟨nm_10.1, nm_10.2, pd_2, by decide, gt1 27 rfl rfl, gt1 1 rfl rfl⟩
theorem im_Le_init : Cond.instanceMethod (mY pLe_init) ∈ GW := gt1 26 rfl rfl
def pTa_take : PM := (⟨RX8, "take", "(J)V"⟩, prog_10_method_2_code, 5, none, [(0, .bipush 56, 2), (2, .istore_n 3, 1), (3, .iload_n 3, 1), (4, .ifCond .lt 81, 3), (7, .lload_n 1, 1), (8, .iload_n 3, 1), (9, .lshr, 1), (10, .ldc2_w 60, 3), (13, .land, 1), (14, .l2i, 1), (15, .istore 4, 2), (17, .iload 4, 2), (19, .bipush 10, 2), (21, .if_icmp .eq 17, 3), (24, .iload 4, 2), (26, .bipush 32, 2), (28, .if_icmp .lt 51, 3), (31, .iload 4, 2), (33, .bipush 126, 2), (35, .if_icmp .gt 44, 3), (38, .aload_n 0, 1), (39, .getfield 15, 3), (42, .ifCond .lt 37, 3), (45, .aload_n 0, 1), (46, .getfield 15, 3), (49, .aload_n 0, 1), (50, .getfield 9, 3), (53, .arraylength, 1), (54, .if_icmp .ge 25, 3), (57, .aload_n 0, 1), (58, .getfield 9, 3), (61, .aload_n 0, 1), (62, .getfield 15, 3), (65, .iload 4, 2), (67, .i2b, 1), (68, .bastore, 1), (69, .aload_n 0, 1), (70, .dup, 1), (71, .getfield 15, 3), (74, .iconst 1, 1), (75, .iadd, 1), (76, .putfield 15, 3), (79, .iinc 3 (-8), 3), (82, .goto (-79), 3), (85, .return_, 1)])
set_option maxRecDepth 100000 in
theorem cok_Ta_take : CodeOK pTa_take := by unfold CodeOK; decide +kernel
theorem ht_Ta_take : hTab pTa_take = none := ht_of rfl nl_8
theorem pl_Ta_take : plainName (mY pTa_take).cls = true := np_8
theorem pm_Ta_take : PlainM pTa_take 1 := ⟨nm_8.1, nm_8.2, pd_27, by decide, gt3 89 rfl rfl, gt1 2 rfl rfl⟩
theorem im_Ta_take : Cond.instanceMethod (mY pTa_take) ∈ GW := gt3 87 rfl rfl
theorem sl_Ta_take : Cond.selects (mY pTa_take).cls (mY pTa_take) (mY pTa_take) ∈ GW := gt3 88 rfl rfl
def pLe_feed : PM := (⟨RX10, "feed", "(JJJ)I"⟩, prog_1_method_2_code, 7, some .int, [(0, .aload_n 0, 1), (1, .getfield 12, 3), (4, .lload_n 1, 1), (5, .invokevirtual 116, 3), (8, .aload_n 0, 1), (9, .getfield 12, 3), (12, .lload_n 3, 1), (13, .invokevirtual 116, 3), (16, .aload_n 0, 1), (17, .getfield 12, 3), (20, .lload 5, 2), (22, .invokevirtual 116, 3), (25, .aload_n 0, 1), (26, .getfield 12, 3), (29, .getfield 120, 3), (32, .ireturn, 1)])
set_option maxRecDepth 100000 in
theorem cok_Le_feed : CodeOK pLe_feed := by unfold CodeOK; decide +kernel
theorem ht_Le_feed : hTab pLe_feed = none := ht_of rfl nl_10
theorem pl_Le_feed : plainName (mY pLe_feed).cls = true := np_10
theorem pm_Le_feed : PlainM pLe_feed 3 := ⟨nm_10.1, nm_10.2, pd_31, by decide, gt3 85 rfl rfl, gt1 1 rfl rfl⟩
theorem im_Le_feed : Cond.instanceMethod (mY pLe_feed) ∈ GW := gt3 83 rfl rfl
theorem sl_Le_feed : Cond.selects (mY pLe_feed).cls (mY pLe_feed) (mY pLe_feed) ∈ GW := gt3 84 rfl rfl
def pTa_signAt : PM := (⟨RX8, "signAt", "(I)I"⟩, prog_10_method_11_code, 2, some .int, [(0, .iload_n 1, 1), (1, .ifCond .lt 29, 3), (4, .iload_n 1, 1), (5, .aload_n 0, 1), (6, .getfield 15, 3), (9, .if_icmp .ge 21, 3), (12, .iload_n 1, 1), (13, .aload_n 0, 1), (14, .getfield 9, 3), (17, .arraylength, 1), (18, .if_icmp .ge 12, 3), (21, .aload_n 0, 1), (22, .getfield 9, 3), (25, .iload_n 1, 1), (26, .baload, 1), (27, .goto 4, 3), (30, .iconst (-1), 1), (31, .ireturn, 1)])
set_option maxRecDepth 100000 in
theorem cok_Ta_signAt : CodeOK pTa_signAt := by unfold CodeOK; decide +kernel
theorem ht_Ta_signAt : hTab pTa_signAt = none := ht_of rfl nl_8
theorem pl_Ta_signAt : plainName (mY pTa_signAt).cls = true := np_8
theorem pm_Ta_signAt : PlainM pTa_signAt 1 := ⟨nm_8.1, nm_8.2, pd_5, by decide, gt3 115 rfl rfl, gt1 2 rfl rfl⟩
theorem im_Ta_signAt : Cond.instanceMethod (mY pTa_signAt) ∈ GW := gt3 114 rfl rfl
theorem sl_Ta_signAt : Cond.selects (mY pTa_signAt).cls (mY pTa_signAt) (mY pTa_signAt) ∈ GW := gtS 3 rfl rfl
def pTa_skipBlanks : PM := (⟨RX8, "skipBlanks", "()V"⟩, prog_10_method_8_code, 2, none, [(0, .aload_n 0, 1), (1, .dup, 1), (2, .getfield 22, 3), (5, .aload_n 0, 1), (6, .getfield 25, 3), (9, .iadd, 1), (10, .putfield 22, 3), (13, .aload_n 0, 1), (14, .getfield 22, 3), (17, .istore_n 1, 1), (18, .iload_n 1, 1), (19, .aload_n 0, 1), (20, .getfield 15, 3), (23, .if_icmp .ge 39, 3), (26, .aload_n 0, 1), (27, .iload_n 1, 1), (28, .invokevirtual 68, 3), (31, .bipush 10, 2), (33, .if_icmp .eq 13, 3), (36, .aload_n 0, 1), (37, .iload_n 1, 1), (38, .invokevirtual 68, 3), (41, .bipush 32, 2), (43, .if_icmp .ne 19, 3), (46, .aload_n 0, 1), (47, .dup, 1), (48, .getfield 22, 3), (51, .iconst 1, 1), (52, .iadd, 1), (53, .putfield 22, 3), (56, .iinc 1 1, 3), (59, .goto (-41), 3), (62, .return_, 1)])
set_option maxRecDepth 100000 in
theorem cok_Ta_skipBlanks : CodeOK pTa_skipBlanks := by unfold CodeOK; decide +kernel
theorem ht_Ta_skipBlanks : hTab pTa_skipBlanks = none := ht_of rfl nl_8
theorem pl_Ta_skipBlanks : plainName (mY pTa_skipBlanks).cls = true := np_8
theorem pm_Ta_skipBlanks : PlainM pTa_skipBlanks 0 := ⟨nm_8.1, nm_8.2, pd_2, by decide, gt3 111 rfl rfl, gt1 2 rfl rfl⟩
theorem im_Ta_skipBlanks : Cond.instanceMethod (mY pTa_skipBlanks) ∈ GW := gt3 110 rfl rfl
theorem sl_Ta_skipBlanks : Cond.selects (mY pTa_skipBlanks).cls (mY pTa_skipBlanks) (mY pTa_skipBlanks) ∈ GW := gtS 2 rfl rfl
def pTa_isLetter : PM := (⟨RX8, "isLetter", "(I)Z"⟩, prog_10_method_12_code, 1, some .boolean, [(0, .iload_n 0, 1), (1, .bipush 97, 2), (3, .if_icmp .lt 13, 3), (6, .iload_n 0, 1), (7, .bipush 122, 2), (9, .if_icmp .gt 7, 3), (12, .iconst 1, 1), (13, .goto 4, 3), (16, .iconst 0, 1), (17, .ireturn, 1)])
set_option maxRecDepth 100000 in
theorem cok_Ta_isLetter : CodeOK pTa_isLetter := by unfold CodeOK; decide +kernel
theorem ht_Ta_isLetter : hTab pTa_isLetter = none := ht_of rfl nl_8
theorem pl_Ta_isLetter : plainName (mY pTa_isLetter).cls = true := np_8
theorem pm_Ta_isLetter : PlainM pTa_isLetter 1 := ⟨nm_8.1, nm_8.2, pd_7, by decide, gt3 118 rfl rfl, gt1 2 rfl rfl⟩
theorem st_Ta_isLetter : Cond.static (mY pTa_isLetter) ∈ GW := gt3 117 rfl rfl
def pTa_readWord : PM := (⟨RX8, "readWord", "()V"⟩, prog_10_method_9_code, 2, none, [(0, .aload_n 0, 1), (1, .lconst 0, 1), (2, .putfield 34, 3), (5, .aload_n 0, 1), (6, .iconst 0, 1), (7, .putfield 25, 3), (10, .aload_n 0, 1), (11, .getfield 22, 3), (14, .istore_n 1, 1), (15, .iload_n 1, 1), (16, .aload_n 0, 1), (17, .getfield 15, 3), (20, .if_icmp .ge 46, 3), (23, .aload_n 0, 1), (24, .iload_n 1, 1), (25, .invokevirtual 68, 3), (28, .invokestatic 72, 3), (31, .ifCond .eq 35, 3), (34, .aload_n 0, 1), (35, .aload_n 0, 1), (36, .getfield 34, 3), (39, .aload_n 0, 1), (40, .iload_n 1, 1), (41, .invokevirtual 68, 3), (44, .invokestatic 56, 3), (47, .putfield 34, 3), (50, .aload_n 0, 1), (51, .dup, 1), (52, .getfield 25, 3), (55, .iconst 1, 1), (56, .iadd, 1), (57, .putfield 25, 3), (60, .iinc 1 1, 3), (63, .goto (-48), 3), (66, .aload_n 0, 1), (67, .aload_n 0, 1), (68, .getfield 25, 3), (71, .bipush 8, 2), (73, .if_icmp .gt 7, 3), (76, .iconst 2, 1), (77, .goto 4, 3), (80, .iconst 0, 1), (81, .putfield 19, 3), (84, .iconst 0, 1), (85, .istore_n 1, 1), (86, .iload_n 1, 1), (87, .aload_n 0, 1), (88, .getfield 41, 3), (91, .arraylength, 1), (92, .if_icmp .ge 36, 3), (95, .aload_n 0, 1), (96, .getfield 19, 3), (99, .iconst 2, 1), (100, .if_icmp .ne 28, 3), (103, .aload_n 0, 1), (104, .getfield 41, 3), (107, .iload_n 1, 1), (108, .laload, 1), (109, .aload_n 0, 1), (110, .getfield 34, 3), (113, .lcmp, 1), (114, .ifCond .ne 8, 3), (117, .aload_n 0, 1), (118, .iload_n 1, 1), (119, .putfield 31, 3), (122, .iinc 1 1, 3), (125, .goto (-39), 3), (128, .return_, 1)])
set_option maxRecDepth 100000 in
theorem cok_Ta_readWord : CodeOK pTa_readWord := by unfold CodeOK; decide +kernel
theorem ht_Ta_readWord : hTab pTa_readWord = none := ht_of rfl nl_8
theorem pl_Ta_readWord : plainName (mY pTa_readWord).cls = true := np_8
theorem pm_Ta_readWord : PlainM pTa_readWord 0 := ⟨nm_8.1, nm_8.2, pd_2, by decide, gt3 122 rfl rfl, gt1 2 rfl rfl⟩
theorem im_Ta_readWord : Cond.instanceMethod (mY pTa_readWord) ∈ GW := gt3 121 rfl rfl
theorem sl_Ta_readWord : Cond.selects (mY pTa_readWord).cls (mY pTa_readWord) (mY pTa_readWord) ∈ GW := gtS 4 rfl rfl
def pTa_isDigit : PM := (⟨RX8, "isDigit", "(I)Z"⟩, prog_10_method_13_code, 1, some .boolean, [(0, .iload_n 0, 1), (1, .bipush 48, 2), (3, .if_icmp .lt 13, 3), (6, .iload_n 0, 1), (7, .bipush 57, 2), (9, .if_icmp .gt 7, 3), (12, .iconst 1, 1), (13, .goto 4, 3), (16, .iconst 0, 1), (17, .ireturn, 1)])
set_option maxRecDepth 100000 in
theorem cok_Ta_isDigit : CodeOK pTa_isDigit := by unfold CodeOK; decide +kernel
theorem ht_Ta_isDigit : hTab pTa_isDigit = none := ht_of rfl nl_8
theorem pl_Ta_isDigit : plainName (mY pTa_isDigit).cls = true := np_8
theorem pm_Ta_isDigit : PlainM pTa_isDigit 1 := ⟨nm_8.1, nm_8.2, pd_7, by decide, gt3 125 rfl rfl, gt1 2 rfl rfl⟩
theorem st_Ta_isDigit : Cond.static (mY pTa_isDigit) ∈ GW := gt3 124 rfl rfl
def pTa_readNumber : PM := (⟨RX8, "readNumber", "()V"⟩, prog_10_method_10_code, 2, none, [(0, .aload_n 0, 1), (1, .iconst 0, 1), (2, .putfield 25, 3), (5, .aload_n 0, 1), (6, .getfield 22, 3), (9, .istore_n 1, 1), (10, .iload_n 1, 1), (11, .aload_n 0, 1), (12, .getfield 15, 3), (15, .if_icmp .ge 50, 3), (18, .aload_n 0, 1), (19, .iload_n 1, 1), (20, .invokevirtual 68, 3), (23, .invokestatic 79, 3), (26, .ifCond .eq 39, 3), (29, .aload_n 0, 1), (30, .aload_n 0, 1), (31, .getfield 28, 3), (34, .bipush 10, 2), (36, .imul, 1), (37, .aload_n 0, 1), (38, .iload_n 1, 1), (39, .invokevirtual 68, 3), (42, .iadd, 1), (43, .bipush 48, 2), (45, .isub, 1), (46, .putfield 28, 3), (49, .aload_n 0, 1), (50, .dup, 1), (51, .getfield 25, 3), (54, .iconst 1, 1), (55, .iadd, 1), (56, .putfield 25, 3), (59, .iinc 1 1, 3), (62, .goto (-52), 3), (65, .aload_n 0, 1), (66, .aload_n 0, 1), (67, .getfield 25, 3), (70, .iconst 4, 1), (71, .if_icmp .gt 7, 3), (74, .iconst 1, 1), (75, .goto 4, 3), (78, .iconst 0, 1), (79, .putfield 19, 3), (82, .return_, 1)])
set_option maxRecDepth 100000 in
theorem cok_Ta_readNumber : CodeOK pTa_readNumber := by unfold CodeOK; decide +kernel
theorem ht_Ta_readNumber : hTab pTa_readNumber = none := ht_of rfl nl_8
theorem pl_Ta_readNumber : plainName (mY pTa_readNumber).cls = true := np_8
theorem pm_Ta_readNumber : PlainM pTa_readNumber 0 := ⟨nm_8.1, nm_8.2, pd_2, by decide, gt3 129 rfl rfl, gt1 2 rfl rfl⟩
theorem im_Ta_readNumber : Cond.instanceMethod (mY pTa_readNumber) ∈ GW := gt3 128 rfl rfl
theorem sl_Ta_readNumber : Cond.selects (mY pTa_readNumber).cls (mY pTa_readNumber) (mY pTa_readNumber) ∈ GW := gtS 5 rfl rfl
def pJl_canEncode : PM := (⟨"java/lang/StringLatin1", "canEncode", "(I)Z"⟩, prog_22_method_4_code, 1, some .boolean, [(0, .iload_n 0, 1), (1, .ifCond .lt 14, 3), (4, .iload_n 0, 1), (5, .sipush 255, 3), (8, .if_icmp .gt 7, 3), (11, .iconst 1, 1), (12, .goto 4, 3), (15, .iconst 0, 1), (16, .ireturn, 1)])
set_option maxRecDepth 100000 in
theorem cok_Jl_canEncode : CodeOK pJl_canEncode := by unfold CodeOK; decide +kernel
theorem ht_Jl_canEncode : hTab pJl_canEncode = none := ht_of rfl nl_Jl
theorem pl_Jl_canEncode : plainName (mY pJl_canEncode).cls = true := np_Jl
theorem pm_Jl_canEncode : PlainM pJl_canEncode 1 := ⟨nm_Jl.1, nm_Jl.2, pd_7, by decide, gt3 145 rfl rfl, gt1 4 rfl rfl⟩
theorem st_Jl_canEncode : Cond.static (mY pJl_canEncode) ∈ GW := gt3 144 rfl rfl
def pJl_indexOfChar : PM := (⟨"java/lang/StringLatin1", "indexOfChar", "([BIII)I"⟩, prog_22_method_23_code, 6, some .int, [(0, .iload_n 1, 1), (1, .i2b, 1), (2, .istore 4, 2), (4, .iload_n 2, 1), (5, .istore 5, 2), (7, .iload 5, 2), (9, .iload_n 3, 1), (10, .if_icmp .ge 21, 3), (13, .aload_n 0, 1), (14, .iload 5, 2), (16, .baload, 1), (17, .iload 4, 2), (19, .if_icmp .ne 6, 3), (22, .iload 5, 2), (24, .ireturn, 1), (25, .iinc 5 1, 3), (28, .goto (-21), 3), (31, .iconst (-1), 1), (32, .ireturn, 1)])
set_option maxRecDepth 100000 in
theorem cok_Jl_indexOfChar : CodeOK pJl_indexOfChar := by unfold CodeOK; decide +kernel
theorem ht_Jl_indexOfChar : hTab pJl_indexOfChar = none := ht_of rfl nl_Jl
theorem pl_Jl_indexOfChar : plainName (mY pJl_indexOfChar).cls = true := np_Jl
theorem pm_Jl_indexOfChar : PlainM pJl_indexOfChar 4 := ⟨nm_Jl.1, nm_Jl.2, pd_52, by decide, gt3 154 rfl rfl, gt1 4 rfl rfl⟩
theorem st_Jl_indexOfChar : Cond.static (mY pJl_indexOfChar) ∈ GW := gt3 153 rfl rfl
def pJl_indexOf : PM := (⟨"java/lang/StringLatin1", "indexOf", "([BIII)I"⟩, prog_22_method_22_code, 4, some .int, [(0, .iload_n 1, 1), (1, .invokestatic 88, 3), (4, .ifCond .ne 5, 3), (7, .iconst (-1), 1), (8, .ireturn, 1), (9, .iload_n 2, 1), (10, .iconst 0, 1), (11, .invokestatic 92, 3), (14, .istore_n 2, 1), (15, .iload_n 3, 1), (16, .aload_n 0, 1), (17, .arraylength, 1), (18, .invokestatic 38, 3), (21, .istore_n 3, 1), (22, .iload_n 2, 1), (23, .iload_n 3, 1), (24, .if_icmp .lt 5, 3), (27, .iconst (-1), 1), (28, .ireturn, 1), (29, .aload_n 0, 1), (30, .iload_n 1, 1), (31, .iload_n 2, 1), (32, .iload_n 3, 1), (33, .invokestatic 95, 3), (36, .ireturn, 1)])
set_option maxRecDepth 100000 in
theorem cok_Jl_indexOf : CodeOK pJl_indexOf := by unfold CodeOK; decide +kernel
theorem ht_Jl_indexOf : hTab pJl_indexOf = none := ht_of rfl nl_Jl
theorem pl_Jl_indexOf : plainName (mY pJl_indexOf).cls = true := np_Jl
theorem pm_Jl_indexOf : PlainM pJl_indexOf 4 := ⟨nm_Jl.1, nm_Jl.2, pd_52, by decide, gt3 142 rfl rfl, gt1 4 rfl rfl⟩
theorem st_Jl_indexOf : Cond.static (mY pJl_indexOf) ∈ GW := gt3 141 rfl rfl
def pJs_indexOf2 : PM := (⟨"java/lang/String", "indexOf", "(II)I"⟩, prog_21_method_80_code, 3, some .int, [(0, .aload_n 0, 1), (1, .invokevirtual 492, 3), (4, .ifCond .eq 19, 3), (7, .aload_n 0, 1), (8, .getfield 9, 3), (11, .iload_n 1, 1), (12, .iload_n 2, 1), (13, .aload_n 0, 1), (14, .invokevirtual 505, 3), (17, .invokestatic 637, 3), (20, .goto 16, 3), (23, .aload_n 0, 1), (24, .getfield 9, 3), (27, .iload_n 1, 1), (28, .iload_n 2, 1), (29, .aload_n 0, 1), (30, .invokevirtual 505, 3), (33, .invokestatic 640, 3), (36, .ireturn, 1)])
set_option maxRecDepth 100000 in
theorem cok_Js_indexOf2 : CodeOK pJs_indexOf2 := by unfold CodeOK; decide +kernel
theorem ht_Js_indexOf2 : hTab pJs_indexOf2 = none := ht_of rfl nl_Js
theorem pl_Js_indexOf2 : plainName (mY pJs_indexOf2).cls = true := np_Js
theorem pm_Js_indexOf2 : PlainM pJs_indexOf2 2 := ⟨nm_Js.1, nm_Js.2, pd_8, by decide, gt3 138 rfl rfl, gt1 3 rfl rfl⟩
theorem im_Js_indexOf2 : Cond.instanceMethod (mY pJs_indexOf2) ∈ GW := gt3 136 rfl rfl
theorem sl_Js_indexOf2 : Cond.selects (mY pJs_indexOf2).cls (mY pJs_indexOf2) (mY pJs_indexOf2) ∈ GW := gt3 137 rfl rfl
def pJs_indexOf : PM := (⟨"java/lang/String", "indexOf", "(I)I"⟩, prog_21_method_79_code, 2, some .int, [(0, .aload_n 0, 1), (1, .iload_n 1, 1), (2, .iconst 0, 1), (3, .invokevirtual 633, 3), (6, .ireturn, 1)])
set_option maxRecDepth 100000 in
theorem cok_Js_indexOf : CodeOK pJs_indexOf := by unfold CodeOK; decide +kernel
theorem ht_Js_indexOf : hTab pJs_indexOf = none := ht_of rfl nl_Js
theorem pl_Js_indexOf : plainName (mY pJs_indexOf).cls = true := np_Js
theorem pm_Js_indexOf : PlainM pJs_indexOf 1 := ⟨nm_Js.1, nm_Js.2, pd_5, by decide, gt3 134 rfl rfl, gt1 3 rfl rfl⟩
theorem im_Js_indexOf : Cond.instanceMethod (mY pJs_indexOf) ∈ GW := gt3 132 rfl rfl
theorem sl_Js_indexOf : Cond.selects (mY pJs_indexOf).cls (mY pJs_indexOf) (mY pJs_indexOf) ∈ GW := gt3 133 rfl rfl
def pTa_step : PM := (⟨RX8, "step", "()V"⟩, prog_10_method_5_code, 2, none, [(0, .aload_n 0, 1), (1, .getfield 38, 3), (4, .ifCond .eq 4, 3), (7, .return_, 1), (8, .aload_n 0, 1), (9, .invokevirtual 65, 3), (12, .aload_n 0, 1), (13, .aload_n 0, 1), (14, .getfield 22, 3), (17, .invokevirtual 68, 3), (20, .istore_n 1, 1), (21, .aload_n 0, 1), (22, .iconst 0, 1), (23, .putfield 28, 3), (26, .aload_n 0, 1), (27, .iconst (-1), 1), (28, .putfield 31, 3), (31, .aload_n 0, 1), (32, .iconst 1, 1), (33, .putfield 25, 3), (36, .iload_n 1, 1), (37, .iconst (-1), 1), (38, .if_icmp .ne 16, 3), (41, .aload_n 0, 1), (42, .iconst 3, 1), (43, .putfield 19, 3), (46, .aload_n 0, 1), (47, .iconst 0, 1), (48, .putfield 25, 3), (51, .goto 50, 3), (54, .iload_n 1, 1), (55, .invokestatic 72, 3), (58, .ifCond .eq 10, 3), (61, .aload_n 0, 1), (62, .invokevirtual 76, 3), (65, .goto 36, 3), (68, .iload_n 1, 1), (69, .invokestatic 79, 3), (72, .ifCond .eq 10, 3), (75, .aload_n 0, 1), (76, .invokevirtual 82, 3), (79, .goto 22, 3), (82, .aload_n 0, 1), (83, .ldc 85, 2), (85, .iload_n 1, 1), (86, .i2c, 1), (87, .invokevirtual 87, 3), (90, .ifCond .lt 7, 3), (93, .iload_n 1, 1), (94, .goto 4, 3), (97, .iconst 0, 1), (98, .putfield 19, 3), (101, .return_, 1)])
set_option maxRecDepth 100000 in
theorem cok_Ta_step : CodeOK pTa_step := by unfold CodeOK; decide +kernel
theorem ht_Ta_step : hTab pTa_step = none := ht_of rfl nl_8
theorem pl_Ta_step : plainName (mY pTa_step).cls = true := np_8
theorem pm_Ta_step : PlainM pTa_step 0 := ⟨nm_8.1, nm_8.2, pd_2, by decide, gt3 107 rfl rfl, gt1 2 rfl rfl⟩
theorem im_Ta_step : Cond.instanceMethod (mY pTa_step) ∈ GW := gt3 105 rfl rfl
theorem sl_Ta_step : Cond.selects (mY pTa_step).cls (mY pTa_step) (mY pTa_step) ∈ GW := gt3 106 rfl rfl
def pTa_rewind : PM := (⟨RX8, "rewind", "()V"⟩, prog_10_method_3_code, 1, none, [(0, .aload_n 0, 1), (1, .iconst 0, 1), (2, .putfield 38, 3), (5, .aload_n 0, 1), (6, .iconst 0, 1), (7, .putfield 22, 3), (10, .aload_n 0, 1), (11, .iconst 0, 1), (12, .putfield 25, 3), (15, .aload_n 0, 1), (16, .invokevirtual 62, 3), (19, .return_, 1)])
set_option maxRecDepth 100000 in
theorem cok_Ta_rewind : CodeOK pTa_rewind := by unfold CodeOK; decide +kernel
theorem ht_Ta_rewind : hTab pTa_rewind = none := ht_of rfl nl_8
theorem pl_Ta_rewind : plainName (mY pTa_rewind).cls = true := np_8
theorem pm_Ta_rewind : PlainM pTa_rewind 0 := ⟨nm_8.1, nm_8.2, pd_2, by decide, gt3 103 rfl rfl, gt1 2 rfl rfl⟩
theorem im_Ta_rewind : Cond.instanceMethod (mY pTa_rewind) ∈ GW := gt3 101 rfl rfl
theorem sl_Ta_rewind : Cond.selects (mY pTa_rewind).cls (mY pTa_rewind) (mY pTa_rewind) ∈ GW := gt3 102 rfl rfl
def pTa_isWord : PM := (⟨RX8, "isWord", "(I)Z"⟩, prog_10_method_6_code, 2, some .boolean, [(0, .aload_n 0, 1), (1, .getfield 19, 3), (4, .iconst 2, 1), (5, .if_icmp .ne 15, 3), (8, .aload_n 0, 1), (9, .getfield 31, 3), (12, .iload_n 1, 1), (13, .if_icmp .ne 7, 3), (16, .iconst 1, 1), (17, .goto 4, 3), (20, .iconst 0, 1), (21, .ireturn, 1)])
set_option maxRecDepth 100000 in
theorem cok_Ta_isWord : CodeOK pTa_isWord := by unfold CodeOK; decide +kernel
theorem ht_Ta_isWord : hTab pTa_isWord = none := ht_of rfl nl_8
theorem pl_Ta_isWord : plainName (mY pTa_isWord).cls = true := np_8
theorem pm_Ta_isWord : PlainM pTa_isWord 1 := ⟨nm_8.1, nm_8.2, pd_7, by decide, gt3 197 rfl rfl, gt1 2 rfl rfl⟩
theorem im_Ta_isWord : Cond.instanceMethod (mY pTa_isWord) ∈ GW := gt3 195 rfl rfl
theorem sl_Ta_isWord : Cond.selects (mY pTa_isWord).cls (mY pTa_isWord) (mY pTa_isWord) ∈ GW := gt3 196 rfl rfl
def pTa_blame : PM := (⟨RX8, "blame", "(I)V"⟩, prog_10_method_4_code, 2, none, [(0, .aload_n 0, 1), (1, .getfield 38, 3), (4, .ifCond .ne 16, 3), (7, .aload_n 0, 1), (8, .iload_n 1, 1), (9, .bipush 16, 2), (11, .aload_n 0, 1), (12, .getfield 22, 3), (15, .imul, 1), (16, .iadd, 1), (17, .putfield 38, 3), (20, .return_, 1)])
set_option maxRecDepth 100000 in
theorem cok_Ta_blame : CodeOK pTa_blame := by unfold CodeOK; decide +kernel
theorem ht_Ta_blame : hTab pTa_blame = none := ht_of rfl nl_8
theorem pl_Ta_blame : plainName (mY pTa_blame).cls = true := np_8
theorem pm_Ta_blame : PlainM pTa_blame 1 := ⟨nm_8.1, nm_8.2, pd_6, by decide, gt3 201 rfl rfl, gt1 2 rfl rfl⟩
theorem im_Ta_blame : Cond.instanceMethod (mY pTa_blame) ∈ GW := gt3 199 rfl rfl
theorem sl_Ta_blame : Cond.selects (mY pTa_blame).cls (mY pTa_blame) (mY pTa_blame) ∈ GW := gt3 200 rfl rfl
def pRe_keyword : PM := (⟨RX4, "keyword", "(I)V"⟩, prog_6_method_19_code, 2, none, [(0, .aload_n 0, 1), (1, .getfield 26, 3), (4, .iload_n 1, 1), (5, .invokevirtual 185, 3), (8, .ifCond .ne 11, 3), (11, .aload_n 0, 1), (12, .getfield 26, 3), (15, .iconst 1, 1), (16, .invokevirtual 89, 3), (19, .aload_n 0, 1), (20, .getfield 26, 3), (23, .invokevirtual 92, 3), (26, .return_, 1)])
set_option maxRecDepth 100000 in
theorem cok_Re_keyword : CodeOK pRe_keyword := by unfold CodeOK; decide +kernel
theorem ht_Re_keyword : hTab pRe_keyword = none := ht_of rfl nl_4
theorem pl_Re_keyword : plainName (mY pRe_keyword).cls = true := np_4
theorem pm_Re_keyword : PlainM pRe_keyword 1 := ⟨nm_4.1, nm_4.2, pd_6, by decide, gt3 193 rfl rfl, gt1 9 rfl rfl⟩
theorem im_Re_keyword : Cond.instanceMethod (mY pRe_keyword) ∈ GW := gt3 192 rfl rfl
theorem sl_Re_keyword : Cond.selects (mY pRe_keyword).cls (mY pRe_keyword) (mY pRe_keyword) ∈ GW := gtS 6 rfl rfl
def pTa_isNumber : PM := (⟨RX8, "isNumber", "(II)Z"⟩, prog_10_method_7_code, 3, some .boolean, [(0, .aload_n 0, 1), (1, .getfield 19, 3), (4, .iconst 1, 1), (5, .if_icmp .ne 23, 3), (8, .aload_n 0, 1), (9, .getfield 28, 3), (12, .iload_n 1, 1), (13, .if_icmp .lt 15, 3), (16, .aload_n 0, 1), (17, .getfield 28, 3), (20, .iload_n 2, 1), (21, .if_icmp .gt 7, 3), (24, .iconst 1, 1), (25, .goto 4, 3), (28, .iconst 0, 1), (29, .ireturn, 1)])
set_option maxRecDepth 100000 in
theorem cok_Ta_isNumber : CodeOK pTa_isNumber := by unfold CodeOK; decide +kernel
theorem ht_Ta_isNumber : hTab pTa_isNumber = none := ht_of rfl nl_8
theorem pl_Ta_isNumber : plainName (mY pTa_isNumber).cls = true := np_8
theorem pm_Ta_isNumber : PlainM pTa_isNumber 2 := ⟨nm_8.1, nm_8.2, pd_10, by decide, gt3 210 rfl rfl, gt1 2 rfl rfl⟩
theorem im_Ta_isNumber : Cond.instanceMethod (mY pTa_isNumber) ∈ GW := gt3 208 rfl rfl
theorem sl_Ta_isNumber : Cond.selects (mY pTa_isNumber).cls (mY pTa_isNumber) (mY pTa_isNumber) ∈ GW := gt3 209 rfl rfl
def pRe_number : PM := (⟨RX4, "number", "(II)I"⟩, prog_6_method_21_code, 4, some .int, [(0, .aload_n 0, 1), (1, .getfield 26, 3), (4, .getfield 154, 3), (7, .istore_n 3, 1), (8, .aload_n 0, 1), (9, .getfield 26, 3), (12, .getfield 83, 3), (15, .iconst 1, 1), (16, .if_icmp .eq 14, 3), (19, .aload_n 0, 1), (20, .getfield 26, 3), (23, .iconst 1, 1), (24, .invokevirtual 89, 3), (27, .goto 23, 3), (30, .aload_n 0, 1), (31, .getfield 26, 3), (34, .iload_n 1, 1), (35, .iload_n 2, 1), (36, .invokevirtual 150, 3), (39, .ifCond .ne 11, 3), (42, .aload_n 0, 1), (43, .getfield 26, 3), (46, .iconst 4, 1), (47, .invokevirtual 89, 3), (50, .aload_n 0, 1), (51, .getfield 26, 3), (54, .invokevirtual 92, 3), (57, .aload_n 0, 1), (58, .getfield 26, 3), (61, .getfield 72, 3), (64, .ifCond .ne 7, 3), (67, .iload_n 3, 1), (68, .goto 4, 3), (71, .iconst 0, 1), (72, .ireturn, 1)])
set_option maxRecDepth 100000 in
theorem cok_Re_number : CodeOK pRe_number := by unfold CodeOK; decide +kernel
theorem ht_Re_number : hTab pRe_number = none := ht_of rfl nl_4
theorem pl_Re_number : plainName (mY pRe_number).cls = true := np_4
theorem pm_Re_number : PlainM pRe_number 2 := ⟨nm_4.1, nm_4.2, pd_8, by decide, gt3 206 rfl rfl, gt1 9 rfl rfl⟩
theorem im_Re_number : Cond.instanceMethod (mY pRe_number) ∈ GW := gt3 205 rfl rfl
theorem sl_Re_number : Cond.selects (mY pRe_number).cls (mY pRe_number) (mY pRe_number) ∈ GW := gtS 7 rfl rfl
def pRe_sign : PM := (⟨RX4, "sign", "(I)V"⟩, prog_6_method_20_code, 2, none, [(0, .aload_n 0, 1), (1, .getfield 26, 3), (4, .getfield 83, 3), (7, .iload_n 1, 1), (8, .if_icmp .eq 11, 3), (11, .aload_n 0, 1), (12, .getfield 26, 3), (15, .iconst 1, 1), (16, .invokevirtual 89, 3), (19, .aload_n 0, 1), (20, .getfield 26, 3), (23, .invokevirtual 92, 3), (26, .return_, 1)])
set_option maxRecDepth 100000 in
theorem cok_Re_sign : CodeOK pRe_sign := by unfold CodeOK; decide +kernel
theorem ht_Re_sign : hTab pRe_sign = none := ht_of rfl nl_4
theorem pl_Re_sign : plainName (mY pRe_sign).cls = true := np_4
theorem pm_Re_sign : PlainM pRe_sign 1 := ⟨nm_4.1, nm_4.2, pd_6, by decide, gt3 214 rfl rfl, gt1 9 rfl rfl⟩
theorem im_Re_sign : Cond.instanceMethod (mY pRe_sign) ∈ GW := gt3 213 rfl rfl
theorem sl_Re_sign : Cond.selects (mY pRe_sign).cls (mY pRe_sign) (mY pRe_sign) ∈ GW := gtS 8 rfl rfl
def pRe_hasMore : PM := (⟨RX4, "hasMore", "()Z"⟩, prog_6_method_4_code, 1, some .boolean, [(0, .aload_n 0, 1), (1, .getfield 26, 3), (4, .getfield 72, 3), (7, .ifCond .ne 18, 3), (10, .aload_n 0, 1), (11, .getfield 26, 3), (14, .getfield 83, 3), (17, .iconst 3, 1), (18, .if_icmp .eq 7, 3), (21, .iconst 1, 1), (22, .goto 4, 3), (25, .iconst 0, 1), (26, .ireturn, 1)])
set_option maxRecDepth 100000 in
theorem cok_Re_hasMore : CodeOK pRe_hasMore := by unfold CodeOK; decide +kernel
theorem ht_Re_hasMore : hTab pRe_hasMore = none := ht_of rfl nl_4
theorem pl_Re_hasMore : plainName (mY pRe_hasMore).cls = true := np_4
theorem pm_Re_hasMore : PlainM pRe_hasMore 0 := ⟨nm_4.1, nm_4.2, pd_3, by decide, gt3 218 rfl rfl, gt1 9 rfl rfl⟩
theorem im_Re_hasMore : Cond.instanceMethod (mY pRe_hasMore) ∈ GW := gt3 217 rfl rfl
theorem sl_Re_hasMore : Cond.selects (mY pRe_hasMore).cls (mY pRe_hasMore) (mY pRe_hasMore) ∈ GW := gtS 9 rfl rfl
def pRe_isCalled : PM := (⟨RX4, "isCalled", "(II)Z"⟩, prog_6_method_10_code, 4, some .boolean, [(0, .iload_n 1, 1), (1, .istore_n 3, 1), (2, .iload_n 3, 1), (3, .iload_n 2, 1), (4, .if_icmp .gt 33, 3), (7, .iload_n 3, 1), (8, .ifCond .lt 23, 3), (11, .iload_n 3, 1), (12, .aload_n 0, 1), (13, .getfield 19, 3), (16, .arraylength, 1), (17, .if_icmp .ge 14, 3), (20, .aload_n 0, 1), (21, .getfield 19, 3), (24, .iload_n 3, 1), (25, .baload, 1), (26, .ifCond .eq 5, 3), (29, .iconst 1, 1), (30, .ireturn, 1), (31, .iinc 3 1, 3), (34, .goto (-32), 3), (37, .iconst 0, 1), (38, .ireturn, 1)])
set_option maxRecDepth 100000 in
theorem cok_Re_isCalled : CodeOK pRe_isCalled := by unfold CodeOK; decide +kernel
theorem ht_Re_isCalled : hTab pRe_isCalled = none := ht_of rfl nl_4
theorem pl_Re_isCalled : plainName (mY pRe_isCalled).cls = true := np_4
theorem pm_Re_isCalled : PlainM pRe_isCalled 2 := ⟨nm_4.1, nm_4.2, pd_10, by decide, gt3 230 rfl rfl, gt1 9 rfl rfl⟩
theorem im_Re_isCalled : Cond.instanceMethod (mY pRe_isCalled) ∈ GW := gt3 229 rfl rfl
theorem sl_Re_isCalled : Cond.selects (mY pRe_isCalled).cls (mY pRe_isCalled) (mY pRe_isCalled) ∈ GW := gtS 12 rfl rfl
def pRe_markCalled : PM := (⟨RX4, "markCalled", "(II)V"⟩, prog_6_method_11_code, 4, none, [(0, .iload_n 1, 1), (1, .istore_n 3, 1), (2, .iload_n 3, 1), (3, .iload_n 2, 1), (4, .if_icmp .gt 29, 3), (7, .iload_n 3, 1), (8, .ifCond .lt 19, 3), (11, .iload_n 3, 1), (12, .aload_n 0, 1), (13, .getfield 19, 3), (16, .arraylength, 1), (17, .if_icmp .ge 10, 3), (20, .aload_n 0, 1), (21, .getfield 19, 3), (24, .iload_n 3, 1), (25, .iconst 1, 1), (26, .bastore, 1), (27, .iinc 3 1, 3), (30, .goto (-28), 3), (33, .return_, 1)])
set_option maxRecDepth 100000 in
theorem cok_Re_markCalled : CodeOK pRe_markCalled := by unfold CodeOK; decide +kernel
theorem ht_Re_markCalled : hTab pRe_markCalled = none := ht_of rfl nl_4
theorem pl_Re_markCalled : plainName (mY pRe_markCalled).cls = true := np_4
theorem pm_Re_markCalled : PlainM pRe_markCalled 2 := ⟨nm_4.1, nm_4.2, pd_9, by decide, gt3 235 rfl rfl, gt1 9 rfl rfl⟩
theorem im_Re_markCalled : Cond.instanceMethod (mY pRe_markCalled) ∈ GW := gt3 234 rfl rfl
theorem sl_Re_markCalled : Cond.selects (mY pRe_markCalled).cls (mY pRe_markCalled) (mY pRe_markCalled) ∈ GW := gtS 13 rfl rfl
def pRe_callsLine : PM := (⟨RX4, "callsLine", "()V"⟩, prog_6_method_9_code, 7, none, [(0, .aload_n 0, 1), (1, .getfield 22, 3), (4, .bipush 8, 2), (6, .if_icmp .lt 12, 3), (9, .aload_n 0, 1), (10, .getfield 26, 3), (13, .iconst 5, 1), (14, .invokevirtual 89, 3), (17, .return_, 1), (18, .aload_n 0, 1), (19, .dup, 1), (20, .getfield 22, 3), (23, .iconst 1, 1), (24, .iadd, 1), (25, .putfield 22, 3), (28, .aload_n 0, 1), (29, .getfield 26, 3), (32, .invokevirtual 92, 3), (35, .aload_n 0, 1), (36, .iconst 0, 1), (37, .aload_n 0, 1), (38, .getfield 30, 3), (41, .getfield 56, 3), (44, .iconst 1, 1), (45, .isub, 1), (46, .invokevirtual 52, 3), (49, .istore_n 1, 1), (50, .aload_n 0, 1), (51, .bipush 15, 2), (53, .invokevirtual 48, 3), (56, .aload_n 0, 1), (57, .getfield 26, 3), (60, .iload_n 1, 1), (61, .aload_n 0, 1), (62, .getfield 30, 3), (65, .getfield 56, 3), (68, .iconst 1, 1), (69, .isub, 1), (70, .invokevirtual 150, 3), (73, .ifCond .eq 26, 3), (76, .aload_n 0, 1), (77, .iload_n 1, 1), (78, .aload_n 0, 1), (79, .getfield 26, 3), (82, .getfield 154, 3), (85, .invokevirtual 156, 3), (88, .ifCond .eq 11, 3), (91, .aload_n 0, 1), (92, .getfield 26, 3), (95, .iconst 3, 1), (96, .invokevirtual 89, 3), (99, .aload_n 0, 1), (100, .iload_n 1, 1), (101, .aload_n 0, 1), (102, .getfield 30, 3), (105, .getfield 56, 3), (108, .iconst 1, 1), (109, .isub, 1), (110, .invokevirtual 52, 3), (113, .istore_n 2, 1), (114, .iconst 0, 1), (115, .istore_n 3, 1), (116, .iconst 0, 1), (117, .istore 4, 2), (119, .iload 4, 2), (121, .iconst 3, 1), (122, .if_icmp .gt 98, 3), (125, .iload 4, 2), (127, .iconst 3, 1), (128, .if_icmp .ne 38, 3), (131, .aload_n 0, 1), (132, .getfield 26, 3), (135, .iconst 0, 1), (136, .bipush 10, 2), (138, .invokevirtual 150, 3), (141, .ifCond .eq 25, 3), (144, .iload_n 3, 1), (145, .aload_n 0, 1), (146, .getfield 26, 3), (149, .getfield 154, 3), (152, .iadd, 1), (153, .bipush 10, 2), (155, .if_icmp .eq 11, 3), (158, .aload_n 0, 1), (159, .getfield 26, 3), (162, .iconst 4, 1), (163, .invokevirtual 89, 3), (166, .aload_n 0, 1), (167, .iconst 0, 1), (168, .bipush 10, 2), (170, .invokevirtual 52, 3), (173, .istore 5, 2), (175, .iload_n 3, 1), (176, .iload 5, 2), (178, .iadd, 1), (179, .istore_n 3, 1), (180, .iload_n 1, 1), (181, .istore 6, 2), (183, .iload 6, 2), (185, .iload_n 2, 1), (186, .if_icmp .gt 28, 3), (189, .aload_n 0, 1), (190, .getfield 30, 3), (193, .getfield 159, 3), (196, .iload 6, 2), (198, .iconst 4, 1), (199, .imul, 1), (200, .iload 4, 2), (202, .iadd, 1), (203, .iload 5, 2), (205, .invokestatic 146, 3), (208, .iinc 6 1, 3), (211, .goto (-28), 3), (214, .iinc 4 1, 3), (217, .goto (-98), 3), (220, .aload_n 0, 1), (221, .bipush 59, 2), (223, .invokevirtual 59, 3), (226, .aload_n 0, 1), (227, .iload_n 1, 1), (228, .iload_n 2, 1), (229, .invokevirtual 162, 3), (232, .return_, 1)])
set_option maxRecDepth 100000 in
theorem cok_Re_callsLine : CodeOK pRe_callsLine := by unfold CodeOK; decide +kernel
theorem ht_Re_callsLine : hTab pRe_callsLine = none := ht_of rfl nl_4
theorem pl_Re_callsLine : plainName (mY pRe_callsLine).cls = true := np_4
theorem pm_Re_callsLine : PlainM pRe_callsLine 0 := ⟨nm_4.1, nm_4.2, pd_2, by decide, gt3 226 rfl rfl, gt1 9 rfl rfl⟩
theorem im_Re_callsLine : Cond.instanceMethod (mY pRe_callsLine) ∈ GW := gt3 225 rfl rfl
theorem sl_Re_callsLine : Cond.selects (mY pRe_callsLine).cls (mY pRe_callsLine) (mY pRe_callsLine) ∈ GW := gtS 11 rfl rfl
def pRe_isNamed : PM := (⟨RX4, "isNamed", "(J)Z"⟩, prog_6_method_13_code, 4, some .boolean, [(0, .iconst 0, 1), (1, .istore_n 3, 1), (2, .iload_n 3, 1), (3, .aload_n 0, 1), (4, .getfield 30, 3), (7, .getfield 165, 3), (10, .if_icmp .ge 31, 3), (13, .iload_n 3, 1), (14, .aload_n 0, 1), (15, .getfield 9, 3), (18, .arraylength, 1), (19, .if_icmp .ge 22, 3), (22, .aload_n 0, 1), (23, .getfield 9, 3), (26, .iload_n 3, 1), (27, .laload, 1), (28, .lload_n 1, 1), (29, .lcmp, 1), (30, .ifCond .ne 5, 3), (33, .iconst 1, 1), (34, .ireturn, 1), (35, .iinc 3 1, 3), (38, .goto (-36), 3), (41, .iconst 0, 1), (42, .ireturn, 1)])
set_option maxRecDepth 100000 in
theorem cok_Re_isNamed : CodeOK pRe_isNamed := by unfold CodeOK; decide +kernel
theorem ht_Re_isNamed : hTab pRe_isNamed = none := ht_of rfl nl_4
theorem pl_Re_isNamed : plainName (mY pRe_isNamed).cls = true := np_4
theorem pm_Re_isNamed : PlainM pRe_isNamed 1 := ⟨nm_4.1, nm_4.2, pd_28, by decide, gt4 3 rfl rfl, gt1 9 rfl rfl⟩
theorem im_Re_isNamed : Cond.instanceMethod (mY pRe_isNamed) ∈ GW := gt4 2 rfl rfl
theorem sl_Re_isNamed : Cond.selects (mY pRe_isNamed).cls (mY pRe_isNamed) (mY pRe_isNamed) ∈ GW := gtS 15 rfl rfl
def pHo_write : PM := (⟨RX0, "write", "(I)V"⟩, prog_2_method_5_code, 2, none, [(0, .aload_n 0, 1), (1, .getfield 64, 3), (4, .aload_n 0, 1), (5, .getfield 51, 3), (8, .iload_n 1, 1), (9, .invokestatic 76, 3), (12, .aload_n 0, 1), (13, .dup, 1), (14, .getfield 51, 3), (17, .iconst 1, 1), (18, .iadd, 1), (19, .putfield 51, 3), (22, .return_, 1)])
set_option maxRecDepth 100000 in
theorem cok_Ho_write : CodeOK pHo_write := by unfold CodeOK; decide +kernel
theorem ht_Ho_write : hTab pHo_write = none := ht_of rfl nl_0
theorem pl_Ho_write : plainName (mY pHo_write).cls = true := np_0
theorem pm_Ho_write : PlainM pHo_write 1 := ⟨nm_0.1, nm_0.2, pd_6, by decide, gt4 27 rfl rfl, gt1 7 rfl rfl⟩
theorem im_Ho_write : Cond.instanceMethod (mY pHo_write) ∈ GW := gt4 25 rfl rfl
theorem sl_Ho_write : Cond.selects (mY pHo_write).cls (mY pHo_write) (mY pHo_write) ∈ GW := gt4 26 rfl rfl
def pRe_product : PM := (⟨RX4, "product", "(I)V"⟩, prog_6_method_17_code, 3, none, [(0, .aload_n 0, 1), (1, .iload_n 1, 1), (2, .invokevirtual 198, 3), (5, .iconst 0, 1), (6, .istore_n 2, 1), (7, .iload_n 2, 1), (8, .sipush 1000, 3), (11, .if_icmp .ge 49, 3), (14, .aload_n 0, 1), (15, .invokevirtual 62, 3), (18, .ifCond .eq 42, 3), (21, .aload_n 0, 1), (22, .getfield 26, 3), (25, .getfield 83, 3), (28, .bipush 42, 2), (30, .if_icmp .ne 30, 3), (33, .aload_n 0, 1), (34, .getfield 26, 3), (37, .invokevirtual 92, 3), (40, .aload_n 0, 1), (41, .iload_n 1, 1), (42, .invokevirtual 198, 3), (45, .aload_n 0, 1), (46, .getfield 30, 3), (49, .bipush (-13), 2), (51, .invokevirtual 189, 3), (54, .iinc 2 1, 3), (57, .goto (-50), 3), (60, .return_, 1)])
set_option maxRecDepth 100000 in
theorem cok_Re_product : CodeOK pRe_product := by unfold CodeOK; decide +kernel
theorem ht_Re_product : hTab pRe_product = none := ht_of rfl nl_4
theorem pl_Re_product : plainName (mY pRe_product).cls = true := np_4
theorem pm_Re_product : PlainM pRe_product 1 := ⟨nm_4.1, nm_4.2, pd_6, by decide, gt4 19 rfl rfl, gt1 9 rfl rfl⟩
theorem im_Re_product : Cond.instanceMethod (mY pRe_product) ∈ GW := gt4 18 rfl rfl
theorem sl_Re_product : Cond.selects (mY pRe_product).cls (mY pRe_product) (mY pRe_product) ∈ GW := gtS 19 rfl rfl
def pRe_sum : PM := (⟨RX4, "sum", "(I)V"⟩, prog_6_method_16_code, 4, none, [(0, .aload_n 0, 1), (1, .iload_n 1, 1), (2, .invokevirtual 195, 3), (5, .iconst 0, 1), (6, .istore_n 2, 1), (7, .iload_n 2, 1), (8, .sipush 1000, 3), (11, .if_icmp .ge 80, 3), (14, .aload_n 0, 1), (15, .invokevirtual 62, 3), (18, .ifCond .eq 73, 3), (21, .aload_n 0, 1), (22, .getfield 26, 3), (25, .getfield 83, 3), (28, .bipush 43, 2), (30, .if_icmp .eq 15, 3), (33, .aload_n 0, 1), (34, .getfield 26, 3), (37, .getfield 83, 3), (40, .bipush 45, 2), (42, .if_icmp .ne 49, 3), (45, .aload_n 0, 1), (46, .getfield 26, 3), (49, .getfield 83, 3), (52, .bipush 43, 2), (54, .if_icmp .ne 8, 3), (57, .bipush (-11), 2), (59, .goto 5, 3), (62, .bipush (-12), 2), (64, .istore_n 3, 1), (65, .aload_n 0, 1), (66, .getfield 26, 3), (69, .invokevirtual 92, 3), (72, .aload_n 0, 1), (73, .iload_n 1, 1), (74, .invokevirtual 195, 3), (77, .aload_n 0, 1), (78, .getfield 30, 3), (81, .iload_n 3, 1), (82, .invokevirtual 189, 3), (85, .iinc 2 1, 3), (88, .goto (-81), 3), (91, .return_, 1)])
set_option maxRecDepth 100000 in
theorem cok_Re_sum : CodeOK pRe_sum := by unfold CodeOK; decide +kernel
theorem ht_Re_sum : hTab pRe_sum = none := ht_of rfl nl_4
theorem pl_Re_sum : plainName (mY pRe_sum).cls = true := np_4
theorem pm_Re_sum : PlainM pRe_sum 1 := ⟨nm_4.1, nm_4.2, pd_6, by decide, gt4 15 rfl rfl, gt1 9 rfl rfl⟩
theorem im_Re_sum : Cond.instanceMethod (mY pRe_sum) ∈ GW := gt4 14 rfl rfl
theorem sl_Re_sum : Cond.selects (mY pRe_sum).cls (mY pRe_sum) (mY pRe_sum) ∈ GW := gtS 18 rfl rfl
def pRe_test : PM := (⟨RX4, "test", "(I)V"⟩, prog_6_method_15_code, 3, none, [(0, .aload_n 0, 1), (1, .iload_n 1, 1), (2, .invokevirtual 192, 3), (5, .aload_n 0, 1), (6, .invokevirtual 62, 3), (9, .ifCond .eq 67, 3), (12, .aload_n 0, 1), (13, .getfield 26, 3), (16, .getfield 83, 3), (19, .bipush 60, 2), (21, .if_icmp .eq 15, 3), (24, .aload_n 0, 1), (25, .getfield 26, 3), (28, .getfield 83, 3), (31, .bipush 61, 2), (33, .if_icmp .ne 43, 3), (36, .aload_n 0, 1), (37, .getfield 26, 3), (40, .getfield 83, 3), (43, .bipush 60, 2), (45, .if_icmp .ne 8, 3), (48, .bipush (-9), 2), (50, .goto 5, 3), (53, .bipush (-10), 2), (55, .istore_n 2, 1), (56, .aload_n 0, 1), (57, .getfield 26, 3), (60, .invokevirtual 92, 3), (63, .aload_n 0, 1), (64, .iload_n 1, 1), (65, .invokevirtual 192, 3), (68, .aload_n 0, 1), (69, .getfield 30, 3), (72, .iload_n 2, 1), (73, .invokevirtual 189, 3), (76, .return_, 1)])
set_option maxRecDepth 100000 in
theorem cok_Re_test : CodeOK pRe_test := by unfold CodeOK; decide +kernel
theorem ht_Re_test : hTab pRe_test = none := ht_of rfl nl_4
theorem pl_Re_test : plainName (mY pRe_test).cls = true := np_4
theorem pm_Re_test : PlainM pRe_test 1 := ⟨nm_4.1, nm_4.2, pd_6, by decide, gt4 11 rfl rfl, gt1 9 rfl rfl⟩
theorem im_Re_test : Cond.instanceMethod (mY pRe_test) ∈ GW := gt4 10 rfl rfl
theorem sl_Re_test : Cond.selects (mY pRe_test).cls (mY pRe_test) (mY pRe_test) ∈ GW := gtS 17 rfl rfl
def pRe_either : PM := (⟨RX4, "either", "(I)V"⟩, prog_6_method_14_code, 4, none, [(0, .aload_n 0, 1), (1, .iload_n 1, 1), (2, .invokevirtual 182, 3), (5, .iconst 0, 1), (6, .istore_n 2, 1), (7, .iload_n 2, 1), (8, .sipush 1000, 3), (11, .if_icmp .ge 80, 3), (14, .aload_n 0, 1), (15, .invokevirtual 62, 3), (18, .ifCond .eq 73, 3), (21, .aload_n 0, 1), (22, .getfield 26, 3), (25, .bipush 21, 2), (27, .invokevirtual 185, 3), (30, .ifCond .ne 15, 3), (33, .aload_n 0, 1), (34, .getfield 26, 3), (37, .bipush 22, 2), (39, .invokevirtual 185, 3), (42, .ifCond .eq 49, 3), (45, .aload_n 0, 1), (46, .getfield 26, 3), (49, .bipush 21, 2), (51, .invokevirtual 185, 3), (54, .ifCond .eq 8, 3), (57, .bipush (-7), 2), (59, .goto 5, 3), (62, .bipush (-8), 2), (64, .istore_n 3, 1), (65, .aload_n 0, 1), (66, .getfield 26, 3), (69, .invokevirtual 92, 3), (72, .aload_n 0, 1), (73, .iload_n 1, 1), (74, .invokevirtual 182, 3), (77, .aload_n 0, 1), (78, .getfield 30, 3), (81, .iload_n 3, 1), (82, .invokevirtual 189, 3), (85, .iinc 2 1, 3), (88, .goto (-81), 3), (91, .return_, 1)])
set_option maxRecDepth 100000 in
theorem cok_Re_either : CodeOK pRe_either := by unfold CodeOK; decide +kernel
theorem ht_Re_either : hTab pRe_either = none := ht_of rfl nl_4
theorem pl_Re_either : plainName (mY pRe_either).cls = true := np_4
theorem pm_Re_either : PlainM pRe_either 1 := ⟨nm_4.1, nm_4.2, pd_6, by decide, gt4 7 rfl rfl, gt1 9 rfl rfl⟩
theorem im_Re_either : Cond.instanceMethod (mY pRe_either) ∈ GW := gt4 6 rfl rfl
theorem sl_Re_either : Cond.selects (mY pRe_either).cls (mY pRe_either) (mY pRe_either) ∈ GW := gtS 16 rfl rfl
def pRe_part : PM := (⟨RX4, "part", "(I)V"⟩, prog_6_method_18_code, 5, none, [(0, .aload_n 0, 1), (1, .getfield 26, 3), (4, .getfield 83, 3), (7, .iconst 2, 1), (8, .if_icmp .ne 19, 3), (11, .aload_n 0, 1), (12, .getfield 26, 3), (15, .getfield 86, 3), (18, .bipush 23, 2), (20, .if_icmp .lt 7, 3), (23, .iconst 1, 1), (24, .goto 4, 3), (27, .iconst 0, 1), (28, .istore_n 2, 1), (29, .aload_n 0, 1), (30, .getfield 26, 3), (33, .getfield 83, 3), (36, .iconst 1, 1), (37, .if_icmp .eq 7, 3), (40, .iload_n 2, 1), (41, .ifCond .eq 7, 3), (44, .iconst 1, 1), (45, .goto 4, 3), (48, .iconst 0, 1), (49, .istore_n 3, 1), (50, .aload_n 0, 1), (51, .getfield 26, 3), (54, .bipush 20, 2), (56, .invokevirtual 185, 3), (59, .istore 4, 2), (61, .iload_n 3, 1), (62, .ifCond .ne 31, 3), (65, .iload 4, 2), (67, .ifCond .ne 26, 3), (70, .aload_n 0, 1), (71, .getfield 26, 3), (74, .getfield 83, 3), (77, .bipush 40, 2), (79, .if_icmp .eq 14, 3), (82, .aload_n 0, 1), (83, .getfield 26, 3), (86, .iconst 1, 1), (87, .invokevirtual 89, 3), (90, .goto 136, 3), (93, .iload_n 1, 1), (94, .iconst 5, 1), (95, .if_icmp .lt 14, 3), (98, .aload_n 0, 1), (99, .getfield 26, 3), (102, .iconst 5, 1), (103, .invokevirtual 89, 3), (106, .goto 120, 3), (109, .iload_n 3, 1), (110, .ifCond .eq 44, 3), (113, .aload_n 0, 1), (114, .getfield 30, 3), (117, .iload_n 2, 1), (118, .ifCond .eq 16, 3), (121, .bipush 22, 2), (123, .aload_n 0, 1), (124, .getfield 26, 3), (127, .getfield 86, 3), (130, .isub, 1), (131, .goto 10, 3), (134, .aload_n 0, 1), (135, .getfield 26, 3), (138, .getfield 154, 3), (141, .invokevirtual 189, 3), (144, .aload_n 0, 1), (145, .getfield 26, 3), (148, .invokevirtual 92, 3), (151, .goto 75, 3), (154, .iload 4, 2), (156, .ifCond .eq 29, 3), (159, .aload_n 0, 1), (160, .getfield 26, 3), (163, .invokevirtual 92, 3), (166, .aload_n 0, 1), (167, .iload_n 1, 1), (168, .iconst 1, 1), (169, .iadd, 1), (170, .invokevirtual 198, 3), (173, .aload_n 0, 1), (174, .getfield 30, 3), (177, .bipush (-6), 2), (179, .invokevirtual 189, 3), (182, .goto 44, 3), (185, .aload_n 0, 1), (186, .getfield 26, 3), (189, .invokevirtual 92, 3), (192, .aload_n 0, 1), (193, .iload_n 1, 1), (194, .iconst 1, 1), (195, .iadd, 1), (196, .invokevirtual 176, 3), (199, .aload_n 0, 1), (200, .getfield 26, 3), (203, .getfield 83, 3), (206, .bipush 41, 2), (208, .if_icmp .eq 11, 3), (211, .aload_n 0, 1), (212, .getfield 26, 3), (215, .iconst 1, 1), (216, .invokevirtual 89, 3), (219, .aload_n 0, 1), (220, .getfield 26, 3), (223, .invokevirtual 92, 3), (226, .return_, 1)])
set_option maxRecDepth 100000 in
theorem cok_Re_part : CodeOK pRe_part := by unfold CodeOK; decide +kernel
theorem ht_Re_part : hTab pRe_part = none := ht_of rfl nl_4
theorem pl_Re_part : plainName (mY pRe_part).cls = true := np_4
theorem pm_Re_part : PlainM pRe_part 1 := ⟨nm_4.1, nm_4.2, pd_6, by decide, gt4 23 rfl rfl, gt1 9 rfl rfl⟩
theorem im_Re_part : Cond.instanceMethod (mY pRe_part) ∈ GW := gt4 22 rfl rfl
theorem sl_Re_part : Cond.selects (mY pRe_part).cls (mY pRe_part) (mY pRe_part) ∈ GW := gtS 20 rfl rfl
def pHo_endHabit : PM := (⟨RX0, "endHabit", "()V"⟩, prog_2_method_6_code, 1, none, [(0, .aload_n 0, 1), (1, .getfield 67, 3), (4, .aload_n 0, 1), (5, .getfield 48, 3), (8, .aload_n 0, 1), (9, .getfield 51, 3), (12, .invokestatic 76, 3), (15, .aload_n 0, 1), (16, .dup, 1), (17, .getfield 48, 3), (20, .iconst 1, 1), (21, .iadd, 1), (22, .putfield 48, 3), (25, .return_, 1)])
set_option maxRecDepth 100000 in
theorem cok_Ho_endHabit : CodeOK pHo_endHabit := by unfold CodeOK; decide +kernel
theorem ht_Ho_endHabit : hTab pHo_endHabit = none := ht_of rfl nl_0
theorem pl_Ho_endHabit : plainName (mY pHo_endHabit).cls = true := np_0
theorem pm_Ho_endHabit : PlainM pHo_endHabit 0 := ⟨nm_0.1, nm_0.2, pd_2, by decide, gt4 31 rfl rfl, gt1 7 rfl rfl⟩
theorem im_Ho_endHabit : Cond.instanceMethod (mY pHo_endHabit) ∈ GW := gt4 29 rfl rfl
theorem sl_Ho_endHabit : Cond.selects (mY pHo_endHabit).cls (mY pHo_endHabit) (mY pHo_endHabit) ∈ GW := gt4 30 rfl rfl
def pRe_habitLine : PM := (⟨RX4, "habitLine", "()V"⟩, prog_6_method_12_code, 2, none, [(0, .aload_n 0, 1), (1, .getfield 30, 3), (4, .getfield 165, 3), (7, .istore_n 1, 1), (8, .iload_n 1, 1), (9, .ifCond .lt 17, 3), (12, .iload_n 1, 1), (13, .iconst 4, 1), (14, .if_icmp .ge 12, 3), (17, .iload_n 1, 1), (18, .aload_n 0, 1), (19, .getfield 9, 3), (22, .arraylength, 1), (23, .if_icmp .lt 12, 3), (26, .aload_n 0, 1), (27, .getfield 26, 3), (30, .iconst 5, 1), (31, .invokevirtual 89, 3), (34, .return_, 1), (35, .aload_n 0, 1), (36, .getfield 26, 3), (39, .invokevirtual 92, 3), (42, .aload_n 0, 1), (43, .getfield 26, 3), (46, .getfield 83, 3), (49, .iconst 2, 1), (50, .if_icmp .ne 26, 3), (53, .aload_n 0, 1), (54, .getfield 26, 3), (57, .getfield 86, 3), (60, .iconst (-1), 1), (61, .if_icmp .eq 26, 3), (64, .aload_n 0, 1), (65, .getfield 26, 3), (68, .getfield 86, 3), (71, .bipush 23, 2), (73, .if_icmp .ge 14, 3), (76, .aload_n 0, 1), (77, .getfield 26, 3), (80, .iconst 1, 1), (81, .invokevirtual 89, 3), (84, .goto 25, 3), (87, .aload_n 0, 1), (88, .aload_n 0, 1), (89, .getfield 26, 3), (92, .getfield 168, 3), (95, .invokevirtual 172, 3), (98, .ifCond .eq 11, 3), (101, .aload_n 0, 1), (102, .getfield 26, 3), (105, .iconst 3, 1), (106, .invokevirtual 89, 3), (109, .aload_n 0, 1), (110, .getfield 9, 3), (113, .iload_n 1, 1), (114, .aload_n 0, 1), (115, .getfield 26, 3), (118, .getfield 168, 3), (121, .lastore, 1), (122, .aload_n 0, 1), (123, .getfield 26, 3), (126, .invokevirtual 92, 3), (129, .aload_n 0, 1), (130, .iconst 0, 1), (131, .invokevirtual 176, 3), (134, .aload_n 0, 1), (135, .bipush 59, 2), (137, .invokevirtual 59, 3), (140, .aload_n 0, 1), (141, .getfield 30, 3), (144, .invokevirtual 179, 3), (147, .return_, 1)])
set_option maxRecDepth 100000 in
theorem cok_Re_habitLine : CodeOK pRe_habitLine := by unfold CodeOK; decide +kernel
theorem ht_Re_habitLine : hTab pRe_habitLine = none := ht_of rfl nl_4
theorem pl_Re_habitLine : plainName (mY pRe_habitLine).cls = true := np_4
theorem pm_Re_habitLine : PlainM pRe_habitLine 0 := ⟨nm_4.1, nm_4.2, pd_2, by decide, gt3 239 rfl rfl, gt1 9 rfl rfl⟩
theorem im_Re_habitLine : Cond.instanceMethod (mY pRe_habitLine) ∈ GW := gt3 238 rfl rfl
theorem sl_Re_habitLine : Cond.selects (mY pRe_habitLine).cls (mY pRe_habitLine) (mY pRe_habitLine) ∈ GW := gtS 14 rfl rfl
def pRe_worthsLine : PM := (⟨RX4, "worthsLine", "()V"⟩, prog_6_method_8_code, 4, none, [(0, .bipush 99, 2), (2, .istore_n 1, 1), (3, .iconst 0, 1), (4, .istore_n 2, 1), (5, .iconst 1, 1), (6, .istore_n 3, 1), (7, .iload_n 3, 1), (8, .iconst 3, 1), (9, .if_icmp .gt 32, 3), (12, .aload_n 0, 1), (13, .iconst 0, 1), (14, .iload_n 1, 1), (15, .invokevirtual 52, 3), (18, .istore_n 1, 1), (19, .iload_n 2, 1), (20, .iload_n 1, 1), (21, .iadd, 1), (22, .istore_n 2, 1), (23, .aload_n 0, 1), (24, .getfield 30, 3), (27, .getfield 142, 3), (30, .iload_n 3, 1), (31, .iload_n 2, 1), (32, .invokestatic 146, 3), (35, .iinc 3 1, 3), (38, .goto (-31), 3), (41, .return_, 1)])
set_option maxRecDepth 100000 in
theorem cok_Re_worthsLine : CodeOK pRe_worthsLine := by unfold CodeOK; decide +kernel
theorem ht_Re_worthsLine : hTab pRe_worthsLine = none := ht_of rfl nl_4
theorem pl_Re_worthsLine : plainName (mY pRe_worthsLine).cls = true := np_4
theorem pm_Re_worthsLine : PlainM pRe_worthsLine 0 := ⟨nm_4.1, nm_4.2, pd_2, by decide, gt4 35 rfl rfl, gt1 9 rfl rfl⟩
theorem im_Re_worthsLine : Cond.instanceMethod (mY pRe_worthsLine) ∈ GW := gt4 34 rfl rfl
theorem sl_Re_worthsLine : Cond.selects (mY pRe_worthsLine).cls (mY pRe_worthsLine) (mY pRe_worthsLine) ∈ GW := gtS 21 rfl rfl
def pRe_plainLine : PM := (⟨RX4, "plainLine", "(I)V"⟩, prog_6_method_7_code, 2, none, [(0, .iload_n 1, 1), (1, .tableswitch 233 1 9 #[51, 68, 233, 105, 122, 139, 183, 199, 216], 51), (52, .aload_n 0, 1), (53, .getfield 30, 3), (56, .aload_n 0, 1), (57, .iconst 0, 1), (58, .bipush 120, 2), (60, .invokevirtual 52, 3), (63, .putfield 111, 3), (66, .goto 182, 3), (69, .aload_n 0, 1), (70, .getfield 30, 3), (73, .aload_n 0, 1), (74, .iconst 0, 1), (75, .bipush 12, 2), (77, .invokevirtual 52, 3), (80, .putfield 114, 3), (83, .aload_n 0, 1), (84, .bipush 13, 2), (86, .invokevirtual 48, 3), (89, .aload_n 0, 1), (90, .getfield 30, 3), (93, .aload_n 0, 1), (94, .iconst 0, 1), (95, .bipush 99, 2), (97, .invokevirtual 52, 3), (100, .putfield 117, 3), (103, .goto 145, 3), (106, .aload_n 0, 1), (107, .getfield 30, 3), (110, .aload_n 0, 1), (111, .iconst 0, 1), (112, .bipush 99, 2), (114, .invokevirtual 52, 3), (117, .putfield 120, 3), (120, .goto 128, 3), (123, .aload_n 0, 1), (124, .getfield 30, 3), (127, .aload_n 0, 1), (128, .iconst 0, 1), (129, .bipush 99, 2), (131, .invokevirtual 52, 3), (134, .putfield 123, 3), (137, .goto 111, 3), (140, .aload_n 0, 1), (141, .getfield 30, 3), (144, .aload_n 0, 1), (145, .iconst 0, 1), (146, .bipush 99, 2), (148, .invokevirtual 52, 3), (151, .putfield 126, 3), (154, .aload_n 0, 1), (155, .bipush 14, 2), (157, .invokevirtual 48, 3), (160, .aload_n 0, 1), (161, .getfield 30, 3), (164, .aload_n 0, 1), (165, .iconst 0, 1), (166, .aload_n 0, 1), (167, .getfield 30, 3), (170, .getfield 56, 3), (173, .iconst 1, 1), (174, .isub, 1), (175, .invokevirtual 52, 3), (178, .putfield 129, 3), (181, .goto 67, 3), (184, .aload_n 0, 1), (185, .getfield 30, 3), (188, .aload_n 0, 1), (189, .iconst 1, 1), (190, .iconst 3, 1), (191, .invokevirtual 52, 3), (194, .putfield 132, 3), (197, .goto 51, 3), (200, .aload_n 0, 1), (201, .getfield 30, 3), (204, .aload_n 0, 1), (205, .iconst 0, 1), (206, .bipush 99, 2), (208, .invokevirtual 52, 3), (211, .putfield 133, 3), (214, .goto 34, 3), (217, .aload_n 0, 1), (218, .getfield 30, 3), (221, .aload_n 0, 1), (222, .iconst 0, 1), (223, .bipush 10, 2), (225, .invokevirtual 52, 3), (228, .putfield 136, 3), (231, .goto 17, 3), (234, .aload_n 0, 1), (235, .getfield 30, 3), (238, .aload_n 0, 1), (239, .iconst 0, 1), (240, .bipush 10, 2), (242, .invokevirtual 52, 3), (245, .putfield 139, 3), (248, .return_, 1)])
set_option maxRecDepth 100000 in
theorem cok_Re_plainLine : CodeOK pRe_plainLine := by unfold CodeOK; decide +kernel
theorem ht_Re_plainLine : hTab pRe_plainLine = none := ht_of rfl nl_4
theorem pl_Re_plainLine : plainName (mY pRe_plainLine).cls = true := np_4
theorem pm_Re_plainLine : PlainM pRe_plainLine 1 := ⟨nm_4.1, nm_4.2, pd_6, by decide, gt4 39 rfl rfl, gt1 9 rfl rfl⟩
theorem im_Re_plainLine : Cond.instanceMethod (mY pRe_plainLine) ∈ GW := gt4 38 rfl rfl
theorem sl_Re_plainLine : Cond.selects (mY pRe_plainLine).cls (mY pRe_plainLine) (mY pRe_plainLine) ∈ GW := gtS 22 rfl rfl
def pRe_houseLine : PM := (⟨RX4, "houseLine", "()V"⟩, prog_6_method_6_code, 2, none, [(0, .aload_n 0, 1), (1, .getfield 26, 3), (4, .getfield 83, 3), (7, .iconst 2, 1), (8, .if_icmp .ne 13, 3), (11, .aload_n 0, 1), (12, .getfield 26, 3), (15, .getfield 86, 3), (18, .goto 4, 3), (21, .iconst (-1), 1), (22, .istore_n 1, 1), (23, .iload_n 1, 1), (24, .bipush 11, 2), (26, .if_icmp .ne 10, 3), (29, .aload_n 0, 1), (30, .invokevirtual 99, 3), (33, .goto 98, 3), (36, .iload_n 1, 1), (37, .bipush 12, 2), (39, .if_icmp .ne 10, 3), (42, .aload_n 0, 1), (43, .invokevirtual 102, 3), (46, .goto 85, 3), (49, .iload_n 1, 1), (50, .iconst 1, 1), (51, .if_icmp .lt 12, 3), (54, .iload_n 1, 1), (55, .aload_n 0, 1), (56, .getfield 15, 3), (59, .arraylength, 1), (60, .if_icmp .lt 14, 3), (63, .aload_n 0, 1), (64, .getfield 26, 3), (67, .iconst 1, 1), (68, .invokevirtual 89, 3), (71, .goto 60, 3), (74, .aload_n 0, 1), (75, .getfield 15, 3), (78, .iload_n 1, 1), (79, .baload, 1), (80, .ifCond .eq 14, 3), (83, .aload_n 0, 1), (84, .getfield 26, 3), (87, .iconst 3, 1), (88, .invokevirtual 89, 3), (91, .goto 40, 3), (94, .aload_n 0, 1), (95, .getfield 15, 3), (98, .iload_n 1, 1), (99, .iconst 1, 1), (100, .bastore, 1), (101, .aload_n 0, 1), (102, .getfield 26, 3), (105, .invokevirtual 92, 3), (108, .iload_n 1, 1), (109, .iconst 3, 1), (110, .if_icmp .ne 10, 3), (113, .aload_n 0, 1), (114, .invokevirtual 105, 3), (117, .goto 8, 3), (120, .aload_n 0, 1), (121, .iload_n 1, 1), (122, .invokevirtual 108, 3), (125, .aload_n 0, 1), (126, .bipush 59, 2), (128, .invokevirtual 59, 3), (131, .return_, 1)])
set_option maxRecDepth 100000 in
theorem cok_Re_houseLine : CodeOK pRe_houseLine := by unfold CodeOK; decide +kernel
theorem ht_Re_houseLine : hTab pRe_houseLine = none := ht_of rfl nl_4
theorem pl_Re_houseLine : plainName (mY pRe_houseLine).cls = true := np_4
theorem pm_Re_houseLine : PlainM pRe_houseLine 0 := ⟨nm_4.1, nm_4.2, pd_2, by decide, gt3 222 rfl rfl, gt1 9 rfl rfl⟩
theorem im_Re_houseLine : Cond.instanceMethod (mY pRe_houseLine) ∈ GW := gt3 221 rfl rfl
theorem sl_Re_houseLine : Cond.selects (mY pRe_houseLine).cls (mY pRe_houseLine) (mY pRe_houseLine) ∈ GW := gtS 10 rfl rfl
def pRe_readHouse : PM := (⟨RX4, "readHouse", "()I"⟩, prog_6_method_2_code, 2, some .int, [(0, .aload_n 0, 1), (1, .getfield 30, 3), (4, .invokevirtual 38, 3), (7, .aload_n 0, 1), (8, .iconst 0, 1), (9, .putfield 22, 3), (12, .iconst 0, 1), (13, .istore_n 1, 1), (14, .iload_n 1, 1), (15, .aload_n 0, 1), (16, .getfield 15, 3), (19, .arraylength, 1), (20, .if_icmp .ge 16, 3), (23, .aload_n 0, 1), (24, .getfield 15, 3), (27, .iload_n 1, 1), (28, .iconst 0, 1), (29, .bastore, 1), (30, .iinc 1 1, 3), (33, .goto (-19), 3), (36, .iconst 0, 1), (37, .istore_n 1, 1), (38, .iload_n 1, 1), (39, .aload_n 0, 1), (40, .getfield 19, 3), (43, .arraylength, 1), (44, .if_icmp .ge 16, 3), (47, .aload_n 0, 1), (48, .getfield 19, 3), (51, .iload_n 1, 1), (52, .iconst 0, 1), (53, .bastore, 1), (54, .iinc 1 1, 3), (57, .goto (-19), 3), (60, .aload_n 0, 1), (61, .getfield 26, 3), (64, .invokevirtual 43, 3), (67, .aload_n 0, 1), (68, .iconst 0, 1), (69, .invokevirtual 48, 3), (72, .aload_n 0, 1), (73, .getfield 30, 3), (76, .aload_n 0, 1), (77, .iconst 1, 1), (78, .bipush 24, 2), (80, .invokevirtual 52, 3), (83, .putfield 56, 3), (86, .aload_n 0, 1), (87, .bipush 59, 2), (89, .invokevirtual 59, 3), (92, .iconst 0, 1), (93, .istore_n 1, 1), (94, .iload_n 1, 1), (95, .sipush 1000, 3), (98, .if_icmp .gt 20, 3), (101, .aload_n 0, 1), (102, .invokevirtual 62, 3), (105, .ifCond .eq 13, 3), (108, .aload_n 0, 1), (109, .invokevirtual 66, 3), (112, .iinc 1 1, 3), (115, .goto (-21), 3), (118, .aload_n 0, 1), (119, .getfield 30, 3), (122, .invokevirtual 69, 3), (125, .aload_n 0, 1), (126, .getfield 26, 3), (129, .getfield 72, 3), (132, .ireturn, 1)])
set_option maxRecDepth 100000 in
theorem cok_Re_readHouse : CodeOK pRe_readHouse := by unfold CodeOK; decide +kernel
theorem ht_Re_readHouse : hTab pRe_readHouse = none := ht_of rfl nl_4
theorem pl_Re_readHouse : plainName (mY pRe_readHouse).cls = true := np_4
theorem pm_Re_readHouse : PlainM pRe_readHouse 0 := ⟨nm_4.1, nm_4.2, pd_1, by decide, gt3 98 rfl rfl, gt1 9 rfl rfl⟩
theorem im_Re_readHouse : Cond.instanceMethod (mY pRe_readHouse) ∈ GW := gt3 96 rfl rfl
theorem sl_Re_readHouse : Cond.selects (mY pRe_readHouse).cls (mY pRe_readHouse) (mY pRe_readHouse) ∈ GW := gt3 97 rfl rfl
def pLe_house : PM := (⟨RX10, "house", "()I"⟩, prog_1_method_3_code, 2, some .int, [(0, .aload_n 0, 1), (1, .getfield 41, 3), (4, .invokevirtual 123, 3), (7, .istore_n 1, 1), (8, .aload_n 0, 1), (9, .getfield 12, 3), (12, .iconst 0, 1), (13, .putfield 120, 3), (16, .iload_n 1, 1), (17, .ifCond .ne 7, 3), (20, .aload_n 0, 1), (21, .invokevirtual 113, 3), (24, .iload_n 1, 1), (25, .ireturn, 1)])
set_option maxRecDepth 100000 in
theorem cok_Le_house : CodeOK pLe_house := by unfold CodeOK; decide +kernel
theorem ht_Le_house : hTab pLe_house = none := ht_of rfl nl_10
theorem pl_Le_house : plainName (mY pLe_house).cls = true := np_10
theorem pm_Le_house : PlainM pLe_house 0 := ⟨nm_10.1, nm_10.2, pd_1, by decide, gt3 94 rfl rfl, gt1 1 rfl rfl⟩
theorem im_Le_house : Cond.instanceMethod (mY pLe_house) ∈ GW := gt3 92 rfl rfl
theorem sl_Le_house : Cond.selects (mY pLe_house).cls (mY pLe_house) (mY pLe_house) ∈ GW := gt3 93 rfl rfl
def pSc_add : PM := (⟨RX6, "add", "(II)V"⟩, prog_8_method_2_code, 3, none, [(0, .aload_n 0, 1), (1, .getfield 9, 3), (4, .aload_n 0, 1), (5, .getfield 18, 3), (8, .iload_n 1, 1), (9, .invokestatic 22, 3), (12, .aload_n 0, 1), (13, .getfield 15, 3), (16, .aload_n 0, 1), (17, .getfield 18, 3), (20, .iload_n 2, 1), (21, .invokestatic 22, 3), (24, .aload_n 0, 1), (25, .dup, 1), (26, .getfield 18, 3), (29, .iconst 1, 1), (30, .iadd, 1), (31, .putfield 18, 3), (34, .return_, 1)])
set_option maxRecDepth 100000 in
theorem cok_Sc_add : CodeOK pSc_add := by unfold CodeOK; decide +kernel
theorem ht_Sc_add : hTab pSc_add = none := ht_of rfl nl_6
theorem pl_Sc_add : plainName (mY pSc_add).cls = true := np_6
theorem pm_Sc_add : PlainM pSc_add 2 := ⟨nm_6.1, nm_6.2, pd_9, by decide, gt4 56 rfl rfl, gt1 8 rfl rfl⟩
theorem im_Sc_add : Cond.instanceMethod (mY pSc_add) ∈ GW := gt4 54 rfl rfl
theorem sl_Sc_add : Cond.selects (mY pSc_add).cls (mY pSc_add) (mY pSc_add) ∈ GW := gt4 55 rfl rfl
def pRe_eveningLine : PM := (⟨RX4, "eveningLine", "()V"⟩, prog_6_method_5_code, 3, none, [(0, .aload_n 0, 1), (1, .getfield 26, 3), (4, .getfield 83, 3), (7, .iconst 2, 1), (8, .if_icmp .ne 13, 3), (11, .aload_n 0, 1), (12, .getfield 26, 3), (15, .getfield 86, 3), (18, .goto 4, 3), (21, .iconst (-1), 1), (22, .istore_n 1, 1), (23, .iload_n 1, 1), (24, .bipush 16, 2), (26, .if_icmp .lt 9, 3), (29, .iload_n 1, 1), (30, .bipush 19, 2), (32, .if_icmp .le 14, 3), (35, .aload_n 0, 1), (36, .getfield 26, 3), (39, .iconst 1, 1), (40, .invokevirtual 89, 3), (43, .goto 71, 3), (46, .aload_n 0, 1), (47, .getfield 34, 3), (50, .getfield 75, 3), (53, .bipush 60, 2), (55, .if_icmp .lt 14, 3), (58, .aload_n 0, 1), (59, .getfield 26, 3), (62, .iconst 5, 1), (63, .invokevirtual 89, 3), (66, .goto 48, 3), (69, .aload_n 0, 1), (70, .getfield 26, 3), (73, .invokevirtual 92, 3), (76, .iload_n 1, 1), (77, .bipush 16, 2), (79, .if_icmp .eq 9, 3), (82, .iload_n 1, 1), (83, .bipush 17, 2), (85, .if_icmp .ne 12, 3), (88, .aload_n 0, 1), (89, .iconst 0, 1), (90, .iconst 4, 1), (91, .invokevirtual 52, 3), (94, .goto 4, 3), (97, .iconst 0, 1), (98, .istore_n 2, 1), (99, .aload_n 0, 1), (100, .bipush 59, 2), (102, .invokevirtual 59, 3), (105, .aload_n 0, 1), (106, .getfield 34, 3), (109, .iload_n 1, 1), (110, .iload_n 2, 1), (111, .invokevirtual 95, 3), (114, .return_, 1)])
set_option maxRecDepth 100000 in
theorem cok_Re_eveningLine : CodeOK pRe_eveningLine := by unfold CodeOK; decide +kernel
theorem ht_Re_eveningLine : hTab pRe_eveningLine = none := ht_of rfl nl_4
theorem pl_Re_eveningLine : plainName (mY pRe_eveningLine).cls = true := np_4
theorem pm_Re_eveningLine : PlainM pRe_eveningLine 0 := ⟨nm_4.1, nm_4.2, pd_2, by decide, gt4 52 rfl rfl, gt1 9 rfl rfl⟩
theorem im_Re_eveningLine : Cond.instanceMethod (mY pRe_eveningLine) ∈ GW := gt4 51 rfl rfl
theorem sl_Re_eveningLine : Cond.selects (mY pRe_eveningLine).cls (mY pRe_eveningLine) (mY pRe_eveningLine) ∈ GW := gtS 23 rfl rfl
def pRe_readEvening : PM := (⟨RX4, "readEvening", "()I"⟩, prog_6_method_3_code, 2, some .int, [(0, .aload_n 0, 1), (1, .getfield 34, 3), (4, .iconst 0, 1), (5, .putfield 75, 3), (8, .aload_n 0, 1), (9, .getfield 26, 3), (12, .invokevirtual 43, 3), (15, .iconst 0, 1), (16, .istore_n 1, 1), (17, .iload_n 1, 1), (18, .sipush 1000, 3), (21, .if_icmp .gt 20, 3), (24, .aload_n 0, 1), (25, .invokevirtual 62, 3), (28, .ifCond .eq 13, 3), (31, .aload_n 0, 1), (32, .invokevirtual 80, 3), (35, .iinc 1 1, 3), (38, .goto (-21), 3), (41, .aload_n 0, 1), (42, .getfield 26, 3), (45, .getfield 72, 3), (48, .ireturn, 1)])
set_option maxRecDepth 100000 in
theorem cok_Re_readEvening : CodeOK pRe_readEvening := by unfold CodeOK; decide +kernel
theorem ht_Re_readEvening : hTab pRe_readEvening = none := ht_of rfl nl_4
theorem pl_Re_readEvening : plainName (mY pRe_readEvening).cls = true := np_4
theorem pm_Re_readEvening : PlainM pRe_readEvening 0 := ⟨nm_4.1, nm_4.2, pd_1, by decide, gt4 48 rfl rfl, gt1 9 rfl rfl⟩
theorem im_Re_readEvening : Cond.instanceMethod (mY pRe_readEvening) ∈ GW := gt4 46 rfl rfl
theorem sl_Re_readEvening : Cond.selects (mY pRe_readEvening).cls (mY pRe_readEvening) (mY pRe_readEvening) ∈ GW := gt4 47 rfl rfl
def pSc_copy : PM := (⟨RX6, "copy", "(LLastsEvening$Script;)V"⟩, prog_8_method_3_code, 2, none, [(0, .aload_n 0, 1), (1, .aload_n 1, 1), (2, .getfield 18, 3), (5, .putfield 18, 3), (8, .aload_n 0, 1), (9, .getfield 9, 3), (12, .aload_n 1, 1), (13, .getfield 9, 3), (16, .aload_n 0, 1), (17, .getfield 18, 3), (20, .invokestatic 26, 3), (23, .aload_n 0, 1), (24, .getfield 15, 3), (27, .aload_n 1, 1), (28, .getfield 15, 3), (31, .aload_n 0, 1), (32, .getfield 18, 3), (35, .invokestatic 26, 3), (38, .return_, 1)])
set_option maxRecDepth 100000 in
theorem cok_Sc_copy : CodeOK pSc_copy := by unfold CodeOK; decide +kernel
theorem ht_Sc_copy : hTab pSc_copy = none := ht_of rfl nl_6
theorem pl_Sc_copy : plainName (mY pSc_copy).cls = true := np_6
theorem pm_Sc_copy : PlainM pSc_copy 1 := ⟨nm_6.1, nm_6.2, pd_41, by decide, gt4 61 rfl rfl, gt1 8 rfl rfl⟩
theorem im_Sc_copy : Cond.instanceMethod (mY pSc_copy) ∈ GW := gt4 59 rfl rfl
theorem sl_Sc_copy : Cond.selects (mY pSc_copy).cls (mY pSc_copy) (mY pSc_copy) ∈ GW := gt4 60 rfl rfl
def pLe_evening : PM := (⟨RX10, "evening", "()I"⟩, prog_1_method_4_code, 2, some .int, [(0, .aload_n 0, 1), (1, .getfield 41, 3), (4, .invokevirtual 127, 3), (7, .istore_n 1, 1), (8, .aload_n 0, 1), (9, .getfield 12, 3), (12, .iconst 0, 1), (13, .putfield 120, 3), (16, .iload_n 1, 1), (17, .ifCond .ne 14, 3), (20, .aload_n 0, 1), (21, .getfield 29, 3), (24, .aload_n 0, 1), (25, .getfield 33, 3), (28, .invokevirtual 130, 3), (31, .iload_n 1, 1), (32, .ireturn, 1)])
set_option maxRecDepth 100000 in
theorem cok_Le_evening : CodeOK pLe_evening := by unfold CodeOK; decide +kernel
theorem ht_Le_evening : hTab pLe_evening = none := ht_of rfl nl_10
theorem pl_Le_evening : plainName (mY pLe_evening).cls = true := np_10
theorem pm_Le_evening : PlainM pLe_evening 0 := ⟨nm_10.1, nm_10.2, pd_1, by decide, gt4 44 rfl rfl, gt1 1 rfl rfl⟩
theorem im_Le_evening : Cond.instanceMethod (mY pLe_evening) ∈ GW := gt4 42 rfl rfl
theorem sl_Le_evening : Cond.selects (mY pLe_evening).cls (mY pLe_evening) (mY pLe_evening) ∈ GW := gt4 43 rfl rfl
def pHo_chance : PM := (⟨RX0, "chance", "(ZII)I"⟩, prog_2_method_7_code, 4, some .int, [(0, .iload_n 1, 1), (1, .ifCond .eq 10, 3), (4, .aload_n 0, 1), (5, .getfield 61, 3), (8, .goto 7, 3), (11, .aload_n 0, 1), (12, .getfield 58, 3), (15, .iload_n 2, 1), (16, .iconst 4, 1), (17, .imul, 1), (18, .iload_n 3, 1), (19, .iadd, 1), (20, .invokestatic 80, 3), (23, .ireturn, 1)])
set_option maxRecDepth 100000 in
theorem cok_Ho_chance : CodeOK pHo_chance := by unfold CodeOK; decide +kernel
theorem ht_Ho_chance : hTab pHo_chance = none := ht_of rfl nl_0
theorem pl_Ho_chance : plainName (mY pHo_chance).cls = true := np_0
theorem pm_Ho_chance : PlainM pHo_chance 3 := ⟨nm_0.1, nm_0.2, pd_47, by decide, gt4 70 rfl rfl, gt1 7 rfl rfl⟩
theorem im_Ho_chance : Cond.instanceMethod (mY pHo_chance) ∈ GW := gt4 68 rfl rfl
theorem sl_Ho_chance : Cond.selects (mY pHo_chance).cls (mY pHo_chance) (mY pHo_chance) ∈ GW := gt4 69 rfl rfl
def pLe_calls : PM := (⟨RX10, "calls", "(II)I"⟩, prog_1_method_5_code, 3, some .int, [(0, .iload_n 1, 1), (1, .ifCond .lt 23, 3), (4, .iload_n 1, 1), (5, .aload_n 0, 1), (6, .getfield 19, 3), (9, .getfield 134, 3), (12, .if_icmp .ge 12, 3), (15, .iload_n 2, 1), (16, .ifCond .lt 8, 3), (19, .iload_n 2, 1), (20, .iconst 3, 1), (21, .if_icmp .le 5, 3), (24, .iconst (-1), 1), (25, .ireturn, 1), (26, .aload_n 0, 1), (27, .getfield 19, 3), (30, .iconst 0, 1), (31, .iload_n 1, 1), (32, .iload_n 2, 1), (33, .invokevirtual 137, 3), (36, .ireturn, 1)])
set_option maxRecDepth 100000 in
theorem cok_Le_calls : CodeOK pLe_calls := by unfold CodeOK; decide +kernel
theorem ht_Le_calls : hTab pLe_calls = none := ht_of rfl nl_10
theorem pl_Le_calls : plainName (mY pLe_calls).cls = true := np_10
theorem pm_Le_calls : PlainM pLe_calls 2 := ⟨nm_10.1, nm_10.2, pd_8, by decide, gt4 66 rfl rfl, gt1 1 rfl rfl⟩
theorem im_Le_calls : Cond.instanceMethod (mY pLe_calls) ∈ GW := gt4 64 rfl rfl
theorem sl_Le_calls : Cond.selects (mY pLe_calls).cls (mY pLe_calls) (mY pLe_calls) ∈ GW := gt4 65 rfl rfl
def pNi_isOver : PM := (⟨RX3, "isOver", "(LLastsEvening$House;)Z"⟩, prog_5_method_4_code, 2, some .boolean, [(0, .aload_n 0, 1), (1, .getfield 9, 3), (4, .aload_n 1, 1), (5, .getfield 65, 3), (8, .if_icmp .lt 7, 3), (11, .iconst 1, 1), (12, .goto 4, 3), (15, .iconst 0, 1), (16, .ireturn, 1)])
set_option maxRecDepth 100000 in
theorem cok_Ni_isOver : CodeOK pNi_isOver := by unfold CodeOK; decide +kernel
theorem ht_Ni_isOver : hTab pNi_isOver = none := ht_of rfl nl_3
theorem pl_Ni_isOver : plainName (mY pNi_isOver).cls = true := np_3
theorem pm_Ni_isOver : PlainM pNi_isOver 1 := ⟨nm_3.1, nm_3.2, pd_33, by decide, gt4 82 rfl rfl, gt1 10 rfl rfl⟩
theorem im_Ni_isOver : Cond.instanceMethod (mY pNi_isOver) ∈ GW := gt4 80 rfl rfl
theorem sl_Ni_isOver : Cond.selects (mY pNi_isOver).cls (mY pNi_isOver) (mY pNi_isOver) ∈ GW := gt4 81 rfl rfl
def pNi_canCome : PM := (⟨RX3, "canCome", "(LLastsEvening$House;I)Z"⟩, prog_5_method_5_code, 4, some .boolean, [(0, .aload_n 0, 1), (1, .getfield 49, 3), (4, .ifCond .eq 9, 3), (7, .iload_n 2, 1), (8, .iconst 1, 1), (9, .isub, 1), (10, .goto 4, 3), (13, .iload_n 2, 1), (14, .istore_n 3, 1), (15, .iload_n 3, 1), (16, .ifCond .lt 34, 3), (19, .iload_n 3, 1), (20, .iconst 3, 1), (21, .if_icmp .gt 29, 3), (24, .aload_n 0, 1), (25, .getfield 36, 3), (28, .ifCond .ne 22, 3), (31, .aload_n 0, 1), (32, .getfield 43, 3), (35, .ifCond .eq 15, 3), (38, .aload_n 0, 1), (39, .aload_n 1, 1), (40, .invokevirtual 68, 3), (43, .ifCond .ne 7, 3), (46, .iconst 1, 1), (47, .goto 4, 3), (50, .iconst 0, 1), (51, .ireturn, 1)])
set_option maxRecDepth 100000 in
theorem cok_Ni_canCome : CodeOK pNi_canCome := by unfold CodeOK; decide +kernel
theorem ht_Ni_canCome : hTab pNi_canCome = none := ht_of rfl nl_3
theorem pl_Ni_canCome : plainName (mY pNi_canCome).cls = true := np_3
theorem pm_Ni_canCome : PlainM pNi_canCome 2 := ⟨nm_3.1, nm_3.2, pd_36, by decide, gt4 78 rfl rfl, gt1 10 rfl rfl⟩
theorem im_Ni_canCome : Cond.instanceMethod (mY pNi_canCome) ∈ GW := gt4 76 rfl rfl
theorem sl_Ni_canCome : Cond.selects (mY pNi_canCome).cls (mY pNi_canCome) (mY pNi_canCome) ∈ GW := gt4 77 rfl rfl
def pLe_nightAt : PM := (⟨RX10, "nightAt", "([LLastsEvening$Night;I)LLastsEvening$Night;"⟩, prog_1_method_41_code, 2, some (.object "LastsEvening$Night"), [(0, .iload_n 1, 1), (1, .ifCond .lt 15, 3), (4, .iload_n 1, 1), (5, .aload_n 0, 1), (6, .arraylength, 1), (7, .if_icmp .ge 9, 3), (10, .aload_n 0, 1), (11, .iload_n 1, 1), (12, .aaload, 1), (13, .goto 4, 3), (16, .aconst_null, 1), (17, .areturn, 1)])
set_option maxRecDepth 100000 in
theorem cok_Le_nightAt : CodeOK pLe_nightAt := by unfold CodeOK; decide +kernel
theorem ht_Le_nightAt : hTab pLe_nightAt = none := ht_of rfl nl_10
theorem pl_Le_nightAt : plainName (mY pLe_nightAt).cls = true := np_10
theorem pm_Le_nightAt : PlainM pLe_nightAt 2 := ⟨nm_10.1, nm_10.2, pd_60, by decide, gt4 89 rfl rfl, gt1 1 rfl rfl⟩
theorem st_Le_nightAt : Cond.static (mY pLe_nightAt) ∈ GW := gt4 88 rfl rfl
def pNi_copy : PM := (⟨RX3, "copy", "(LLastsEvening$Night;)V"⟩, prog_5_method_3_code, 2, none, [(0, .aload_n 1, 1), (1, .ifnonnull 4, 3), (4, .return_, 1), (5, .aload_n 0, 1), (6, .aload_n 1, 1), (7, .getfield 9, 3), (10, .putfield 9, 3), (13, .aload_n 0, 1), (14, .aload_n 1, 1), (15, .getfield 15, 3), (18, .putfield 15, 3), (21, .aload_n 0, 1), (22, .aload_n 1, 1), (23, .getfield 18, 3), (26, .putfield 18, 3), (29, .aload_n 0, 1), (30, .aload_n 1, 1), (31, .getfield 21, 3), (34, .putfield 21, 3), (37, .aload_n 0, 1), (38, .aload_n 1, 1), (39, .getfield 24, 3), (42, .putfield 24, 3), (45, .aload_n 0, 1), (46, .aload_n 1, 1), (47, .getfield 27, 3), (50, .putfield 27, 3), (53, .aload_n 0, 1), (54, .aload_n 1, 1), (55, .getfield 30, 3), (58, .putfield 30, 3), (61, .aload_n 0, 1), (62, .aload_n 1, 1), (63, .getfield 33, 3), (66, .putfield 33, 3), (69, .aload_n 0, 1), (70, .aload_n 1, 1), (71, .getfield 36, 3), (74, .putfield 36, 3), (77, .aload_n 0, 1), (78, .aload_n 1, 1), (79, .getfield 40, 3), (82, .putfield 40, 3), (85, .aload_n 0, 1), (86, .aload_n 1, 1), (87, .getfield 43, 3), (90, .putfield 43, 3), (93, .aload_n 0, 1), (94, .aload_n 1, 1), (95, .getfield 46, 3), (98, .putfield 46, 3), (101, .aload_n 0, 1), (102, .aload_n 1, 1), (103, .getfield 49, 3), (106, .putfield 49, 3), (109, .aload_n 0, 1), (110, .aload_n 1, 1), (111, .getfield 52, 3), (114, .putfield 52, 3), (117, .return_, 1)])
set_option maxRecDepth 100000 in
theorem cok_Ni_copy : CodeOK pNi_copy := by unfold CodeOK; decide +kernel
theorem ht_Ni_copy : hTab pNi_copy = none := ht_of rfl nl_3
theorem pl_Ni_copy : plainName (mY pNi_copy).cls = true := np_3
theorem pm_Ni_copy : PlainM pNi_copy 1 := ⟨nm_3.1, nm_3.2, pd_40, by decide, gt4 93 rfl rfl, gt1 10 rfl rfl⟩
theorem im_Ni_copy : Cond.instanceMethod (mY pNi_copy) ∈ GW := gt4 91 rfl rfl
theorem sl_Ni_copy : Cond.selects (mY pNi_copy).cls (mY pNi_copy) (mY pNi_copy) ∈ GW := gt4 92 rfl rfl
def pLe_keepForUndo : PM := (⟨RX10, "keepForUndo", "()V"⟩, prog_1_method_36_code, 2, none, [(0, .aload_n 0, 1), (1, .getfield 55, 3), (4, .aload_n 0, 1), (5, .getfield 59, 3), (8, .invokestatic 179, 3), (11, .astore_n 1, 1), (12, .aload_n 1, 1), (13, .ifnull 11, 3), (16, .aload_n 1, 1), (17, .aload_n 0, 1), (18, .getfield 48, 3), (21, .invokevirtual 183, 3), (24, .aload_n 0, 1), (25, .aload_n 0, 1), (26, .getfield 59, 3), (29, .iconst 1, 1), (30, .iadd, 1), (31, .bipush 16, 2), (33, .irem, 1), (34, .putfield 59, 3), (37, .aload_n 0, 1), (38, .bipush 16, 2), (40, .aload_n 0, 1), (41, .getfield 63, 3), (44, .iconst 1, 1), (45, .iadd, 1), (46, .invokestatic 330, 3), (49, .putfield 63, 3), (52, .return_, 1)])
set_option maxRecDepth 100000 in
theorem cok_Le_keepForUndo : CodeOK pLe_keepForUndo := by unfold CodeOK; decide +kernel
theorem ht_Le_keepForUndo : hTab pLe_keepForUndo = none := ht_of rfl nl_10
theorem pl_Le_keepForUndo : plainName (mY pLe_keepForUndo).cls = true := np_10
theorem pm_Le_keepForUndo : PlainM pLe_keepForUndo 0 := ⟨nm_10.1, nm_10.2, pd_2, by decide, gt4 86 rfl rfl, gt1 1 rfl rfl⟩
theorem im_Le_keepForUndo : Cond.instanceMethod (mY pLe_keepForUndo) ∈ GW := gt4 85 rfl rfl
theorem sl_Le_keepForUndo : Cond.selects (mY pLe_keepForUndo).cls (mY pLe_keepForUndo) (mY pLe_keepForUndo) ∈ GW := gtS 24 rfl rfl
def pNi_arrive : PM := (⟨RX3, "arrive", "(LLastsEvening$House;I)V"⟩, prog_5_method_8_code, 6, none, [(0, .aload_n 0, 1), (1, .getfield 49, 3), (4, .ifCond .eq 9, 3), (7, .iload_n 2, 1), (8, .iconst 1, 1), (9, .isub, 1), (10, .goto 4, 3), (13, .iload_n 2, 1), (14, .istore_n 3, 1), (15, .aload_n 0, 1), (16, .getfield 24, 3), (19, .aload_n 1, 1), (20, .iconst 1, 1), (21, .aload_n 0, 1), (22, .getfield 9, 3), (25, .iload_n 3, 1), (26, .invokevirtual 95, 3), (29, .imul, 1), (30, .bipush 10, 2), (32, .idiv, 1), (33, .istore 4, 2), (35, .ldc 99, 2), (37, .aload_n 0, 1), (38, .getfield 24, 3), (41, .isub, 1), (42, .aload_n 1, 1), (43, .iconst 0, 1), (44, .aload_n 0, 1), (45, .getfield 9, 3), (48, .iload_n 3, 1), (49, .invokevirtual 95, 3), (52, .imul, 1), (53, .bipush 10, 2), (55, .idiv, 1), (56, .istore 5, 2), (58, .iload 4, 2), (60, .iload 5, 2), (62, .iadd, 1), (63, .ifCond .le 22, 3), (66, .aload_n 0, 1), (67, .iload 4, 2), (69, .i2l, 1), (70, .ldc2_w 100, 3), (73, .lmul, 1), (74, .iload 4, 2), (76, .iload 5, 2), (78, .iadd, 1), (79, .i2l, 1), (80, .ldiv, 1), (81, .l2i, 1), (82, .putfield 24, 3), (85, .aload_n 0, 1), (86, .iload_n 2, 1), (87, .putfield 21, 3), (90, .aload_n 0, 1), (91, .dup, 1), (92, .getfield 30, 3), (95, .iload_n 2, 1), (96, .iadd, 1), (97, .putfield 30, 3), (100, .aload_n 0, 1), (101, .iconst 1, 1), (102, .putfield 36, 3), (105, .return_, 1)])
set_option maxRecDepth 100000 in
theorem cok_Ni_arrive : CodeOK pNi_arrive := by unfold CodeOK; decide +kernel
theorem ht_Ni_arrive : hTab pNi_arrive = none := ht_of rfl nl_3
theorem pl_Ni_arrive : plainName (mY pNi_arrive).cls = true := np_3
theorem pm_Ni_arrive : PlainM pNi_arrive 2 := ⟨nm_3.1, nm_3.2, pd_35, by decide, gt4 98 rfl rfl, gt1 10 rfl rfl⟩
theorem im_Ni_arrive : Cond.instanceMethod (mY pNi_arrive) ∈ GW := gt4 96 rfl rfl
theorem sl_Ni_arrive : Cond.selects (mY pNi_arrive).cls (mY pNi_arrive) (mY pNi_arrive) ∈ GW := gt4 97 rfl rfl
def pLe_come : PM := (⟨RX10, "come", "(I)Z"⟩, prog_1_method_6_code, 2, some .boolean, [(0, .aload_n 0, 1), (1, .getfield 48, 3), (4, .aload_n 0, 1), (5, .getfield 19, 3), (8, .iload_n 1, 1), (9, .invokevirtual 141, 3), (12, .ifCond .ne 5, 3), (15, .iconst 0, 1), (16, .ireturn, 1), (17, .aload_n 0, 1), (18, .invokevirtual 145, 3), (21, .aload_n 0, 1), (22, .getfield 48, 3), (25, .aload_n 0, 1), (26, .getfield 19, 3), (29, .iload_n 1, 1), (30, .invokevirtual 148, 3), (33, .iconst 1, 1), (34, .ireturn, 1)])
set_option maxRecDepth 100000 in
theorem cok_Le_come : CodeOK pLe_come := by unfold CodeOK; decide +kernel
theorem ht_Le_come : hTab pLe_come = none := ht_of rfl nl_10
theorem pl_Le_come : plainName (mY pLe_come).cls = true := np_10
theorem pm_Le_come : PlainM pLe_come 1 := ⟨nm_10.1, nm_10.2, pd_7, by decide, gt4 74 rfl rfl, gt1 1 rfl rfl⟩
theorem im_Le_come : Cond.instanceMethod (mY pLe_come) ∈ GW := gt4 72 rfl rfl
theorem sl_Le_come : Cond.selects (mY pLe_come).cls (mY pLe_come) (mY pLe_come) ∈ GW := gt4 73 rfl rfl
def pNi_canBeGiven : PM := (⟨RX3, "canBeGiven", "()Z"⟩, prog_5_method_6_code, 1, some .boolean, [(0, .aload_n 0, 1), (1, .getfield 21, 3), (4, .ifCond .le 14, 3), (7, .aload_n 0, 1), (8, .getfield 40, 3), (11, .ifCond .ne 7, 3), (14, .iconst 1, 1), (15, .goto 4, 3), (18, .iconst 0, 1), (19, .ireturn, 1)])
set_option maxRecDepth 100000 in
theorem cok_Ni_canBeGiven : CodeOK pNi_canBeGiven := by unfold CodeOK; decide +kernel
theorem ht_Ni_canBeGiven : hTab pNi_canBeGiven = none := ht_of rfl nl_3
theorem pl_Ni_canBeGiven : plainName (mY pNi_canBeGiven).cls = true := np_3
theorem pm_Ni_canBeGiven : PlainM pNi_canBeGiven 0 := ⟨nm_3.1, nm_3.2, pd_3, by decide, gt4 114 rfl rfl, gt1 10 rfl rfl⟩
theorem im_Ni_canBeGiven : Cond.instanceMethod (mY pNi_canBeGiven) ∈ GW := gt4 112 rfl rfl
theorem sl_Ni_canBeGiven : Cond.selects (mY pNi_canBeGiven).cls (mY pNi_canBeGiven) (mY pNi_canBeGiven) ∈ GW := gt4 113 rfl rfl
def pHo_served : PM := (⟨RX0, "served", "(IIII)I"⟩, prog_2_method_13_code, 5, some .int, [(0, .iload 4, 2), (2, .iconst 4, 1), (3, .if_icmp .ne 9, 3), (6, .iload_n 2, 1), (7, .iload_n 3, 1), (8, .invokestatic 88, 3), (11, .ireturn, 1), (12, .iload 4, 2), (14, .ifCond .gt 7, 3), (17, .iconst 0, 1), (18, .goto 16, 3), (21, .iload_n 3, 1), (22, .iload_n 1, 1), (23, .iload 4, 2), (25, .iadd, 1), (26, .iconst 1, 1), (27, .isub, 1), (28, .iload 4, 2), (30, .idiv, 1), (31, .invokestatic 88, 3), (34, .ireturn, 1)])
set_option maxRecDepth 100000 in
theorem cok_Ho_served : CodeOK pHo_served := by unfold CodeOK; decide +kernel
theorem ht_Ho_served : hTab pHo_served = none := ht_of rfl nl_0
theorem pl_Ho_served : plainName (mY pHo_served).cls = true := np_0
theorem pm_Ho_served : PlainM pHo_served 4 := ⟨nm_0.1, nm_0.2, pd_14, by decide, gt4 126 rfl rfl, gt1 7 rfl rfl⟩
theorem im_Ho_served : Cond.instanceMethod (mY pHo_served) ∈ GW := gt4 124 rfl rfl
theorem sl_Ho_served : Cond.selects (mY pHo_served).cls (mY pHo_served) (mY pHo_served) ∈ GW := gt4 125 rfl rfl
def pHo_worthOf : PM := (⟨RX0, "worthOf", "(IIIII)I"⟩, prog_2_method_14_code, 10, some .int, [(0, .aload_n 0, 1), (1, .iload_n 2, 1), (2, .iload_n 3, 1), (3, .iload 4, 2), (5, .iload 5, 2), (7, .invokevirtual 94, 3), (10, .istore 6, 2), (12, .iload 4, 2), (14, .iload 6, 2), (16, .isub, 1), (17, .iload_n 1, 1), (18, .aload_n 0, 1), (19, .getfield 33, 3), (22, .if_icmp .lt 10, 3), (25, .aload_n 0, 1), (26, .getfield 30, 3), (29, .goto 7, 3), (32, .aload_n 0, 1), (33, .getfield 27, 3), (36, .imul, 1), (37, .istore 7, 2), (39, .iload 5, 2), (41, .iconst 4, 1), (42, .if_icmp .ne 14, 3), (45, .iload 6, 2), (47, .aload_n 0, 1), (48, .getfield 21, 3), (51, .imul, 1), (52, .iload 7, 2), (54, .isub, 1), (55, .ireturn, 1), (56, .iload_n 2, 1), (57, .iload 4, 2), (59, .iload 5, 2), (61, .imul, 1), (62, .invokestatic 88, 3), (65, .istore 8, 2), (67, .iload 5, 2), (69, .ifCond .le 11, 3), (72, .iload 8, 2), (74, .iload 5, 2), (76, .idiv, 1), (77, .goto 4, 3), (80, .iconst 0, 1), (81, .istore 9, 2), (83, .iload 9, 2), (85, .aload_n 0, 1), (86, .getfield 54, 3), (89, .iload 5, 2), (91, .invokestatic 80, 3), (94, .imul, 1), (95, .aload_n 0, 1), (96, .getfield 54, 3), (99, .iload 8, 2), (101, .iload 9, 2), (103, .iload 5, 2), (105, .imul, 1), (106, .isub, 1), (107, .invokestatic 80, 3), (110, .iadd, 1), (111, .iload 7, 2), (113, .isub, 1), (114, .ireturn, 1)])
set_option maxRecDepth 100000 in
theorem cok_Ho_worthOf : CodeOK pHo_worthOf := by unfold CodeOK; decide +kernel
theorem ht_Ho_worthOf : hTab pHo_worthOf = none := ht_of rfl nl_0
theorem pl_Ho_worthOf : plainName (mY pHo_worthOf).cls = true := np_0
theorem pm_Ho_worthOf : PlainM pHo_worthOf 5 := ⟨nm_0.1, nm_0.2, pd_15, by decide, gt4 122 rfl rfl, gt1 7 rfl rfl⟩
theorem im_Ho_worthOf : Cond.instanceMethod (mY pHo_worthOf) ∈ GW := gt4 120 rfl rfl
theorem sl_Ho_worthOf : Cond.selects (mY pHo_worthOf).cls (mY pHo_worthOf) (mY pHo_worthOf) ∈ GW := gt4 121 rfl rfl
def pHo_toffeesTaken : PM := (⟨RX0, "toffeesTaken", "(III)I"⟩, prog_2_method_11_code, 4, some .int, [(0, .iload_n 3, 1), (1, .iconst 4, 1), (2, .if_icmp .ne 7, 3), (5, .iconst 0, 1), (6, .goto 10, 3), (9, .iload_n 1, 1), (10, .iload_n 2, 1), (11, .iload_n 3, 1), (12, .imul, 1), (13, .invokestatic 88, 3), (16, .ireturn, 1)])
set_option maxRecDepth 100000 in
theorem cok_Ho_toffeesTaken : CodeOK pHo_toffeesTaken := by unfold CodeOK; decide +kernel
theorem ht_Ho_toffeesTaken : hTab pHo_toffeesTaken = none := ht_of rfl nl_0
theorem pl_Ho_toffeesTaken : plainName (mY pHo_toffeesTaken).cls = true := np_0
theorem pm_Ho_toffeesTaken : PlainM pHo_toffeesTaken 3 := ⟨nm_0.1, nm_0.2, pd_11, by decide, gt4 132 rfl rfl, gt1 7 rfl rfl⟩
theorem im_Ho_toffeesTaken : Cond.instanceMethod (mY pHo_toffeesTaken) ∈ GW := gt4 130 rfl rfl
theorem sl_Ho_toffeesTaken : Cond.selects (mY pHo_toffeesTaken).cls (mY pHo_toffeesTaken) (mY pHo_toffeesTaken) ∈ GW := gt4 131 rfl rfl
def pHo_applesTaken : PM := (⟨RX0, "applesTaken", "(III)I"⟩, prog_2_method_12_code, 4, some .int, [(0, .iload_n 3, 1), (1, .iconst 4, 1), (2, .if_icmp .ne 11, 3), (5, .iload_n 1, 1), (6, .iload_n 2, 1), (7, .invokestatic 88, 3), (10, .goto 4, 3), (13, .iconst 0, 1), (14, .ireturn, 1)])
set_option maxRecDepth 100000 in
theorem cok_Ho_applesTaken : CodeOK pHo_applesTaken := by unfold CodeOK; decide +kernel
theorem ht_Ho_applesTaken : hTab pHo_applesTaken = none := ht_of rfl nl_0
theorem pl_Ho_applesTaken : plainName (mY pHo_applesTaken).cls = true := np_0
theorem pm_Ho_applesTaken : PlainM pHo_applesTaken 3 := ⟨nm_0.1, nm_0.2, pd_11, by decide, gt4 136 rfl rfl, gt1 7 rfl rfl⟩
theorem im_Ho_applesTaken : Cond.instanceMethod (mY pHo_applesTaken) ∈ GW := gt4 134 rfl rfl
theorem sl_Ho_applesTaken : Cond.selects (mY pHo_applesTaken).cls (mY pHo_applesTaken) (mY pHo_applesTaken) ∈ GW := gt4 135 rfl rfl
def pHo_spreads : PM := (⟨RX0, "spreads", "(II)Z"⟩, prog_2_method_15_code, 3, some .boolean, [(0, .aload_n 0, 1), (1, .getfield 36, 3), (4, .ifCond .le 24, 3), (7, .iload_n 1, 1), (8, .ifCond .le 20, 3), (11, .iload_n 2, 1), (12, .aload_n 0, 1), (13, .getfield 36, 3), (16, .if_icmp .lt 12, 3), (19, .iload_n 2, 1), (20, .iconst 4, 1), (21, .if_icmp .ge 7, 3), (24, .iconst 1, 1), (25, .goto 4, 3), (28, .iconst 0, 1), (29, .ireturn, 1)])
set_option maxRecDepth 100000 in
theorem cok_Ho_spreads : CodeOK pHo_spreads := by unfold CodeOK; decide +kernel
theorem ht_Ho_spreads : hTab pHo_spreads = none := ht_of rfl nl_0
theorem pl_Ho_spreads : plainName (mY pHo_spreads).cls = true := np_0
theorem pm_Ho_spreads : PlainM pHo_spreads 2 := ⟨nm_0.1, nm_0.2, pd_10, by decide, gt4 140 rfl rfl, gt1 7 rfl rfl⟩
theorem im_Ho_spreads : Cond.instanceMethod (mY pHo_spreads) ∈ GW := gt4 138 rfl rfl
theorem sl_Ho_spreads : Cond.selects (mY pHo_spreads).cls (mY pHo_spreads) (mY pHo_spreads) ∈ GW := gt4 139 rfl rfl
def pNi_hand : PM := (⟨RX3, "hand", "(LLastsEvening$House;I)I"⟩, prog_5_method_9_code, 4, some .int, [(0, .aload_n 1, 1), (1, .aload_n 0, 1), (2, .getfield 9, 3), (5, .aload_n 0, 1), (6, .getfield 15, 3), (9, .aload_n 0, 1), (10, .getfield 18, 3), (13, .aload_n 0, 1), (14, .getfield 21, 3), (17, .iload_n 2, 1), (18, .invokevirtual 102, 3), (21, .istore_n 3, 1), (22, .aload_n 0, 1), (23, .dup, 1), (24, .getfield 33, 3), (27, .aload_n 0, 1), (28, .getfield 21, 3), (31, .aload_n 1, 1), (32, .aload_n 0, 1), (33, .getfield 15, 3), (36, .aload_n 0, 1), (37, .getfield 18, 3), (40, .aload_n 0, 1), (41, .getfield 21, 3), (44, .iload_n 2, 1), (45, .invokevirtual 106, 3), (48, .isub, 1), (49, .iadd, 1), (50, .putfield 33, 3), (53, .aload_n 0, 1), (54, .dup, 1), (55, .getfield 15, 3), (58, .aload_n 1, 1), (59, .aload_n 0, 1), (60, .getfield 15, 3), (63, .aload_n 0, 1), (64, .getfield 21, 3), (67, .iload_n 2, 1), (68, .invokevirtual 110, 3), (71, .isub, 1), (72, .putfield 15, 3), (75, .aload_n 0, 1), (76, .dup, 1), (77, .getfield 18, 3), (80, .aload_n 1, 1), (81, .aload_n 0, 1), (82, .getfield 18, 3), (85, .aload_n 0, 1), (86, .getfield 21, 3), (89, .iload_n 2, 1), (90, .invokevirtual 114, 3), (93, .isub, 1), (94, .putfield 18, 3), (97, .aload_n 0, 1), (98, .aload_n 1, 1), (99, .aload_n 0, 1), (100, .getfield 21, 3), (103, .iload_n 2, 1), (104, .invokevirtual 117, 3), (107, .putfield 52, 3), (110, .aload_n 0, 1), (111, .dup, 1), (112, .getfield 27, 3), (115, .iload_n 3, 1), (116, .iadd, 1), (117, .putfield 27, 3), (120, .aload_n 0, 1), (121, .iconst 1, 1), (122, .putfield 40, 3), (125, .iload_n 3, 1), (126, .ireturn, 1)])
set_option maxRecDepth 100000 in
theorem cok_Ni_hand : CodeOK pNi_hand := by unfold CodeOK; decide +kernel
theorem ht_Ni_hand : hTab pNi_hand = none := ht_of rfl nl_3
theorem pl_Ni_hand : plainName (mY pNi_hand).cls = true := np_3
theorem pm_Ni_hand : PlainM pNi_hand 2 := ⟨nm_3.1, nm_3.2, pd_34, by decide, gt4 118 rfl rfl, gt1 10 rfl rfl⟩
theorem im_Ni_hand : Cond.instanceMethod (mY pNi_hand) ∈ GW := gt4 116 rfl rfl
theorem sl_Ni_hand : Cond.selects (mY pNi_hand).cls (mY pNi_hand) (mY pNi_hand) ∈ GW := gt4 117 rfl rfl
def pNi_pass : PM := (⟨RX3, "pass", "(LLastsEvening$House;)V"⟩, prog_5_method_10_code, 2, none, [(0, .aload_n 0, 1), (1, .invokevirtual 80, 3), (4, .ifCond .eq 10, 3), (7, .aload_n 0, 1), (8, .aload_n 1, 1), (9, .iconst 0, 1), (10, .invokevirtual 84, 3), (13, .pop, 1), (14, .aload_n 0, 1), (15, .getfield 46, 3), (18, .ifCond .eq 16, 3), (21, .aload_n 0, 1), (22, .dup, 1), (23, .getfield 27, 3), (26, .aload_n 1, 1), (27, .getfield 121, 3), (30, .isub, 1), (31, .putfield 27, 3), (34, .aload_n 0, 1), (35, .dup, 1), (36, .getfield 9, 3), (39, .iconst 1, 1), (40, .iadd, 1), (41, .putfield 9, 3), (44, .aload_n 0, 1), (45, .iconst 0, 1), (46, .putfield 21, 3), (49, .aload_n 0, 1), (50, .iconst 0, 1), (51, .putfield 36, 3), (54, .aload_n 0, 1), (55, .iconst 0, 1), (56, .putfield 40, 3), (59, .aload_n 0, 1), (60, .aload_n 0, 1), (61, .getfield 43, 3), (64, .ifCond .ne 7, 3), (67, .iconst 1, 1), (68, .goto 4, 3), (71, .iconst 0, 1), (72, .putfield 46, 3), (75, .aload_n 0, 1), (76, .aload_n 0, 1), (77, .getfield 52, 3), (80, .putfield 49, 3), (83, .aload_n 0, 1), (84, .iconst 0, 1), (85, .putfield 52, 3), (88, .aload_n 0, 1), (89, .aload_n 1, 1), (90, .invokevirtual 68, 3), (93, .ifCond .eq 21, 3), (96, .aload_n 0, 1), (97, .dup, 1), (98, .getfield 27, 3), (101, .aload_n 1, 1), (102, .getfield 124, 3), (105, .aload_n 0, 1), (106, .getfield 15, 3), (109, .imul, 1), (110, .isub, 1), (111, .putfield 27, 3), (114, .return_, 1)])
set_option maxRecDepth 100000 in
theorem cok_Ni_pass : CodeOK pNi_pass := by unfold CodeOK; decide +kernel
theorem ht_Ni_pass : hTab pNi_pass = none := ht_of rfl nl_3
theorem pl_Ni_pass : plainName (mY pNi_pass).cls = true := np_3
theorem pm_Ni_pass : PlainM pNi_pass 1 := ⟨nm_3.1, nm_3.2, pd_32, by decide, gt4 110 rfl rfl, gt1 10 rfl rfl⟩
theorem im_Ni_pass : Cond.instanceMethod (mY pNi_pass) ∈ GW := gt4 108 rfl rfl
theorem sl_Ni_pass : Cond.selects (mY pNi_pass).cls (mY pNi_pass) (mY pNi_pass) ∈ GW := gt4 109 rfl rfl
def pLe_quarter : PM := (⟨RX10, "quarter", "()I"⟩, prog_1_method_8_code, 1, some .int, [(0, .aload_n 0, 1), (1, .getfield 48, 3), (4, .aload_n 0, 1), (5, .getfield 19, 3), (8, .invokevirtual 163, 3), (11, .ifCond .eq 5, 3), (14, .iconst (-1), 1), (15, .ireturn, 1), (16, .aload_n 0, 1), (17, .invokevirtual 145, 3), (20, .aload_n 0, 1), (21, .getfield 48, 3), (24, .aload_n 0, 1), (25, .getfield 19, 3), (28, .invokevirtual 167, 3), (31, .aload_n 0, 1), (32, .getfield 48, 3), (35, .getfield 170, 3), (38, .ireturn, 1)])
set_option maxRecDepth 100000 in
theorem cok_Le_quarter : CodeOK pLe_quarter := by unfold CodeOK; decide +kernel
theorem ht_Le_quarter : hTab pLe_quarter = none := ht_of rfl nl_10
theorem pl_Le_quarter : plainName (mY pLe_quarter).cls = true := np_10
theorem pm_Le_quarter : PlainM pLe_quarter 0 := ⟨nm_10.1, nm_10.2, pd_1, by decide, gt4 105 rfl rfl, gt1 1 rfl rfl⟩
theorem im_Le_quarter : Cond.instanceMethod (mY pLe_quarter) ∈ GW := gt4 103 rfl rfl
theorem sl_Le_quarter : Cond.selects (mY pLe_quarter).cls (mY pLe_quarter) (mY pLe_quarter) ∈ GW := gt4 104 rfl rfl
def pLe_isOpen : PM := (⟨RX10, "isOpen", "()Z"⟩, prog_1_method_37_code, 1, some .boolean, [(0, .aload_n 0, 1), (1, .getfield 48, 3), (4, .getfield 249, 3), (7, .ifCond .eq 21, 3), (10, .aload_n 0, 1), (11, .getfield 48, 3), (14, .aload_n 0, 1), (15, .getfield 19, 3), (18, .invokevirtual 163, 3), (21, .ifCond .ne 7, 3), (24, .iconst 1, 1), (25, .goto 4, 3), (28, .iconst 0, 1), (29, .ireturn, 1)])
set_option maxRecDepth 100000 in
theorem cok_Le_isOpen : CodeOK pLe_isOpen := by unfold CodeOK; decide +kernel
theorem ht_Le_isOpen : hTab pLe_isOpen = none := ht_of rfl nl_10
theorem pl_Le_isOpen : plainName (mY pLe_isOpen).cls = true := np_10
theorem pm_Le_isOpen : PlainM pLe_isOpen 0 := ⟨nm_10.1, nm_10.2, pd_3, by decide, gt4 148 rfl rfl, gt1 1 rfl rfl⟩
theorem im_Le_isOpen : Cond.instanceMethod (mY pLe_isOpen) ∈ GW := gt4 147 rfl rfl
theorem sl_Le_isOpen : Cond.selects (mY pLe_isOpen).cls (mY pLe_isOpen) (mY pLe_isOpen) ∈ GW := gtS 25 rfl rfl
def pNi_darken : PM := (⟨RX3, "darken", "()V"⟩, prog_5_method_11_code, 1, none, [(0, .aload_n 0, 1), (1, .iconst 0, 1), (2, .putfield 43, 3), (5, .aload_n 0, 1), (6, .aload_n 0, 1), (7, .getfield 36, 3), (10, .ifCond .ne 7, 3), (13, .iconst 1, 1), (14, .goto 4, 3), (17, .iconst 0, 1), (18, .putfield 46, 3), (21, .return_, 1)])
set_option maxRecDepth 100000 in
theorem cok_Ni_darken : CodeOK pNi_darken := by unfold CodeOK; decide +kernel
theorem ht_Ni_darken : hTab pNi_darken = none := ht_of rfl nl_3
theorem pl_Ni_darken : plainName (mY pNi_darken).cls = true := np_3
theorem pm_Ni_darken : PlainM pNi_darken 0 := ⟨nm_3.1, nm_3.2, pd_2, by decide, gt4 152 rfl rfl, gt1 10 rfl rfl⟩
theorem im_Ni_darken : Cond.instanceMethod (mY pNi_darken) ∈ GW := gt4 150 rfl rfl
theorem sl_Ni_darken : Cond.selects (mY pNi_darken).cls (mY pNi_darken) (mY pNi_darken) ∈ GW := gt4 151 rfl rfl
def pLe_off : PM := (⟨RX10, "off", "()Z"⟩, prog_1_method_9_code, 1, some .boolean, [(0, .aload_n 0, 1), (1, .invokevirtual 173, 3), (4, .ifCond .ne 5, 3), (7, .iconst 0, 1), (8, .ireturn, 1), (9, .aload_n 0, 1), (10, .invokevirtual 145, 3), (13, .aload_n 0, 1), (14, .getfield 48, 3), (17, .invokevirtual 176, 3), (20, .iconst 1, 1), (21, .ireturn, 1)])
set_option maxRecDepth 100000 in
theorem cok_Le_off : CodeOK pLe_off := by unfold CodeOK; decide +kernel
theorem ht_Le_off : hTab pLe_off = none := ht_of rfl nl_10
theorem pl_Le_off : plainName (mY pLe_off).cls = true := np_10
theorem pm_Le_off : PlainM pLe_off 0 := ⟨nm_10.1, nm_10.2, pd_3, by decide, gt4 144 rfl rfl, gt1 1 rfl rfl⟩
theorem im_Le_off : Cond.instanceMethod (mY pLe_off) ∈ GW := gt4 142 rfl rfl
theorem sl_Le_off : Cond.selects (mY pLe_off).cls (mY pLe_off) (mY pLe_off) ∈ GW := gt4 143 rfl rfl
def pLe_undo : PM := (⟨RX10, "undo", "()Z"⟩, prog_1_method_10_code, 1, some .boolean, [(0, .aload_n 0, 1), (1, .getfield 63, 3), (4, .ifCond .gt 5, 3), (7, .iconst 0, 1), (8, .ireturn, 1), (9, .aload_n 0, 1), (10, .aload_n 0, 1), (11, .getfield 59, 3), (14, .bipush 16, 2), (16, .iadd, 1), (17, .iconst 1, 1), (18, .isub, 1), (19, .bipush 16, 2), (21, .irem, 1), (22, .putfield 59, 3), (25, .aload_n 0, 1), (26, .dup, 1), (27, .getfield 63, 3), (30, .iconst 1, 1), (31, .isub, 1), (32, .putfield 63, 3), (35, .aload_n 0, 1), (36, .getfield 48, 3), (39, .aload_n 0, 1), (40, .getfield 55, 3), (43, .aload_n 0, 1), (44, .getfield 59, 3), (47, .invokestatic 179, 3), (50, .invokevirtual 183, 3), (53, .iconst 1, 1), (54, .ireturn, 1)])
set_option maxRecDepth 100000 in
theorem cok_Le_undo : CodeOK pLe_undo := by unfold CodeOK; decide +kernel
theorem ht_Le_undo : hTab pLe_undo = none := ht_of rfl nl_10
theorem pl_Le_undo : plainName (mY pLe_undo).cls = true := np_10
theorem pm_Le_undo : PlainM pLe_undo 0 := ⟨nm_10.1, nm_10.2, pd_3, by decide, gt4 156 rfl rfl, gt1 1 rfl rfl⟩
theorem im_Le_undo : Cond.instanceMethod (mY pLe_undo) ∈ GW := gt4 154 rfl rfl
theorem sl_Le_undo : Cond.selects (mY pLe_undo).cls (mY pLe_undo) (mY pLe_undo) ∈ GW := gt4 155 rfl rfl
def pHo_size : PM := (⟨RX0, "size", "()I"⟩, prog_2_method_8_code, 1, some .int, [(0, .aload_n 0, 1), (1, .getfield 9, 3), (4, .aload_n 0, 1), (5, .getfield 15, 3), (8, .iconst 1, 1), (9, .iadd, 1), (10, .imul, 1), (11, .aload_n 0, 1), (12, .getfield 18, 3), (15, .iconst 1, 1), (16, .iadd, 1), (17, .imul, 1), (18, .iconst 2, 1), (19, .imul, 1), (20, .ireturn, 1)])
set_option maxRecDepth 100000 in
theorem cok_Ho_size : CodeOK pHo_size := by unfold CodeOK; decide +kernel
theorem ht_Ho_size : hTab pHo_size = none := ht_of rfl nl_0
theorem pl_Ho_size : plainName (mY pHo_size).cls = true := np_0
theorem pm_Ho_size : PlainM pHo_size 0 := ⟨nm_0.1, nm_0.2, pd_1, by decide, gt4 172 rfl rfl, gt1 7 rfl rfl⟩
theorem im_Ho_size : Cond.instanceMethod (mY pHo_size) ∈ GW := gt4 170 rfl rfl
theorem sl_Ho_size : Cond.selects (mY pHo_size).cls (mY pHo_size) (mY pHo_size) ∈ GW := gt4 171 rfl rfl
def pLe_roomFor : PM := (⟨RX10, "roomFor", "([II)[I"⟩, prog_1_method_45_code, 3, some (.array .int), [(0, .iload_n 1, 1), (1, .aload_n 0, 1), (2, .arraylength, 1), (3, .if_icmp .gt 5, 3), (6, .aload_n 0, 1), (7, .areturn, 1), (8, .iload_n 1, 1), (9, .ldc_w 348, 3), (12, .if_icmp .gt 9, 3), (15, .iload_n 1, 1), (16, .iconst 2, 1), (17, .imul, 1), (18, .goto 10, 3), (21, .iload_n 1, 1), (22, .ldc_w 349, 3), (25, .invokestatic 302, 3), (28, .istore_n 2, 1), (29, .iload_n 2, 1), (30, .ifCond .lt 9, 3), (33, .iload_n 2, 1), (34, .newarray .int, 2), (36, .goto 4, 3), (39, .aload_n 0, 1), (40, .areturn, 1)])
set_option maxRecDepth 100000 in
theorem cok_Le_roomFor : CodeOK pLe_roomFor := by unfold CodeOK; decide +kernel
theorem ht_Le_roomFor : hTab pLe_roomFor = none := ht_of rfl nl_10
theorem pl_Le_roomFor : plainName (mY pLe_roomFor).cls = true := np_10
theorem pm_Le_roomFor : PlainM pLe_roomFor 2 := ⟨nm_10.1, nm_10.2, pd_56, by decide, gt4 175 rfl rfl, gt1 1 rfl rfl⟩
theorem st_Le_roomFor : Cond.static (mY pLe_roomFor) ∈ GW := gt4 174 rfl rfl
def pHo_offWorth : PM := (⟨RX0, "offWorth", "(II)I"⟩, prog_2_method_10_code, 3, some .int, [(0, .sipush (-1000), 3), (3, .aload_n 0, 1), (4, .getfield 39, 3), (7, .aload_n 0, 1), (8, .getfield 9, 3), (11, .iload_n 1, 1), (12, .isub, 1), (13, .imul, 1), (14, .aload_n 0, 1), (15, .getfield 24, 3), (18, .iload_n 2, 1), (19, .imul, 1), (20, .iadd, 1), (21, .imul, 1), (22, .ireturn, 1)])
set_option maxRecDepth 100000 in
theorem cok_Ho_offWorth : CodeOK pHo_offWorth := by unfold CodeOK; decide +kernel
theorem ht_Ho_offWorth : hTab pHo_offWorth = none := ht_of rfl nl_0
theorem pl_Ho_offWorth : plainName (mY pHo_offWorth).cls = true := np_0
theorem pm_Ho_offWorth : PlainM pHo_offWorth 2 := ⟨nm_0.1, nm_0.2, pd_8, by decide, gt4 182 rfl rfl, gt1 7 rfl rfl⟩
theorem im_Ho_offWorth : Cond.instanceMethod (mY pHo_offWorth) ∈ GW := gt4 180 rfl rfl
theorem sl_Ho_offWorth : Cond.selects (mY pHo_offWorth).cls (mY pHo_offWorth) (mY pHo_offWorth) ∈ GW := gt4 181 rfl rfl
def pHo_placeOf : PM := (⟨RX0, "placeOf", "(IIIZ)I"⟩, prog_2_method_9_code, 5, some .int, [(0, .iload_n 1, 1), (1, .aload_n 0, 1), (2, .getfield 15, 3), (5, .iconst 1, 1), (6, .iadd, 1), (7, .imul, 1), (8, .iload_n 2, 1), (9, .iadd, 1), (10, .aload_n 0, 1), (11, .getfield 18, 3), (14, .iconst 1, 1), (15, .iadd, 1), (16, .imul, 1), (17, .iload_n 3, 1), (18, .iadd, 1), (19, .iconst 2, 1), (20, .imul, 1), (21, .iload 4, 2), (23, .ifCond .eq 7, 3), (26, .iconst 1, 1), (27, .goto 4, 3), (30, .iconst 0, 1), (31, .iadd, 1), (32, .ireturn, 1)])
set_option maxRecDepth 100000 in
theorem cok_Ho_placeOf : CodeOK pHo_placeOf := by unfold CodeOK; decide +kernel
theorem ht_Ho_placeOf : hTab pHo_placeOf = none := ht_of rfl nl_0
theorem pl_Ho_placeOf : plainName (mY pHo_placeOf).cls = true := np_0
theorem pm_Ho_placeOf : PlainM pHo_placeOf 4 := ⟨nm_0.1, nm_0.2, pd_18, by decide, gt4 207 rfl rfl, gt1 7 rfl rfl⟩
theorem im_Ho_placeOf : Cond.instanceMethod (mY pHo_placeOf) ∈ GW := gt4 205 rfl rfl
theorem sl_Ho_placeOf : Cond.selects (mY pHo_placeOf).cls (mY pHo_placeOf) (mY pHo_placeOf) ∈ GW := gt4 206 rfl rfl
def pVa_cell : PM := (⟨RX9, "cell", "(IIIZ)I"⟩, prog_11_method_12_code, 5, some .int, [(0, .iload_n 1, 1), (1, .aload_n 0, 1), (2, .getfield 22, 3), (5, .getfield 33, 3), (8, .if_icmp .lt 19, 3), (11, .aload_n 0, 1), (12, .getfield 22, 3), (15, .aload_n 0, 1), (16, .getfield 22, 3), (19, .getfield 33, 3), (22, .iload_n 2, 1), (23, .invokevirtual 73, 3), (26, .ireturn, 1), (27, .aload_n 0, 1), (28, .getfield 15, 3), (31, .aload_n 0, 1), (32, .getfield 22, 3), (35, .iload_n 1, 1), (36, .iload_n 2, 1), (37, .iload_n 3, 1), (38, .iload 4, 2), (40, .invokevirtual 80, 3), (43, .invokestatic 96, 3), (46, .ireturn, 1)])
set_option maxRecDepth 100000 in
theorem cok_Va_cell : CodeOK pVa_cell := by unfold CodeOK; decide +kernel
theorem ht_Va_cell : hTab pVa_cell = none := ht_of rfl nl_9
theorem pl_Va_cell : plainName (mY pVa_cell).cls = true := np_9
theorem pm_Va_cell : PlainM pVa_cell 4 := ⟨nm_9.1, nm_9.2, pd_18, by decide, gt4 203 rfl rfl, gt1 11 rfl rfl⟩
theorem im_Va_cell : Cond.instanceMethod (mY pVa_cell) ∈ GW := gt4 202 rfl rfl
theorem sl_Va_cell : Cond.selects (mY pVa_cell).cls (mY pVa_cell) (mY pVa_cell) ∈ GW := gtS 30 rfl rfl
def pVa_giveWorth : PM := (⟨RX9, "giveWorth", "(IIIII)I"⟩, prog_11_method_11_code, 6, some .int, [(0, .sipush 1000, 3), (3, .aload_n 0, 1), (4, .getfield 22, 3), (7, .iload_n 1, 1), (8, .iload_n 2, 1), (9, .iload_n 3, 1), (10, .iload 4, 2), (12, .iload 5, 2), (14, .invokevirtual 100, 3), (17, .imul, 1), (18, .aload_n 0, 1), (19, .iload_n 1, 1), (20, .iconst 1, 1), (21, .iadd, 1), (22, .iload_n 2, 1), (23, .aload_n 0, 1), (24, .getfield 22, 3), (27, .iload_n 2, 1), (28, .iload 4, 2), (30, .iload 5, 2), (32, .invokevirtual 103, 3), (35, .isub, 1), (36, .iload_n 3, 1), (37, .aload_n 0, 1), (38, .getfield 22, 3), (41, .iload_n 3, 1), (42, .iload 4, 2), (44, .iload 5, 2), (46, .invokevirtual 107, 3), (49, .isub, 1), (50, .aload_n 0, 1), (51, .getfield 30, 3), (54, .ifCond .eq 21, 3), (57, .aload_n 0, 1), (58, .getfield 22, 3), (61, .iload 4, 2), (63, .iload 5, 2), (65, .invokevirtual 110, 3), (68, .ifCond .eq 7, 3), (71, .iconst 1, 1), (72, .goto 4, 3), (75, .iconst 0, 1), (76, .invokevirtual 42, 3), (79, .iadd, 1), (80, .ireturn, 1)])
set_option maxRecDepth 100000 in
theorem cok_Va_giveWorth : CodeOK pVa_giveWorth := by unfold CodeOK; decide +kernel
theorem ht_Va_giveWorth : hTab pVa_giveWorth = none := ht_of rfl nl_9
theorem pl_Va_giveWorth : plainName (mY pVa_giveWorth).cls = true := np_9
theorem pm_Va_giveWorth : PlainM pVa_giveWorth 5 := ⟨nm_9.1, nm_9.2, pd_15, by decide, gt4 195 rfl rfl, gt1 11 rfl rfl⟩
theorem im_Va_giveWorth : Cond.instanceMethod (mY pVa_giveWorth) ∈ GW := gt4 194 rfl rfl
theorem sl_Va_giveWorth : Cond.selects (mY pVa_giveWorth).cls (mY pVa_giveWorth) (mY pVa_giveWorth) ∈ GW := gtS 29 rfl rfl
def pVa_greatestOf : PM := (⟨RX9, "greatestOf", "(IIII)I"⟩, prog_11_method_10_code, 8, some .int, [(0, .aload_n 0, 1), (1, .iload_n 1, 1), (2, .iload_n 2, 1), (3, .iload_n 3, 1), (4, .iload 4, 2), (6, .iconst 0, 1), (7, .invokevirtual 58, 3), (10, .istore 5, 2), (12, .iload 4, 2), (14, .ifCond .ne 7, 3), (17, .iconst 0, 1), (18, .goto 12, 3), (21, .iload_n 3, 1), (22, .ifCond .le 7, 3), (25, .iconst 4, 1), (26, .goto 4, 3), (29, .iconst 3, 1), (30, .istore 6, 2), (32, .iconst 1, 1), (33, .istore 7, 2), (35, .iload 7, 2), (37, .iload 6, 2), (39, .if_icmp .gt 27, 3), (42, .iload 5, 2), (44, .aload_n 0, 1), (45, .iload_n 1, 1), (46, .iload_n 2, 1), (47, .iload_n 3, 1), (48, .iload 4, 2), (50, .iload 7, 2), (52, .invokevirtual 58, 3), (55, .invokestatic 83, 3), (58, .istore 5, 2), (60, .iinc 7 1, 3), (63, .goto (-28), 3), (66, .iload 5, 2), (68, .ireturn, 1)])
set_option maxRecDepth 100000 in
theorem cok_Va_greatestOf : CodeOK pVa_greatestOf := by unfold CodeOK; decide +kernel
theorem ht_Va_greatestOf : hTab pVa_greatestOf = none := ht_of rfl nl_9
theorem pl_Va_greatestOf : plainName (mY pVa_greatestOf).cls = true := np_9
theorem pm_Va_greatestOf : PlainM pVa_greatestOf 4 := ⟨nm_9.1, nm_9.2, pd_14, by decide, gt4 191 rfl rfl, gt1 11 rfl rfl⟩
theorem im_Va_greatestOf : Cond.instanceMethod (mY pVa_greatestOf) ∈ GW := gt4 190 rfl rfl
theorem sl_Va_greatestOf : Cond.selects (mY pVa_greatestOf).cls (mY pVa_greatestOf) (mY pVa_greatestOf) ∈ GW := gtS 28 rfl rfl
def pVa_weigh : PM := (⟨RX9, "weigh", "(III)V"⟩, prog_11_method_8_code, 6, none, [(0, .iconst 0, 1), (1, .istore 4, 2), (3, .iload 4, 2), (5, .iconst 4, 1), (6, .if_icmp .gt 90, 3), (9, .iload 4, 2), (11, .iconst 4, 1), (12, .if_icmp .ge 20, 3), (15, .aload_n 0, 1), (16, .getfield 22, 3), (19, .aload_n 0, 1), (20, .getfield 26, 3), (23, .iload_n 1, 1), (24, .iload 4, 2), (26, .invokevirtual 92, 3), (29, .ifCond .gt 27, 3), (32, .iload 4, 2), (34, .ifCond .le 26, 3), (37, .aload_n 0, 1), (38, .getfield 22, 3), (41, .aload_n 0, 1), (42, .getfield 26, 3), (45, .iload_n 1, 1), (46, .iload 4, 2), (48, .iconst 1, 1), (49, .isub, 1), (50, .invokevirtual 92, 3), (53, .ifCond .le 7, 3), (56, .iconst 1, 1), (57, .goto 4, 3), (60, .iconst 0, 1), (61, .istore 5, 2), (63, .aload_n 0, 1), (64, .getfield 9, 3), (67, .iload 4, 2), (69, .iload 5, 2), (71, .ifCond .eq 15, 3), (74, .aload_n 0, 1), (75, .iload_n 1, 1), (76, .iload_n 2, 1), (77, .iload_n 3, 1), (78, .iload 4, 2), (80, .invokevirtual 54, 3), (83, .goto 4, 3), (86, .iconst 0, 1), (87, .invokestatic 88, 3), (90, .iinc 4 1, 3), (93, .goto (-90), 3), (96, .return_, 1)])
set_option maxRecDepth 100000 in
theorem cok_Va_weigh : CodeOK pVa_weigh := by unfold CodeOK; decide +kernel
theorem ht_Va_weigh : hTab pVa_weigh = none := ht_of rfl nl_9
theorem pl_Va_weigh : plainName (mY pVa_weigh).cls = true := np_9
theorem pm_Va_weigh : PlainM pVa_weigh 3 := ⟨nm_9.1, nm_9.2, pd_12, by decide, gt4 186 rfl rfl, gt1 11 rfl rfl⟩
theorem im_Va_weigh : Cond.instanceMethod (mY pVa_weigh) ∈ GW := gt4 185 rfl rfl
theorem sl_Va_weigh : Cond.selects (mY pVa_weigh).cls (mY pVa_weigh) (mY pVa_weigh) ∈ GW := gtS 27 rfl rfl
def pVa_litMean : PM := (⟨RX9, "litMean", "(IZ)I"⟩, prog_11_method_9_code, 5, some .int, [(0, .iconst 0, 1), (1, .istore_n 3, 1), (2, .iconst 0, 1), (3, .istore 4, 2), (5, .iload 4, 2), (7, .iconst 3, 1), (8, .if_icmp .gt 47, 3), (11, .iload_n 3, 1), (12, .aload_n 0, 1), (13, .getfield 22, 3), (16, .aload_n 0, 1), (17, .getfield 26, 3), (20, .iload_n 1, 1), (21, .iload 4, 2), (23, .invokevirtual 92, 3), (26, .aload_n 0, 1), (27, .getfield 9, 3), (30, .iload_n 2, 1), (31, .ifCond .eq 10, 3), (34, .iload 4, 2), (36, .iconst 1, 1), (37, .iadd, 1), (38, .goto 5, 3), (41, .iload 4, 2), (43, .invokestatic 96, 3), (46, .imul, 1), (47, .iadd, 1), (48, .istore_n 3, 1), (49, .iinc 4 1, 3), (52, .goto (-47), 3), (55, .iload_n 3, 1), (56, .bipush 10, 2), (58, .idiv, 1), (59, .ireturn, 1)])
set_option maxRecDepth 100000 in
theorem cok_Va_litMean : CodeOK pVa_litMean := by unfold CodeOK; decide +kernel
theorem ht_Va_litMean : hTab pVa_litMean = none := ht_of rfl nl_9
theorem pl_Va_litMean : plainName (mY pVa_litMean).cls = true := np_9
theorem pm_Va_litMean : PlainM pVa_litMean 2 := ⟨nm_9.1, nm_9.2, pd_24, by decide, gt4 214 rfl rfl, gt1 11 rfl rfl⟩
theorem im_Va_litMean : Cond.instanceMethod (mY pVa_litMean) ∈ GW := gt4 213 rfl rfl
theorem sl_Va_litMean : Cond.selects (mY pVa_litMean).cls (mY pVa_litMean) (mY pVa_litMean) ∈ GW := gtS 31 rfl rfl
def pVa_fillTo : PM := (⟨RX9, "fillTo", "(I)V"⟩, prog_11_method_7_code, 7, none, [(0, .aload_n 0, 1), (1, .getfield 18, 3), (4, .aload_n 0, 1), (5, .getfield 22, 3), (8, .getfield 33, 3), (11, .if_icmp .lt 21, 3), (14, .aload_n 0, 1), (15, .aload_n 0, 1), (16, .getfield 15, 3), (19, .aload_n 0, 1), (20, .getfield 22, 3), (23, .invokevirtual 62, 3), (26, .invokestatic 66, 3), (29, .putfield 15, 3), (32, .aload_n 0, 1), (33, .getfield 18, 3), (36, .iconst 1, 1), (37, .isub, 1), (38, .istore_n 2, 1), (39, .iload_n 2, 1), (40, .iload_n 1, 1), (41, .if_icmp .lt 133, 3), (44, .iload_n 2, 1), (45, .ifCond .lt 129, 3), (48, .iconst 0, 1), (49, .istore_n 3, 1), (50, .iload_n 3, 1), (51, .aload_n 0, 1), (52, .getfield 22, 3), (55, .getfield 70, 3), (58, .if_icmp .gt 105, 3), (61, .aload_n 0, 1), (62, .getfield 22, 3), (65, .iload_n 2, 1), (66, .iload_n 3, 1), (67, .invokevirtual 73, 3), (70, .istore 4, 2), (72, .iconst 0, 1), (73, .istore 5, 2), (75, .iload 5, 2), (77, .aload_n 0, 1), (78, .getfield 22, 3), (81, .getfield 77, 3), (84, .if_icmp .gt 73, 3), (87, .aload_n 0, 1), (88, .iload_n 2, 1), (89, .iload_n 3, 1), (90, .iload 5, 2), (92, .invokevirtual 46, 3), (95, .aload_n 0, 1), (96, .getfield 22, 3), (99, .iload_n 2, 1), (100, .iload_n 3, 1), (101, .iload 5, 2), (103, .iconst 0, 1), (104, .invokevirtual 80, 3), (107, .istore 6, 2), (109, .aload_n 0, 1), (110, .getfield 15, 3), (113, .iload 6, 2), (115, .iload 4, 2), (117, .aload_n 0, 1), (118, .iload_n 2, 1), (119, .iconst 0, 1), (120, .invokevirtual 50, 3), (123, .invokestatic 83, 3), (126, .invokestatic 88, 3), (129, .aload_n 0, 1), (130, .getfield 15, 3), (133, .iload 6, 2), (135, .iconst 1, 1), (136, .iadd, 1), (137, .iload 4, 2), (139, .aload_n 0, 1), (140, .iload_n 2, 1), (141, .iconst 1, 1), (142, .invokevirtual 50, 3), (145, .invokestatic 83, 3), (148, .invokestatic 88, 3), (151, .iinc 5 1, 3), (154, .goto (-79), 3), (157, .iinc 3 1, 3), (160, .goto (-110), 3), (163, .aload_n 0, 1), (164, .iload_n 2, 1), (165, .putfield 18, 3), (168, .iinc 2 (-1), 3), (171, .goto (-132), 3), (174, .return_, 1)])
set_option maxRecDepth 100000 in
theorem cok_Va_fillTo : CodeOK pVa_fillTo := by unfold CodeOK; decide +kernel
theorem ht_Va_fillTo : hTab pVa_fillTo = none := ht_of rfl nl_9
theorem pl_Va_fillTo : plainName (mY pVa_fillTo).cls = true := np_9
theorem pm_Va_fillTo : PlainM pVa_fillTo 1 := ⟨nm_9.1, nm_9.2, pd_6, by decide, gt4 168 rfl rfl, gt1 11 rfl rfl⟩
theorem im_Va_fillTo : Cond.instanceMethod (mY pVa_fillTo) ∈ GW := gt4 167 rfl rfl
theorem sl_Va_fillTo : Cond.selects (mY pVa_fillTo).cls (mY pVa_fillTo) (mY pVa_fillTo) ∈ GW := gtS 26 rfl rfl
def pVa_bestGive : PM := (⟨RX9, "bestGive", "(IIII)I"⟩, prog_11_method_6_code, 9, some .int, [(0, .aload_n 0, 1), (1, .iload_n 1, 1), (2, .iconst 1, 1), (3, .iadd, 1), (4, .invokevirtual 38, 3), (7, .iconst 0, 1), (8, .istore 5, 2), (10, .aload_n 0, 1), (11, .iload_n 1, 1), (12, .iload_n 2, 1), (13, .iload_n 3, 1), (14, .iload 4, 2), (16, .iconst 0, 1), (17, .invokevirtual 58, 3), (20, .istore 6, 2), (22, .iconst 1, 1), (23, .istore 7, 2), (25, .iload 7, 2), (27, .iconst 4, 1), (28, .if_icmp .gt 37, 3), (31, .aload_n 0, 1), (32, .iload_n 1, 1), (33, .iload_n 2, 1), (34, .iload_n 3, 1), (35, .iload 4, 2), (37, .iload 7, 2), (39, .invokevirtual 58, 3), (42, .istore 8, 2), (44, .iload 8, 2), (46, .iload 6, 2), (48, .if_icmp .le 11, 3), (51, .iload 8, 2), (53, .istore 6, 2), (55, .iload 7, 2), (57, .istore 5, 2), (59, .iinc 7 1, 3), (62, .goto (-37), 3), (65, .iload 5, 2), (67, .ireturn, 1)])
set_option maxRecDepth 100000 in
theorem cok_Va_bestGive : CodeOK pVa_bestGive := by unfold CodeOK; decide +kernel
theorem ht_Va_bestGive : hTab pVa_bestGive = none := ht_of rfl nl_9
theorem pl_Va_bestGive : plainName (mY pVa_bestGive).cls = true := np_9
theorem pm_Va_bestGive : PlainM pVa_bestGive 4 := ⟨nm_9.1, nm_9.2, pd_14, by decide, gt4 164 rfl rfl, gt1 11 rfl rfl⟩
theorem im_Va_bestGive : Cond.instanceMethod (mY pVa_bestGive) ∈ GW := gt4 162 rfl rfl
theorem sl_Va_bestGive : Cond.selects (mY pVa_bestGive).cls (mY pVa_bestGive) (mY pVa_bestGive) ∈ GW := gt4 163 rfl rfl
def pLe_best : PM := (⟨RX10, "best", "(I)I"⟩, prog_1_method_13_code, 2, some .int, [(0, .iload_n 1, 1), (1, .iconst 1, 1), (2, .if_icmp .lt 15, 3), (5, .iload_n 1, 1), (6, .iconst 4, 1), (7, .if_icmp .gt 10, 3), (10, .aload_n 0, 1), (11, .invokevirtual 173, 3), (14, .ifCond .ne 5, 3), (17, .iconst (-1), 1), (18, .ireturn, 1), (19, .aload_n 0, 1), (20, .getfield 77, 3), (23, .aload_n 0, 1), (24, .getfield 48, 3), (27, .getfield 170, 3), (30, .aload_n 0, 1), (31, .getfield 48, 3), (34, .getfield 203, 3), (37, .aload_n 0, 1), (38, .getfield 48, 3), (41, .getfield 206, 3), (44, .iload_n 1, 1), (45, .invokevirtual 212, 3), (48, .ireturn, 1)])
set_option maxRecDepth 100000 in
theorem cok_Le_best : CodeOK pLe_best := by unfold CodeOK; decide +kernel
theorem ht_Le_best : hTab pLe_best = none := ht_of rfl nl_10
theorem pl_Le_best : plainName (mY pLe_best).cls = true := np_10
theorem pm_Le_best : PlainM pLe_best 1 := ⟨nm_10.1, nm_10.2, pd_5, by decide, gt4 160 rfl rfl, gt1 1 rfl rfl⟩
theorem im_Le_best : Cond.instanceMethod (mY pLe_best) ∈ GW := gt4 158 rfl rfl
theorem sl_Le_best : Cond.selects (mY pLe_best).cls (mY pLe_best) (mY pLe_best) ∈ GW := gt4 159 rfl rfl
def pVa_litWorth : PM := (⟨RX9, "litWorth", "(IIIZ)I"⟩, prog_11_method_4_code, 5, some .int, [(0, .aload_n 0, 1), (1, .iload_n 1, 1), (2, .iconst 1, 1), (3, .iadd, 1), (4, .invokevirtual 38, 3), (7, .aload_n 0, 1), (8, .iload_n 1, 1), (9, .iload_n 2, 1), (10, .iload_n 3, 1), (11, .invokevirtual 46, 3), (14, .aload_n 0, 1), (15, .iload_n 1, 1), (16, .iload 4, 2), (18, .invokevirtual 50, 3), (21, .ireturn, 1)])
set_option maxRecDepth 100000 in
theorem cok_Va_litWorth : CodeOK pVa_litWorth := by unfold CodeOK; decide +kernel
theorem ht_Va_litWorth : hTab pVa_litWorth = none := ht_of rfl nl_9
theorem pl_Va_litWorth : plainName (mY pVa_litWorth).cls = true := np_9
theorem pm_Va_litWorth : PlainM pVa_litWorth 4 := ⟨nm_9.1, nm_9.2, pd_18, by decide, gt4 222 rfl rfl, gt1 11 rfl rfl⟩
theorem im_Va_litWorth : Cond.instanceMethod (mY pVa_litWorth) ∈ GW := gt4 220 rfl rfl
theorem sl_Va_litWorth : Cond.selects (mY pVa_litWorth).cls (mY pVa_litWorth) (mY pVa_litWorth) ∈ GW := gt4 221 rfl rfl
def pLe_stay : PM := (⟨RX10, "stay", "()I"⟩, prog_1_method_15_code, 2, some .int, [(0, .aload_n 0, 1), (1, .invokevirtual 173, 3), (4, .ifCond .ne 5, 3), (7, .iconst (-1), 1), (8, .ireturn, 1), (9, .aload_n 0, 1), (10, .getfield 77, 3), (13, .aload_n 0, 1), (14, .getfield 48, 3), (17, .getfield 170, 3), (20, .aload_n 0, 1), (21, .getfield 48, 3), (24, .getfield 203, 3), (27, .aload_n 0, 1), (28, .getfield 48, 3), (31, .getfield 206, 3), (34, .aload_n 0, 1), (35, .getfield 48, 3), (38, .getfield 234, 3), (41, .invokevirtual 238, 3), (44, .istore_n 1, 1), (45, .iload_n 1, 1), (46, .aload_n 0, 1), (47, .getfield 19, 3), (50, .aload_n 0, 1), (51, .getfield 48, 3), (54, .getfield 170, 3), (57, .aload_n 0, 1), (58, .getfield 48, 3), (61, .getfield 203, 3), (64, .invokevirtual 241, 3), (67, .if_icmp .lt 7, 3), (70, .iconst 1, 1), (71, .goto 4, 3), (74, .iconst 0, 1), (75, .ireturn, 1)])
set_option maxRecDepth 100000 in
theorem cok_Le_stay : CodeOK pLe_stay := by unfold CodeOK; decide +kernel
theorem ht_Le_stay : hTab pLe_stay = none := ht_of rfl nl_10
theorem pl_Le_stay : plainName (mY pLe_stay).cls = true := np_10
theorem pm_Le_stay : PlainM pLe_stay 0 := ⟨nm_10.1, nm_10.2, pd_1, by decide, gt4 218 rfl rfl, gt1 1 rfl rfl⟩
theorem im_Le_stay : Cond.instanceMethod (mY pLe_stay) ∈ GW := gt4 216 rfl rfl
theorem sl_Le_stay : Cond.selects (mY pLe_stay).cls (mY pLe_stay) (mY pLe_stay) ∈ GW := gt4 217 rfl rfl
def pLe_hasHabit : PM := (⟨RX10, "hasHabit", "(I)Z"⟩, prog_1_method_38_code, 2, some .boolean, [(0, .iload_n 1, 1), (1, .ifCond .lt 18, 3), (4, .iload_n 1, 1), (5, .aload_n 0, 1), (6, .getfield 19, 3), (9, .getfield 267, 3), (12, .if_icmp .ge 7, 3), (15, .iconst 1, 1), (16, .goto 4, 3), (19, .iconst 0, 1), (20, .ireturn, 1)])
set_option maxRecDepth 100000 in
theorem cok_Le_hasHabit : CodeOK pLe_hasHabit := by unfold CodeOK; decide +kernel
theorem ht_Le_hasHabit : hTab pLe_hasHabit = none := ht_of rfl nl_10
theorem pl_Le_hasHabit : plainName (mY pLe_hasHabit).cls = true := np_10
theorem pm_Le_hasHabit : PlainM pLe_hasHabit 1 := ⟨nm_10.1, nm_10.2, pd_7, by decide, gt4 231 rfl rfl, gt1 1 rfl rfl⟩
theorem im_Le_hasHabit : Cond.instanceMethod (mY pLe_hasHabit) ∈ GW := gt4 230 rfl rfl
theorem sl_Le_hasHabit : Cond.selects (mY pLe_hasHabit).cls (mY pLe_hasHabit) (mY pLe_hasHabit) ∈ GW := gtS 32 rfl rfl
def pMe_fact : PM := (⟨RX2, "fact", "(IIIII)I"⟩, prog_4_method_5_code, 6, some .int, [(0, .bipush 22, 2), (2, .iload_n 1, 1), (3, .isub, 1), (4, .tableswitch 49 23 26 #[32, 34, 37, 39], 32), (36, .iload_n 3, 1), (37, .ireturn, 1), (38, .iload 4, 2), (40, .ireturn, 1), (41, .iload_n 2, 1), (42, .ireturn, 1), (43, .aload_n 0, 1), (44, .getfield 35, 3), (47, .getfield 43, 3), (50, .iload_n 2, 1), (51, .isub, 1), (52, .ireturn, 1), (53, .iload 5, 2), (55, .ireturn, 1)])
set_option maxRecDepth 100000 in
theorem cok_Me_fact : CodeOK pMe_fact := by unfold CodeOK; decide +kernel
theorem ht_Me_fact : hTab pMe_fact = none := ht_of rfl nl_2
theorem pl_Me_fact : plainName (mY pMe_fact).cls = true := np_2
theorem pm_Me_fact : PlainM pMe_fact 5 := ⟨nm_2.1, nm_2.2, pd_15, by decide, gt5 18 rfl rfl, gt1 12 rfl rfl⟩
theorem im_Me_fact : Cond.instanceMethod (mY pMe_fact) ∈ GW := gt5 17 rfl rfl
theorem sl_Me_fact : Cond.selects (mY pMe_fact).cls (mY pMe_fact) (mY pMe_fact) ∈ GW := gtS 35 rfl rfl
def pMe_joined : PM := (⟨RX2, "joined", "(III)I"⟩, prog_4_method_6_code, 3, some .int, [(0, .iload_n 0, 1), (1, .tableswitch 97 (-12) (-7) #[93, 89, 78, 67, 53, 39], 39), (40, .iload_n 1, 1), (41, .ifCond .eq 11, 3), (44, .iload_n 2, 1), (45, .ifCond .eq 7, 3), (48, .iconst 1, 1), (49, .goto 4, 3), (52, .iconst 0, 1), (53, .ireturn, 1), (54, .iload_n 1, 1), (55, .ifCond .ne 7, 3), (58, .iload_n 2, 1), (59, .ifCond .eq 7, 3), (62, .iconst 1, 1), (63, .goto 4, 3), (66, .iconst 0, 1), (67, .ireturn, 1), (68, .iload_n 1, 1), (69, .iload_n 2, 1), (70, .if_icmp .ge 7, 3), (73, .iconst 1, 1), (74, .goto 4, 3), (77, .iconst 0, 1), (78, .ireturn, 1), (79, .iload_n 1, 1), (80, .iload_n 2, 1), (81, .if_icmp .ne 7, 3), (84, .iconst 1, 1), (85, .goto 4, 3), (88, .iconst 0, 1), (89, .ireturn, 1), (90, .iload_n 1, 1), (91, .iload_n 2, 1), (92, .iadd, 1), (93, .ireturn, 1), (94, .iload_n 1, 1), (95, .iload_n 2, 1), (96, .isub, 1), (97, .ireturn, 1), (98, .iload_n 1, 1), (99, .iload_n 2, 1), (100, .imul, 1), (101, .ireturn, 1)])
set_option maxRecDepth 100000 in
theorem cok_Me_joined : CodeOK pMe_joined := by unfold CodeOK; decide +kernel
theorem ht_Me_joined : hTab pMe_joined = none := ht_of rfl nl_2
theorem pl_Me_joined : plainName (mY pMe_joined).cls = true := np_2
theorem pm_Me_joined : PlainM pMe_joined 3 := ⟨nm_2.1, nm_2.2, pd_11, by decide, gt5 21 rfl rfl, gt1 12 rfl rfl⟩
theorem st_Me_joined : Cond.static (mY pMe_joined) ∈ GW := gt5 20 rfl rfl
def pMe_giveOf : PM := (⟨RX2, "giveOf", "(IIIII)I"⟩, prog_4_method_4_code, 10, some .int, [(0, .iconst 0, 1), (1, .istore 6, 2), (3, .iload_n 1, 1), (4, .ifCond .ge 7, 3), (7, .iconst 0, 1), (8, .goto 14, 3), (11, .aload_n 0, 1), (12, .getfield 35, 3), (15, .getfield 48, 3), (18, .iload_n 1, 1), (19, .invokestatic 51, 3), (22, .istore 7, 2), (24, .iload_n 1, 1), (25, .ifCond .gt 7, 3), (28, .iconst 0, 1), (29, .goto 16, 3), (32, .aload_n 0, 1), (33, .getfield 35, 3), (36, .getfield 48, 3), (39, .iload_n 1, 1), (40, .iconst 1, 1), (41, .isub, 1), (42, .invokestatic 51, 3), (45, .istore 8, 2), (47, .iload 8, 2), (49, .iload 7, 2), (51, .if_icmp .ge 158, 3), (54, .aload_n 0, 1), (55, .getfield 35, 3), (58, .getfield 55, 3), (61, .iload 8, 2), (63, .invokestatic 51, 3), (66, .istore 9, 2), (68, .iload 9, 2), (70, .ifCond .lt 20, 3), (73, .aload_n 0, 1), (74, .getfield 9, 3), (77, .iload 6, 2), (79, .iload 9, 2), (81, .invokestatic 58, 3), (84, .iinc 6 1, 3), (87, .goto 116, 3), (90, .iload 9, 2), (92, .bipush (-6), 2), (94, .if_icmp .le 30, 3), (97, .aload_n 0, 1), (98, .getfield 9, 3), (101, .iload 6, 2), (103, .aload_n 0, 1), (104, .iload 9, 2), (106, .iload_n 2, 1), (107, .iload_n 3, 1), (108, .iload 4, 2), (110, .iload 5, 2), (112, .invokevirtual 62, 3), (115, .invokestatic 58, 3), (118, .iinc 6 1, 3), (121, .goto 82, 3), (124, .iload 9, 2), (126, .bipush (-6), 2), (128, .if_icmp .ne 36, 3), (131, .aload_n 0, 1), (132, .getfield 9, 3), (135, .iload 6, 2), (137, .iconst 1, 1), (138, .isub, 1), (139, .aload_n 0, 1), (140, .getfield 9, 3), (143, .iload 6, 2), (145, .iconst 1, 1), (146, .isub, 1), (147, .invokestatic 51, 3), (150, .ifCond .ne 7, 3), (153, .iconst 1, 1), (154, .goto 4, 3), (157, .iconst 0, 1), (158, .invokestatic 58, 3), (161, .goto 42, 3), (164, .iinc 6 (-1), 3), (167, .aload_n 0, 1), (168, .getfield 9, 3), (171, .iload 6, 2), (173, .iconst 1, 1), (174, .isub, 1), (175, .iload 9, 2), (177, .aload_n 0, 1), (178, .getfield 9, 3), (181, .iload 6, 2), (183, .iconst 1, 1), (184, .isub, 1), (185, .invokestatic 51, 3), (188, .aload_n 0, 1), (189, .getfield 9, 3), (192, .iload 6, 2), (194, .invokestatic 51, 3), (197, .invokestatic 66, 3), (200, .invokestatic 58, 3), (203, .iinc 8 1, 3), (206, .goto (-159), 3), (209, .iconst 0, 1), (210, .iconst 4, 1), (211, .aload_n 0, 1), (212, .getfield 9, 3), (215, .iconst 0, 1), (216, .invokestatic 51, 3), (219, .invokestatic 70, 3), (222, .invokestatic 76, 3), (225, .ireturn, 1)])
set_option maxRecDepth 100000 in
theorem cok_Me_giveOf : CodeOK pMe_giveOf := by unfold CodeOK; decide +kernel
theorem ht_Me_giveOf : hTab pMe_giveOf = none := ht_of rfl nl_2
theorem pl_Me_giveOf : plainName (mY pMe_giveOf).cls = true := np_2
theorem pm_Me_giveOf : PlainM pMe_giveOf 5 := ⟨nm_2.1, nm_2.2, pd_15, by decide, gt5 13 rfl rfl, gt1 12 rfl rfl⟩
theorem im_Me_giveOf : Cond.instanceMethod (mY pMe_giveOf) ∈ GW := gt5 11 rfl rfl
theorem sl_Me_giveOf : Cond.selects (mY pMe_giveOf).cls (mY pMe_giveOf) (mY pMe_giveOf) ∈ GW := gt5 12 rfl rfl
def pMe_from : PM := (⟨RX2, "from", "(IIIZ)I"⟩, prog_4_method_8_code, 12, some .int, [(0, .iload_n 1, 1), (1, .aload_n 0, 1), (2, .getfield 19, 3), (5, .if_icmp .lt 31, 3), (8, .aload_n 0, 1), (9, .getfield 22, 3), (12, .ifCond .eq 11, 3), (15, .sipush 1000, 3), (18, .iload_n 2, 1), (19, .imul, 1), (20, .goto 15, 3), (23, .aload_n 0, 1), (24, .getfield 35, 3), (27, .aload_n 0, 1), (28, .getfield 19, 3), (31, .iload_n 2, 1), (32, .invokevirtual 105, 3), (35, .ireturn, 1), (36, .aload_n 0, 1), (37, .getfield 35, 3), (40, .iload_n 1, 1), (41, .iload_n 2, 1), (42, .iload_n 3, 1), (43, .iload 4, 2), (45, .invokevirtual 108, 3), (48, .istore 5, 2), (50, .aload_n 0, 1), (51, .getfield 29, 3), (54, .iload 5, 2), (56, .invokestatic 51, 3), (59, .aload_n 0, 1), (60, .getfield 32, 3), (63, .if_icmp .ne 13, 3), (66, .aload_n 0, 1), (67, .getfield 26, 3), (70, .iload 5, 2), (72, .invokestatic 51, 3), (75, .ireturn, 1), (76, .iconst 0, 1), (77, .istore 6, 2), (79, .iconst 0, 1), (80, .istore 7, 2), (82, .iload 7, 2), (84, .iconst 3, 1), (85, .if_icmp .gt 155, 3), (88, .aload_n 0, 1), (89, .getfield 35, 3), (92, .iconst 0, 1), (93, .iload_n 1, 1), (94, .iload 7, 2), (96, .invokevirtual 111, 3), (99, .istore 8, 2), (101, .iload 8, 2), (103, .ifCond .le 131, 3), (106, .iload 4, 2), (108, .ifCond .eq 10, 3), (111, .iload 7, 2), (113, .iconst 1, 1), (114, .iadd, 1), (115, .goto 5, 3), (118, .iload 7, 2), (120, .istore 9, 2), (122, .iload 9, 2), (124, .ifCond .le 19, 3), (127, .aload_n 0, 1), (128, .aload_n 0, 1), (129, .getfield 15, 3), (132, .iload_n 1, 1), (133, .iload_n 2, 1), (134, .iload_n 3, 1), (135, .iload 9, 2), (137, .invokevirtual 115, 3), (140, .goto 4, 3), (143, .iconst 0, 1), (144, .istore 10, 2), (146, .aload_n 0, 1), (147, .getfield 22, 3), (150, .ifCond .eq 7, 3), (153, .iconst 0, 1), (154, .goto 21, 3), (157, .sipush 1000, 3), (160, .aload_n 0, 1), (161, .getfield 35, 3), (164, .iload_n 1, 1), (165, .iload_n 2, 1), (166, .iload_n 3, 1), (167, .iload 9, 2), (169, .iload 10, 2), (171, .invokevirtual 118, 3), (174, .imul, 1), (175, .istore 11, 2), (177, .iload 6, 2), (179, .iload 8, 2), (181, .iload 11, 2), (183, .aload_n 0, 1), (184, .iload_n 1, 1), (185, .iconst 1, 1), (186, .iadd, 1), (187, .iload_n 2, 1), (188, .aload_n 0, 1), (189, .getfield 35, 3), (192, .iload_n 2, 1), (193, .iload 9, 2), (195, .iload 10, 2), (197, .invokevirtual 121, 3), (200, .isub, 1), (201, .iload_n 3, 1), (202, .aload_n 0, 1), (203, .getfield 35, 3), (206, .iload_n 3, 1), (207, .iload 9, 2), (209, .iload 10, 2), (211, .invokevirtual 124, 3), (214, .isub, 1), (215, .aload_n 0, 1), (216, .getfield 35, 3), (219, .iload 9, 2), (221, .iload 10, 2), (223, .invokevirtual 127, 3), (226, .invokevirtual 101, 3), (229, .iadd, 1), (230, .imul, 1), (231, .iadd, 1), (232, .istore 6, 2), (234, .iinc 7 1, 3), (237, .goto (-155), 3), (240, .aload_n 0, 1), (241, .getfield 26, 3), (244, .iload 5, 2), (246, .iload 6, 2), (248, .bipush 10, 2), (250, .idiv, 1), (251, .invokestatic 58, 3), (254, .aload_n 0, 1), (255, .getfield 29, 3), (258, .iload 5, 2), (260, .aload_n 0, 1), (261, .getfield 32, 3), (264, .invokestatic 58, 3), (267, .iload 6, 2), (269, .bipush 10, 2), (271, .idiv, 1), (272, .ireturn, 1)])
set_option maxRecDepth 100000 in
theorem cok_Me_from : CodeOK pMe_from := by unfold CodeOK; decide +kernel
theorem ht_Me_from : hTab pMe_from = none := ht_of rfl nl_2
theorem pl_Me_from : plainName (mY pMe_from).cls = true := np_2
theorem pm_Me_from : PlainM pMe_from 4 := ⟨nm_2.1, nm_2.2, pd_18, by decide, gt5 5 rfl rfl, gt1 12 rfl rfl⟩
theorem im_Me_from : Cond.instanceMethod (mY pMe_from) ∈ GW := gt5 4 rfl rfl
theorem sl_Me_from : Cond.selects (mY pMe_from).cls (mY pMe_from) (mY pMe_from) ∈ GW := gtS 34 rfl rfl
def pMe_ask : PM := (⟨RX2, "ask", "(IILLastsEvening$Night;)I"⟩, prog_4_method_7_code, 4, some .int, [(0, .aload_n 0, 1), (1, .aload_n 0, 1), (2, .getfield 26, 3), (5, .aload_n 0, 1), (6, .getfield 35, 3), (9, .invokevirtual 79, 3), (12, .invokestatic 83, 3), (15, .putfield 26, 3), (18, .aload_n 0, 1), (19, .aload_n 0, 1), (20, .getfield 29, 3), (23, .aload_n 0, 1), (24, .getfield 35, 3), (27, .invokevirtual 79, 3), (30, .invokestatic 83, 3), (33, .putfield 29, 3), (36, .aload_n 0, 1), (37, .dup, 1), (38, .getfield 32, 3), (41, .iconst 1, 1), (42, .iadd, 1), (43, .putfield 32, 3), (46, .aload_n 0, 1), (47, .iload_n 1, 1), (48, .putfield 15, 3), (51, .aload_n 0, 1), (52, .iload_n 2, 1), (53, .putfield 19, 3), (56, .aload_n 0, 1), (57, .aload_n 3, 1), (58, .getfield 87, 3), (61, .aload_n 3, 1), (62, .getfield 92, 3), (65, .aload_n 3, 1), (66, .getfield 95, 3), (69, .aload_n 3, 1), (70, .getfield 98, 3), (73, .invokevirtual 101, 3), (76, .ireturn, 1)])
set_option maxRecDepth 100000 in
theorem cok_Me_ask : CodeOK pMe_ask := by unfold CodeOK; decide +kernel
theorem ht_Me_ask : hTab pMe_ask = none := ht_of rfl nl_2
theorem pl_Me_ask : plainName (mY pMe_ask).cls = true := np_2
theorem pm_Me_ask : PlainM pMe_ask 3 := ⟨nm_2.1, nm_2.2, pd_19, by decide, gt4 239 rfl rfl, gt1 12 rfl rfl⟩
theorem im_Me_ask : Cond.instanceMethod (mY pMe_ask) ∈ GW := gt4 238 rfl rfl
theorem sl_Me_ask : Cond.selects (mY pMe_ask).cls (mY pMe_ask) (mY pMe_ask) ∈ GW := gtS 33 rfl rfl
def pMe_worthOf : PM := (⟨RX2, "worthOf", "(IILLastsEvening$Night;)I"⟩, prog_4_method_2_code, 4, some .int, [(0, .aload_n 0, 1), (1, .iconst 0, 1), (2, .putfield 22, 3), (5, .aload_n 0, 1), (6, .iload_n 1, 1), (7, .iload_n 2, 1), (8, .aload_n 3, 1), (9, .invokevirtual 39, 3), (12, .ireturn, 1)])
set_option maxRecDepth 100000 in
theorem cok_Me_worthOf : CodeOK pMe_worthOf := by unfold CodeOK; decide +kernel
theorem ht_Me_worthOf : hTab pMe_worthOf = none := ht_of rfl nl_2
theorem pl_Me_worthOf : plainName (mY pMe_worthOf).cls = true := np_2
theorem pm_Me_worthOf : PlainM pMe_worthOf 3 := ⟨nm_2.1, nm_2.2, pd_19, by decide, gt4 235 rfl rfl, gt1 12 rfl rfl⟩
theorem im_Me_worthOf : Cond.instanceMethod (mY pMe_worthOf) ∈ GW := gt4 233 rfl rfl
theorem sl_Me_worthOf : Cond.selects (mY pMe_worthOf).cls (mY pMe_worthOf) (mY pMe_worthOf) ∈ GW := gt4 234 rfl rfl
def pLe_close : PM := (⟨RX10, "close", "(I)I"⟩, prog_1_method_18_code, 6, some .int, [(0, .aload_n 0, 1), (1, .iload_n 1, 1), (2, .invokevirtual 245, 3), (5, .ifCond .eq 13, 3), (8, .aload_n 0, 1), (9, .getfield 48, 3), (12, .getfield 249, 3), (15, .ifCond .ne 5, 3), (18, .iconst (-1), 1), (19, .ireturn, 1), (20, .aload_n 0, 1), (21, .getfield 48, 3), (24, .getfield 170, 3), (27, .istore_n 2, 1), (28, .aload_n 0, 1), (29, .getfield 92, 3), (32, .iload_n 1, 1), (33, .iload_n 2, 1), (34, .aload_n 0, 1), (35, .getfield 48, 3), (38, .invokevirtual 252, 3), (41, .istore_n 3, 1), (42, .aload_n 0, 1), (43, .getfield 48, 3), (46, .getfield 170, 3), (49, .iconst 1, 1), (50, .iadd, 1), (51, .istore 4, 2), (53, .iload 4, 2), (55, .aload_n 0, 1), (56, .getfield 19, 3), (59, .getfield 134, 3), (62, .if_icmp .gt 37, 3), (65, .aload_n 0, 1), (66, .getfield 92, 3), (69, .iload_n 1, 1), (70, .iload 4, 2), (72, .aload_n 0, 1), (73, .getfield 48, 3), (76, .invokevirtual 252, 3), (79, .istore 5, 2), (81, .iload 5, 2), (83, .iload_n 3, 1), (84, .if_icmp .le 9, 3), (87, .iload 5, 2), (89, .istore_n 3, 1), (90, .iload 4, 2), (92, .istore_n 2, 1), (93, .iinc 4 1, 3), (96, .goto (-43), 3), (99, .iload_n 2, 1), (100, .ireturn, 1)])
set_option maxRecDepth 100000 in
theorem cok_Le_close : CodeOK pLe_close := by unfold CodeOK; decide +kernel
theorem ht_Le_close : hTab pLe_close = none := ht_of rfl nl_10
theorem pl_Le_close : plainName (mY pLe_close).cls = true := np_10
theorem pm_Le_close : PlainM pLe_close 1 := ⟨nm_10.1, nm_10.2, pd_5, by decide, gt4 227 rfl rfl, gt1 1 rfl rfl⟩
theorem im_Le_close : Cond.instanceMethod (mY pLe_close) ∈ GW := gt4 225 rfl rfl
theorem sl_Le_close : Cond.selects (mY pLe_close).cls (mY pLe_close) (mY pLe_close) ∈ GW := gt4 226 rfl rfl
def pSh_swap : PM := (⟨RX7, "swap", "()V"⟩, prog_9_method_11_code, 2, none, [(0, .aload_n 0, 1), (1, .getfield 15, 3), (4, .astore_n 1, 1), (5, .aload_n 0, 1), (6, .aload_n 0, 1), (7, .getfield 18, 3), (10, .putfield 15, 3), (13, .aload_n 0, 1), (14, .aload_n 1, 1), (15, .putfield 18, 3), (18, .return_, 1)])
set_option maxRecDepth 100000 in
theorem cok_Sh_swap : CodeOK pSh_swap := by unfold CodeOK; decide +kernel
theorem ht_Sh_swap : hTab pSh_swap = none := ht_of rfl nl_7
theorem pl_Sh_swap : plainName (mY pSh_swap).cls = true := np_7
theorem pm_Sh_swap : PlainM pSh_swap 0 := ⟨nm_7.1, nm_7.2, pd_2, by decide, gt5 44 rfl rfl, gt1 14 rfl rfl⟩
theorem im_Sh_swap : Cond.instanceMethod (mY pSh_swap) ∈ GW := gt5 43 rfl rfl
theorem sl_Sh_swap : Cond.selects (mY pSh_swap).cls (mY pSh_swap) (mY pSh_swap) ∈ GW := gtS 37 rfl rfl
def pSh_sureMean : PM := (⟨RX7, "sureMean", "(IIII)I"⟩, prog_9_method_6_code, 9, some .int, [(0, .iconst 0, 1), (1, .istore 5, 2), (3, .iconst 0, 1), (4, .istore 6, 2), (6, .iload 6, 2), (8, .iconst 3, 1), (9, .if_icmp .gt 90, 3), (12, .iload 6, 2), (14, .iload 4, 2), (16, .iadd, 1), (17, .istore 7, 2), (19, .iload 7, 2), (21, .ifCond .eq 13, 3), (24, .iload_n 3, 1), (25, .iload_n 2, 1), (26, .iload 7, 2), (28, .iconst 1, 1), (29, .isub, 1), (30, .imul, 1), (31, .if_icmp .le 62, 3), (34, .iconst 0, 1), (35, .iload_n 3, 1), (36, .iload_n 2, 1), (37, .iload 7, 2), (39, .imul, 1), (40, .isub, 1), (41, .invokestatic 70, 3), (44, .istore 8, 2), (46, .iload 5, 2), (48, .aload_n 0, 1), (49, .getfield 21, 3), (52, .iconst 0, 1), (53, .iload_n 1, 1), (54, .iload 6, 2), (56, .invokevirtual 76, 3), (59, .aload_n 0, 1), (60, .getfield 18, 3), (63, .iload 8, 2), (65, .iconst 2, 1), (66, .imul, 1), (67, .aload_n 0, 1), (68, .getfield 21, 3), (71, .iload 7, 2), (73, .iload_n 2, 1), (74, .invokevirtual 80, 3), (77, .ifCond .eq 7, 3), (80, .iconst 1, 1), (81, .goto 4, 3), (84, .iconst 0, 1), (85, .iadd, 1), (86, .invokestatic 42, 3), (89, .imul, 1), (90, .iadd, 1), (91, .istore 5, 2), (93, .iinc 6 1, 3), (96, .goto (-90), 3), (99, .iload 5, 2), (101, .bipush 10, 2), (103, .idiv, 1), (104, .ireturn, 1)])
set_option maxRecDepth 100000 in
theorem cok_Sh_sureMean : CodeOK pSh_sureMean := by unfold CodeOK; decide +kernel
theorem ht_Sh_sureMean : hTab pSh_sureMean = none := ht_of rfl nl_7
theorem pl_Sh_sureMean : plainName (mY pSh_sureMean).cls = true := np_7
theorem pm_Sh_sureMean : PlainM pSh_sureMean 4 := ⟨nm_7.1, nm_7.2, pd_14, by decide, gt5 48 rfl rfl, gt1 14 rfl rfl⟩
theorem im_Sh_sureMean : Cond.instanceMethod (mY pSh_sureMean) ∈ GW := gt5 47 rfl rfl
theorem sl_Sh_sureMean : Cond.selects (mY pSh_sureMean).cls (mY pSh_sureMean) (mY pSh_sureMean) ∈ GW := gtS 38 rfl rfl
def pSh_goBack : PM := (⟨RX7, "goBack", "(II)V"⟩, prog_9_method_5_code, 5, none, [(0, .iconst 0, 1), (1, .istore_n 3, 1), (2, .iload_n 3, 1), (3, .aload_n 0, 1), (4, .getfield 15, 3), (7, .arraylength, 1), (8, .if_icmp .ge 17, 3), (11, .aload_n 0, 1), (12, .getfield 15, 3), (15, .iload_n 3, 1), (16, .ldc 55, 2), (18, .iastore, 1), (19, .iinc 3 1, 3), (22, .goto (-20), 3), (25, .aload_n 0, 1), (26, .getfield 21, 3), (29, .getfield 56, 3), (32, .iconst 1, 1), (33, .isub, 1), (34, .istore_n 3, 1), (35, .iload_n 3, 1), (36, .iload_n 2, 1), (37, .if_icmp .lt 76, 3), (40, .aload_n 0, 1), (41, .invokevirtual 59, 3), (44, .iconst 0, 1), (45, .istore 4, 2), (47, .iload 4, 2), (49, .aload_n 0, 1), (50, .getfield 21, 3), (53, .getfield 46, 3), (56, .if_icmp .gt 51, 3), (59, .aload_n 0, 1), (60, .getfield 15, 3), (63, .iload 4, 2), (65, .iconst 2, 1), (66, .imul, 1), (67, .aload_n 0, 1), (68, .iload_n 3, 1), (69, .iload_n 1, 1), (70, .iload 4, 2), (72, .iconst 0, 1), (73, .invokevirtual 62, 3), (76, .invokestatic 66, 3), (79, .aload_n 0, 1), (80, .getfield 15, 3), (83, .iload 4, 2), (85, .iconst 2, 1), (86, .imul, 1), (87, .iconst 1, 1), (88, .iadd, 1), (89, .aload_n 0, 1), (90, .iload_n 3, 1), (91, .iload_n 1, 1), (92, .iload 4, 2), (94, .iconst 1, 1), (95, .invokevirtual 62, 3), (98, .invokestatic 66, 3), (101, .iinc 4 1, 3), (104, .goto (-57), 3), (107, .iinc 3 (-1), 3), (110, .goto (-75), 3), (113, .return_, 1)])
set_option maxRecDepth 100000 in
theorem cok_Sh_goBack : CodeOK pSh_goBack := by unfold CodeOK; decide +kernel
theorem ht_Sh_goBack : hTab pSh_goBack = none := ht_of rfl nl_7
theorem pl_Sh_goBack : plainName (mY pSh_goBack).cls = true := np_7
theorem pm_Sh_goBack : PlainM pSh_goBack 2 := ⟨nm_7.1, nm_7.2, pd_9, by decide, gt5 39 rfl rfl, gt1 14 rfl rfl⟩
theorem im_Sh_goBack : Cond.instanceMethod (mY pSh_goBack) ∈ GW := gt5 38 rfl rfl
theorem sl_Sh_goBack : Cond.selects (mY pSh_goBack).cls (mY pSh_goBack) (mY pSh_goBack) ∈ GW := gtS 36 rfl rfl
def pSh_sureness : PM := (⟨RX7, "sureness", "(ILLastsEvening$Night;)I"⟩, prog_9_method_2_code, 3, some .int, [(0, .aload_n 0, 1), (1, .iload_n 1, 1), (2, .aload_n 2, 1), (3, .getfield 25, 3), (6, .invokevirtual 31, 3), (9, .aload_n 0, 1), (10, .getfield 15, 3), (13, .aload_n 2, 1), (14, .getfield 35, 3), (17, .iconst 2, 1), (18, .imul, 1), (19, .aload_n 2, 1), (20, .getfield 38, 3), (23, .ifCond .eq 7, 3), (26, .iconst 1, 1), (27, .goto 4, 3), (30, .iconst 0, 1), (31, .iadd, 1), (32, .invokestatic 42, 3), (35, .ireturn, 1)])
set_option maxRecDepth 100000 in
theorem cok_Sh_sureness : CodeOK pSh_sureness := by unfold CodeOK; decide +kernel
theorem ht_Sh_sureness : hTab pSh_sureness = none := ht_of rfl nl_7
theorem pl_Sh_sureness : plainName (mY pSh_sureness).cls = true := np_7
theorem pm_Sh_sureness : PlainM pSh_sureness 2 := ⟨nm_7.1, nm_7.2, pd_23, by decide, gt5 35 rfl rfl, gt1 14 rfl rfl⟩
theorem im_Sh_sureness : Cond.instanceMethod (mY pSh_sureness) ∈ GW := gt5 33 rfl rfl
theorem sl_Sh_sureness : Cond.selects (mY pSh_sureness).cls (mY pSh_sureness) (mY pSh_sureness) ∈ GW := gt5 34 rfl rfl
def pLe_surely : PM := (⟨RX10, "surely", "(I)I"⟩, prog_1_method_19_code, 2, some .int, [(0, .iload_n 1, 1), (1, .iconst 1, 1), (2, .if_icmp .lt 18, 3), (5, .iload_n 1, 1), (6, .iconst 3, 1), (7, .if_icmp .gt 13, 3), (10, .aload_n 0, 1), (11, .getfield 48, 3), (14, .getfield 249, 3), (17, .ifCond .ne 5, 3), (20, .iconst (-1), 1), (21, .ireturn, 1), (22, .aload_n 0, 1), (23, .getfield 108, 3), (26, .iload_n 1, 1), (27, .aload_n 0, 1), (28, .getfield 48, 3), (31, .invokevirtual 260, 3), (34, .ireturn, 1)])
set_option maxRecDepth 100000 in
theorem cok_Le_surely : CodeOK pLe_surely := by unfold CodeOK; decide +kernel
theorem ht_Le_surely : hTab pLe_surely = none := ht_of rfl nl_10
theorem pl_Le_surely : plainName (mY pLe_surely).cls = true := np_10
theorem pm_Le_surely : PlainM pLe_surely 1 := ⟨nm_10.1, nm_10.2, pd_5, by decide, gt5 31 rfl rfl, gt1 1 rfl rfl⟩
theorem im_Le_surely : Cond.instanceMethod (mY pLe_surely) ∈ GW := gt5 29 rfl rfl
theorem sl_Le_surely : Cond.selects (mY pLe_surely).cls (mY pLe_surely) (mY pLe_surely) ∈ GW := gt5 30 rfl rfl
def pLe_most : PM := (⟨RX10, "most", "(I)I"⟩, prog_1_method_20_code, 3, some .int, [(0, .iload_n 1, 1), (1, .ifCond .lt 20, 3), (4, .iload_n 1, 1), (5, .ldc_w 263, 3), (8, .if_icmp .gt 13, 3), (11, .aload_n 0, 1), (12, .getfield 48, 3), (15, .getfield 249, 3), (18, .ifCond .ne 5, 3), (21, .iconst (-1), 1), (22, .ireturn, 1), (23, .iconst 3, 1), (24, .istore_n 2, 1), (25, .iload_n 2, 1), (26, .iconst 1, 1), (27, .if_icmp .lt 27, 3), (30, .aload_n 0, 1), (31, .getfield 108, 3), (34, .iload_n 2, 1), (35, .aload_n 0, 1), (36, .getfield 48, 3), (39, .invokevirtual 260, 3), (42, .iload_n 1, 1), (43, .if_icmp .lt 5, 3), (46, .iload_n 2, 1), (47, .ireturn, 1), (48, .iinc 2 (-1), 3), (51, .goto (-26), 3), (54, .iconst (-1), 1), (55, .ireturn, 1)])
set_option maxRecDepth 100000 in
theorem cok_Le_most : CodeOK pLe_most := by unfold CodeOK; decide +kernel
theorem ht_Le_most : hTab pLe_most = none := ht_of rfl nl_10
theorem pl_Le_most : plainName (mY pLe_most).cls = true := np_10
theorem pm_Le_most : PlainM pLe_most 1 := ⟨nm_10.1, nm_10.2, pd_5, by decide, gt5 57 rfl rfl, gt1 1 rfl rfl⟩
theorem im_Le_most : Cond.instanceMethod (mY pLe_most) ∈ GW := gt5 55 rfl rfl
theorem sl_Le_most : Cond.selects (mY pLe_most).cls (mY pLe_most) (mY pLe_most) ∈ GW := gt5 56 rfl rfl
def pSh_fewest : PM := (⟨RX7, "fewest", "(IILLastsEvening$Night;)I"⟩, prog_9_method_3_code, 5, some .int, [(0, .aload_n 0, 1), (1, .iload_n 1, 1), (2, .aload_n 3, 1), (3, .getfield 25, 3), (6, .invokevirtual 31, 3), (9, .iconst 0, 1), (10, .istore 4, 2), (12, .iload 4, 2), (14, .aload_n 0, 1), (15, .getfield 21, 3), (18, .getfield 46, 3), (21, .if_icmp .gt 40, 3), (24, .aload_n 0, 1), (25, .getfield 15, 3), (28, .iload 4, 2), (30, .iconst 2, 1), (31, .imul, 1), (32, .aload_n 3, 1), (33, .getfield 38, 3), (36, .ifCond .eq 7, 3), (39, .iconst 1, 1), (40, .goto 4, 3), (43, .iconst 0, 1), (44, .iadd, 1), (45, .invokestatic 42, 3), (48, .iload_n 2, 1), (49, .if_icmp .lt 6, 3), (52, .iload 4, 2), (54, .ireturn, 1), (55, .iinc 4 1, 3), (58, .goto (-46), 3), (61, .iconst (-1), 1), (62, .ireturn, 1)])
set_option maxRecDepth 100000 in
theorem cok_Sh_fewest : CodeOK pSh_fewest := by unfold CodeOK; decide +kernel
theorem ht_Sh_fewest : hTab pSh_fewest = none := ht_of rfl nl_7
theorem pl_Sh_fewest : plainName (mY pSh_fewest).cls = true := np_7
theorem pm_Sh_fewest : PlainM pSh_fewest 3 := ⟨nm_7.1, nm_7.2, pd_19, by decide, gt5 66 rfl rfl, gt1 14 rfl rfl⟩
theorem im_Sh_fewest : Cond.instanceMethod (mY pSh_fewest) ∈ GW := gt5 64 rfl rfl
theorem sl_Sh_fewest : Cond.selects (mY pSh_fewest).cls (mY pSh_fewest) (mY pSh_fewest) ∈ GW := gt5 65 rfl rfl
def pLe_enough : PM := (⟨RX10, "enough", "(II)I"⟩, prog_1_method_21_code, 3, some .int, [(0, .iload_n 1, 1), (1, .iconst 1, 1), (2, .if_icmp .lt 29, 3), (5, .iload_n 1, 1), (6, .iconst 3, 1), (7, .if_icmp .gt 24, 3), (10, .iload_n 2, 1), (11, .ifCond .lt 20, 3), (14, .iload_n 2, 1), (15, .ldc_w 263, 3), (18, .if_icmp .gt 13, 3), (21, .aload_n 0, 1), (22, .getfield 48, 3), (25, .getfield 249, 3), (28, .ifCond .ne 5, 3), (31, .iconst (-1), 1), (32, .ireturn, 1), (33, .aload_n 0, 1), (34, .getfield 108, 3), (37, .iload_n 1, 1), (38, .iload_n 2, 1), (39, .aload_n 0, 1), (40, .getfield 48, 3), (43, .invokevirtual 264, 3), (46, .ireturn, 1)])
set_option maxRecDepth 100000 in
theorem cok_Le_enough : CodeOK pLe_enough := by unfold CodeOK; decide +kernel
theorem ht_Le_enough : hTab pLe_enough = none := ht_of rfl nl_10
theorem pl_Le_enough : plainName (mY pLe_enough).cls = true := np_10
theorem pm_Le_enough : PlainM pLe_enough 2 := ⟨nm_10.1, nm_10.2, pd_8, by decide, gt5 62 rfl rfl, gt1 1 rfl rfl⟩
theorem im_Le_enough : Cond.instanceMethod (mY pLe_enough) ∈ GW := gt5 60 rfl rfl
theorem sl_Le_enough : Cond.selects (mY pLe_enough).cls (mY pLe_enough) (mY pLe_enough) ∈ GW := gt5 61 rfl rfl
def pVa_worthFrom : PM := (⟨RX9, "worthFrom", "(IIIZ)I"⟩, prog_11_method_3_code, 5, some .int, [(0, .aload_n 0, 1), (1, .iload_n 1, 1), (2, .invokevirtual 38, 3), (5, .aload_n 0, 1), (6, .iload_n 1, 1), (7, .iload_n 2, 1), (8, .iload_n 3, 1), (9, .iload 4, 2), (11, .invokevirtual 42, 3), (14, .ireturn, 1)])
set_option maxRecDepth 100000 in
theorem cok_Va_worthFrom : CodeOK pVa_worthFrom := by unfold CodeOK; decide +kernel
theorem ht_Va_worthFrom : hTab pVa_worthFrom = none := ht_of rfl nl_9
theorem pl_Va_worthFrom : plainName (mY pVa_worthFrom).cls = true := np_9
theorem pm_Va_worthFrom : PlainM pVa_worthFrom 4 := ⟨nm_9.1, nm_9.2, pd_18, by decide, gt5 74 rfl rfl, gt1 11 rfl rfl⟩
theorem im_Va_worthFrom : Cond.instanceMethod (mY pVa_worthFrom) ∈ GW := gt5 72 rfl rfl
theorem sl_Va_worthFrom : Cond.selects (mY pVa_worthFrom).cls (mY pVa_worthFrom) (mY pVa_worthFrom) ∈ GW := gt5 73 rfl rfl
def pLe_peak : PM := (⟨RX10, "peak", "(I)I"⟩, prog_1_method_22_code, 6, some .int, [(0, .iload_n 1, 1), (1, .ifCond .lt 21, 3), (4, .iload_n 1, 1), (5, .aload_n 0, 1), (6, .getfield 19, 3), (9, .getfield 226, 3), (12, .if_icmp .gt 10, 3), (15, .aload_n 0, 1), (16, .invokevirtual 173, 3), (19, .ifCond .ne 5, 3), (22, .iconst (-1), 1), (23, .ireturn, 1), (24, .iconst 0, 1), (25, .istore_n 2, 1), (26, .aload_n 0, 1), (27, .getfield 77, 3), (30, .aload_n 0, 1), (31, .getfield 48, 3), (34, .getfield 170, 3), (37, .iconst 0, 1), (38, .iload_n 1, 1), (39, .aload_n 0, 1), (40, .getfield 48, 3), (43, .getfield 234, 3), (46, .invokevirtual 227, 3), (49, .istore_n 3, 1), (50, .iconst 1, 1), (51, .istore 4, 2), (53, .iload 4, 2), (55, .aload_n 0, 1), (56, .getfield 19, 3), (59, .getfield 223, 3), (62, .if_icmp .gt 47, 3), (65, .aload_n 0, 1), (66, .getfield 77, 3), (69, .aload_n 0, 1), (70, .getfield 48, 3), (73, .getfield 170, 3), (76, .iload 4, 2), (78, .iload_n 1, 1), (79, .aload_n 0, 1), (80, .getfield 48, 3), (83, .getfield 234, 3), (86, .invokevirtual 227, 3), (89, .istore 5, 2), (91, .iload 5, 2), (93, .iload_n 3, 1), (94, .if_icmp .le 9, 3), (97, .iload 5, 2), (99, .istore_n 3, 1), (100, .iload 4, 2), (102, .istore_n 2, 1), (103, .iinc 4 1, 3), (106, .goto (-53), 3), (109, .iload_n 2, 1), (110, .ireturn, 1)])
set_option maxRecDepth 100000 in
theorem cok_Le_peak : CodeOK pLe_peak := by unfold CodeOK; decide +kernel
theorem ht_Le_peak : hTab pLe_peak = none := ht_of rfl nl_10
theorem pl_Le_peak : plainName (mY pLe_peak).cls = true := np_10
theorem pm_Le_peak : PlainM pLe_peak 1 := ⟨nm_10.1, nm_10.2, pd_5, by decide, gt5 70 rfl rfl, gt1 1 rfl rfl⟩
theorem im_Le_peak : Cond.instanceMethod (mY pLe_peak) ∈ GW := gt5 68 rfl rfl
theorem sl_Le_peak : Cond.selects (mY pLe_peak).cls (mY pLe_peak) (mY pLe_peak) ∈ GW := gt5 69 rfl rfl
def pLe_habits : PM := (⟨RX10, "habits", "()I"⟩, prog_1_method_23_code, 5, some .int, [(0, .aload_n 0, 1), (1, .getfield 48, 3), (4, .getfield 249, 3), (7, .ifCond .eq 13, 3), (10, .aload_n 0, 1), (11, .getfield 19, 3), (14, .getfield 267, 3), (17, .ifCond .ne 5, 3), (20, .iconst (-1), 1), (21, .ireturn, 1), (22, .iconst 0, 1), (23, .istore_n 1, 1), (24, .aload_n 0, 1), (25, .getfield 92, 3), (28, .iconst 0, 1), (29, .aload_n 0, 1), (30, .getfield 19, 3), (33, .getfield 134, 3), (36, .aload_n 0, 1), (37, .getfield 48, 3), (40, .invokevirtual 252, 3), (43, .istore_n 2, 1), (44, .iconst 1, 1), (45, .istore_n 3, 1), (46, .iload_n 3, 1), (47, .aload_n 0, 1), (48, .getfield 19, 3), (51, .getfield 267, 3), (54, .if_icmp .ge 41, 3), (57, .aload_n 0, 1), (58, .getfield 92, 3), (61, .iload_n 3, 1), (62, .aload_n 0, 1), (63, .getfield 19, 3), (66, .getfield 134, 3), (69, .aload_n 0, 1), (70, .getfield 48, 3), (73, .invokevirtual 252, 3), (76, .istore 4, 2), (78, .iload 4, 2), (80, .iload_n 2, 1), (81, .if_icmp .le 8, 3), (84, .iload 4, 2), (86, .istore_n 2, 1), (87, .iload_n 3, 1), (88, .istore_n 1, 1), (89, .iinc 3 1, 3), (92, .goto (-46), 3), (95, .iload_n 1, 1), (96, .ireturn, 1)])
set_option maxRecDepth 100000 in
theorem cok_Le_habits : CodeOK pLe_habits := by unfold CodeOK; decide +kernel
theorem ht_Le_habits : hTab pLe_habits = none := ht_of rfl nl_10
theorem pl_Le_habits : plainName (mY pLe_habits).cls = true := np_10
theorem pm_Le_habits : PlainM pLe_habits 0 := ⟨nm_10.1, nm_10.2, pd_1, by decide, gt5 78 rfl rfl, gt1 1 rfl rfl⟩
theorem im_Le_habits : Cond.instanceMethod (mY pLe_habits) ∈ GW := gt5 76 rfl rfl
theorem sl_Le_habits : Cond.selects (mY pLe_habits).cls (mY pLe_habits) (mY pLe_habits) ∈ GW := gt5 77 rfl rfl
def pLe_rains : PM := (⟨RX10, "rains", "()I"⟩, prog_1_method_26_code, 1, some .int, [(0, .aload_n 0, 1), (1, .getfield 48, 3), (4, .getfield 274, 3), (7, .ireturn, 1)])
set_option maxRecDepth 100000 in
theorem cok_Le_rains : CodeOK pLe_rains := by unfold CodeOK; decide +kernel
theorem ht_Le_rains : hTab pLe_rains = none := ht_of rfl nl_10
theorem pl_Le_rains : plainName (mY pLe_rains).cls = true := np_10
theorem pm_Le_rains : PlainM pLe_rains 0 := ⟨nm_10.1, nm_10.2, pd_1, by decide, gt5 82 rfl rfl, gt1 1 rfl rfl⟩
theorem im_Le_rains : Cond.instanceMethod (mY pLe_rains) ∈ GW := gt5 80 rfl rfl
theorem sl_Le_rains : Cond.selects (mY pLe_rains).cls (mY pLe_rains) (mY pLe_rains) ∈ GW := gt5 81 rfl rfl
def pRd_clear : PM := (⟨RX5, "clear", "([II)V"⟩, prog_7_method_10_code, 3, none, [(0, .iconst 0, 1), (1, .istore_n 2, 1), (2, .iload_n 2, 1), (3, .iload_n 1, 1), (4, .if_icmp .ge 19, 3), (7, .iload_n 2, 1), (8, .aload_n 0, 1), (9, .arraylength, 1), (10, .if_icmp .ge 13, 3), (13, .aload_n 0, 1), (14, .iload_n 2, 1), (15, .iconst 0, 1), (16, .iastore, 1), (17, .iinc 2 1, 3), (20, .goto (-18), 3), (23, .return_, 1)])
set_option maxRecDepth 100000 in
theorem cok_Rd_clear : CodeOK pRd_clear := by unfold CodeOK; decide +kernel
theorem ht_Rd_clear : hTab pRd_clear = none := ht_of rfl nl_5
theorem pl_Rd_clear : plainName (mY pRd_clear).cls = true := np_5
theorem pm_Rd_clear : PlainM pRd_clear 2 := ⟨nm_5.1, nm_5.2, pd_55, by decide, gt5 94 rfl rfl, gt1 13 rfl rfl⟩
theorem st_Rd_clear : Cond.static (mY pRd_clear) ∈ GW := gt5 93 rfl rfl
def pRd_placeOf : PM := (⟨RX5, "placeOf", "(III)I"⟩, prog_7_method_9_code, 4, some .int, [(0, .iload_n 1, 1), (1, .aload_n 0, 1), (2, .getfield 9, 3), (5, .imul, 1), (6, .iload_n 2, 1), (7, .iadd, 1), (8, .iconst 2, 1), (9, .imul, 1), (10, .iload_n 3, 1), (11, .iadd, 1), (12, .ireturn, 1)])
set_option maxRecDepth 100000 in
theorem cok_Rd_placeOf : CodeOK pRd_placeOf := by unfold CodeOK; decide +kernel
theorem ht_Rd_placeOf : hTab pRd_placeOf = none := ht_of rfl nl_5
theorem pl_Rd_placeOf : plainName (mY pRd_placeOf).cls = true := np_5
theorem pm_Rd_placeOf : PlainM pRd_placeOf 3 := ⟨nm_5.1, nm_5.2, pd_11, by decide, gt5 98 rfl rfl, gt1 13 rfl rfl⟩
theorem im_Rd_placeOf : Cond.instanceMethod (mY pRd_placeOf) ∈ GW := gt5 97 rfl rfl
theorem sl_Rd_placeOf : Cond.selects (mY pRd_placeOf).cls (mY pRd_placeOf) (mY pRd_placeOf) ∈ GW := gtS 39 rfl rfl
def pRd_isLikely : PM := (⟨RX5, "isLikely", "(II)Z"⟩, prog_7_method_7_code, 4, some .boolean, [(0, .iconst 0, 1), (1, .istore_n 3, 1), (2, .iload_n 3, 1), (3, .aload_n 0, 1), (4, .getfield 9, 3), (7, .if_icmp .ge 28, 3), (10, .aload_n 0, 1), (11, .getfield 15, 3), (14, .aload_n 0, 1), (15, .iload_n 1, 1), (16, .iload_n 3, 1), (17, .iload_n 2, 1), (18, .invokevirtual 46, 3), (21, .invokestatic 59, 3), (24, .ifCond .le 5, 3), (27, .iconst 1, 1), (28, .ireturn, 1), (29, .iinc 3 1, 3), (32, .goto (-30), 3), (35, .iconst 0, 1), (36, .ireturn, 1)])
set_option maxRecDepth 100000 in
theorem cok_Rd_isLikely : CodeOK pRd_isLikely := by unfold CodeOK; decide +kernel
theorem ht_Rd_isLikely : hTab pRd_isLikely = none := ht_of rfl nl_5
theorem pl_Rd_isLikely : plainName (mY pRd_isLikely).cls = true := np_5
theorem pm_Rd_isLikely : PlainM pRd_isLikely 2 := ⟨nm_5.1, nm_5.2, pd_10, by decide, gt5 108 rfl rfl, gt1 13 rfl rfl⟩
theorem im_Rd_isLikely : Cond.instanceMethod (mY pRd_isLikely) ∈ GW := gt5 107 rfl rfl
theorem sl_Rd_isLikely : Cond.selects (mY pRd_isLikely).cls (mY pRd_isLikely) (mY pRd_isLikely) ∈ GW := gtS 41 rfl rfl
def pRd_spreadCallers : PM := (⟨RX5, "spreadCallers", "(IIIII)V"⟩, prog_7_method_8_code, 14, none, [(0, .aload_n 0, 1), (1, .getfield 22, 3), (4, .iconst 0, 1), (5, .iload_n 2, 1), (6, .iload 5, 2), (8, .invokevirtual 75, 3), (11, .istore 6, 2), (13, .iload 6, 2), (15, .ifCond .ne 4, 3), (18, .return_, 1), (19, .iload 5, 2), (21, .iload 4, 2), (23, .iadd, 1), (24, .istore 7, 2), (26, .iload 7, 2), (28, .ifCond .le 19, 3), (31, .aload_n 0, 1), (32, .getfield 26, 3), (35, .iload_n 1, 1), (36, .iload_n 2, 1), (37, .iload_n 3, 1), (38, .iconst 0, 1), (39, .iload 7, 2), (41, .invokevirtual 79, 3), (44, .goto 4, 3), (47, .iconst 0, 1), (48, .istore 8, 2), (50, .iload_n 3, 1), (51, .aload_n 0, 1), (52, .getfield 22, 3), (55, .iload_n 3, 1), (56, .iload 7, 2), (58, .iload 8, 2), (60, .invokevirtual 85, 3), (63, .isub, 1), (64, .istore 9, 2), (66, .aload_n 0, 1), (67, .getfield 22, 3), (70, .iload 7, 2), (72, .iload 8, 2), (74, .invokevirtual 88, 3), (77, .ifCond .eq 7, 3), (80, .iconst 1, 1), (81, .goto 4, 3), (84, .iconst 0, 1), (85, .istore 10, 2), (87, .iconst 0, 1), (88, .istore 11, 2), (90, .iload 11, 2), (92, .iload 7, 2), (94, .iadd, 1), (95, .aload_n 0, 1), (96, .getfield 9, 3), (99, .if_icmp .ge 71, 3), (102, .aload_n 0, 1), (103, .getfield 15, 3), (106, .aload_n 0, 1), (107, .iload_n 3, 1), (108, .iload 11, 2), (110, .iload 4, 2), (112, .invokevirtual 46, 3), (115, .invokestatic 59, 3), (118, .iload 6, 2), (120, .imul, 1), (121, .istore 12, 2), (123, .iload 12, 2), (125, .ifCond .le 39, 3), (128, .aload_n 0, 1), (129, .iload 9, 2), (131, .iload 11, 2), (133, .iload 7, 2), (135, .iadd, 1), (136, .iload 10, 2), (138, .invokevirtual 46, 3), (141, .istore 13, 2), (143, .aload_n 0, 1), (144, .getfield 19, 3), (147, .iload 13, 2), (149, .aload_n 0, 1), (150, .getfield 19, 3), (153, .iload 13, 2), (155, .invokestatic 59, 3), (158, .iload 12, 2), (160, .iadd, 1), (161, .invokestatic 51, 3), (164, .iinc 11 1, 3), (167, .goto (-77), 3), (170, .return_, 1)])
set_option maxRecDepth 100000 in
theorem cok_Rd_spreadCallers : CodeOK pRd_spreadCallers := by unfold CodeOK; decide +kernel
theorem ht_Rd_spreadCallers : hTab pRd_spreadCallers = none := ht_of rfl nl_5
theorem pl_Rd_spreadCallers : plainName (mY pRd_spreadCallers).cls = true := np_5
theorem pm_Rd_spreadCallers : PlainM pRd_spreadCallers 5 := ⟨nm_5.1, nm_5.2, pd_16, by decide, gt5 113 rfl rfl, gt1 13 rfl rfl⟩
theorem im_Rd_spreadCallers : Cond.instanceMethod (mY pRd_spreadCallers) ∈ GW := gt5 112 rfl rfl
theorem sl_Rd_spreadCallers : Cond.selects (mY pRd_spreadCallers).cls (mY pRd_spreadCallers) (mY pRd_spreadCallers) ∈ GW := gtS 42 rfl rfl
def pRd_spread : PM := (⟨RX5, "spread", "(II)V"⟩, prog_7_method_6_code, 6, none, [(0, .iconst 0, 1), (1, .istore_n 3, 1), (2, .iload_n 3, 1), (3, .aload_n 0, 1), (4, .getfield 22, 3), (7, .getfield 35, 3), (10, .if_icmp .gt 60, 3), (13, .iconst 0, 1), (14, .istore 4, 2), (16, .iload 4, 2), (18, .iconst 1, 1), (19, .if_icmp .gt 45, 3), (22, .aload_n 0, 1), (23, .iload_n 3, 1), (24, .iload 4, 2), (26, .invokevirtual 67, 3), (29, .ifCond .eq 29, 3), (32, .iconst 0, 1), (33, .istore 5, 2), (35, .iload 5, 2), (37, .iconst 3, 1), (38, .if_icmp .gt 20, 3), (41, .aload_n 0, 1), (42, .iload_n 1, 1), (43, .iload_n 2, 1), (44, .iload_n 3, 1), (45, .iload 4, 2), (47, .iload 5, 2), (49, .invokevirtual 71, 3), (52, .iinc 5 1, 3), (55, .goto (-20), 3), (58, .iinc 4 1, 3), (61, .goto (-45), 3), (64, .iinc 3 1, 3), (67, .goto (-65), 3), (70, .return_, 1)])
set_option maxRecDepth 100000 in
theorem cok_Rd_spread : CodeOK pRd_spread := by unfold CodeOK; decide +kernel
theorem ht_Rd_spread : hTab pRd_spread = none := ht_of rfl nl_5
theorem pl_Rd_spread : plainName (mY pRd_spread).cls = true := np_5
theorem pm_Rd_spread : PlainM pRd_spread 2 := ⟨nm_5.1, nm_5.2, pd_9, by decide, gt5 104 rfl rfl, gt1 13 rfl rfl⟩
theorem im_Rd_spread : Cond.instanceMethod (mY pRd_spread) ∈ GW := gt5 103 rfl rfl
theorem sl_Rd_spread : Cond.selects (mY pRd_spread).cls (mY pRd_spread) (mY pRd_spread) ∈ GW := gtS 40 rfl rfl
def pRd_tell : PM := (⟨RX5, "tell", "(II)V"⟩, prog_7_method_2_code, 7, none, [(0, .aload_n 0, 1), (1, .aload_n 0, 1), (2, .getfield 22, 3), (5, .getfield 30, 3), (8, .iconst 4, 1), (9, .imul, 1), (10, .iconst 1, 1), (11, .iadd, 1), (12, .putfield 9, 3), (15, .aload_n 0, 1), (16, .getfield 22, 3), (19, .getfield 35, 3), (22, .iconst 1, 1), (23, .iadd, 1), (24, .aload_n 0, 1), (25, .getfield 9, 3), (28, .imul, 1), (29, .iconst 2, 1), (30, .imul, 1), (31, .istore_n 3, 1), (32, .aload_n 0, 1), (33, .aload_n 0, 1), (34, .getfield 15, 3), (37, .iload_n 3, 1), (38, .invokestatic 38, 3), (41, .putfield 15, 3), (44, .aload_n 0, 1), (45, .aload_n 0, 1), (46, .getfield 19, 3), (49, .iload_n 3, 1), (50, .invokestatic 38, 3), (53, .putfield 19, 3), (56, .aload_n 0, 1), (57, .getfield 19, 3), (60, .iload_n 3, 1), (61, .invokestatic 42, 3), (64, .aload_n 0, 1), (65, .getfield 19, 3), (68, .aload_n 0, 1), (69, .aload_n 0, 1), (70, .getfield 22, 3), (73, .getfield 35, 3), (76, .iconst 0, 1), (77, .iconst 0, 1), (78, .invokevirtual 46, 3), (81, .ldc 50, 2), (83, .invokestatic 51, 3), (86, .iconst 0, 1), (87, .istore 4, 2), (89, .iload 4, 2), (91, .iload_n 2, 1), (92, .if_icmp .ge 80, 3), (95, .aload_n 0, 1), (96, .getfield 15, 3), (99, .astore 5, 2), (101, .aload_n 0, 1), (102, .aload_n 0, 1), (103, .getfield 19, 3), (106, .putfield 15, 3), (109, .aload_n 0, 1), (110, .aload 5, 2), (112, .putfield 19, 3), (115, .aload_n 0, 1), (116, .getfield 19, 3), (119, .iload_n 3, 1), (120, .invokestatic 42, 3), (123, .aload_n 0, 1), (124, .iload_n 1, 1), (125, .iload 4, 2), (127, .invokevirtual 55, 3), (130, .iconst 0, 1), (131, .istore 6, 2), (133, .iload 6, 2), (135, .iload_n 3, 1), (136, .if_icmp .ge 30, 3), (139, .aload_n 0, 1), (140, .getfield 19, 3), (143, .iload 6, 2), (145, .aload_n 0, 1), (146, .getfield 19, 3), (149, .iload 6, 2), (151, .invokestatic 59, 3), (154, .bipush 10, 2), (156, .idiv, 1), (157, .invokestatic 51, 3), (160, .iinc 6 1, 3), (163, .goto (-30), 3), (166, .iinc 4 1, 3), (169, .goto (-80), 3), (172, .return_, 1)])
set_option maxRecDepth 100000 in
theorem cok_Rd_tell : CodeOK pRd_tell := by unfold CodeOK; decide +kernel
theorem ht_Rd_tell : hTab pRd_tell = none := ht_of rfl nl_5
theorem pl_Rd_tell : plainName (mY pRd_tell).cls = true := np_5
theorem pm_Rd_tell : PlainM pRd_tell 2 := ⟨nm_5.1, nm_5.2, pd_9, by decide, gt5 90 rfl rfl, gt1 13 rfl rfl⟩
theorem im_Rd_tell : Cond.instanceMethod (mY pRd_tell) ∈ GW := gt5 88 rfl rfl
theorem sl_Rd_tell : Cond.selects (mY pRd_tell).cls (mY pRd_tell) (mY pRd_tell) ∈ GW := gt5 89 rfl rfl
def pRd_partOf : PM := (⟨RX5, "partOf", "(II)I"⟩, prog_7_method_5_code, 3, some .int, [(0, .iload_n 1, 1), (1, .aload_n 0, 1), (2, .getfield 22, 3), (5, .getfield 35, 3), (8, .if_icmp .le 5, 3), (11, .iconst 0, 1), (12, .ireturn, 1), (13, .aload_n 0, 1), (14, .getfield 19, 3), (17, .aload_n 0, 1), (18, .iload_n 1, 1), (19, .iload_n 2, 1), (20, .iconst 0, 1), (21, .invokevirtual 46, 3), (24, .invokestatic 59, 3), (27, .aload_n 0, 1), (28, .getfield 19, 3), (31, .aload_n 0, 1), (32, .iload_n 1, 1), (33, .iload_n 2, 1), (34, .iconst 1, 1), (35, .invokevirtual 46, 3), (38, .invokestatic 59, 3), (41, .iadd, 1), (42, .ireturn, 1)])
set_option maxRecDepth 100000 in
theorem cok_Rd_partOf : CodeOK pRd_partOf := by unfold CodeOK; decide +kernel
theorem ht_Rd_partOf : hTab pRd_partOf = none := ht_of rfl nl_5
theorem pl_Rd_partOf : plainName (mY pRd_partOf).cls = true := np_5
theorem pm_Rd_partOf : PlainM pRd_partOf 2 := ⟨nm_5.1, nm_5.2, pd_8, by decide, gt5 125 rfl rfl, gt1 13 rfl rfl⟩
theorem im_Rd_partOf : Cond.instanceMethod (mY pRd_partOf) ∈ GW := gt5 124 rfl rfl
theorem sl_Rd_partOf : Cond.selects (mY pRd_partOf).cls (mY pRd_partOf) (mY pRd_partOf) ∈ GW := gtS 43 rfl rfl
def pRd_chanceOf : PM := (⟨RX5, "chanceOf", "(I)I"⟩, prog_7_method_3_code, 4, some .int, [(0, .iconst 0, 1), (1, .istore_n 2, 1), (2, .iconst 0, 1), (3, .istore_n 3, 1), (4, .iload_n 3, 1), (5, .aload_n 0, 1), (6, .getfield 9, 3), (9, .if_icmp .ge 18, 3), (12, .iload_n 2, 1), (13, .aload_n 0, 1), (14, .iload_n 1, 1), (15, .iload_n 3, 1), (16, .invokevirtual 63, 3), (19, .iadd, 1), (20, .istore_n 2, 1), (21, .iinc 3 1, 3), (24, .goto (-20), 3), (27, .iload_n 2, 1), (28, .ireturn, 1)])
set_option maxRecDepth 100000 in
theorem cok_Rd_chanceOf : CodeOK pRd_chanceOf := by unfold CodeOK; decide +kernel
theorem ht_Rd_chanceOf : hTab pRd_chanceOf = none := ht_of rfl nl_5
theorem pl_Rd_chanceOf : plainName (mY pRd_chanceOf).cls = true := np_5
theorem pm_Rd_chanceOf : PlainM pRd_chanceOf 1 := ⟨nm_5.1, nm_5.2, pd_5, by decide, gt5 121 rfl rfl, gt1 13 rfl rfl⟩
theorem im_Rd_chanceOf : Cond.instanceMethod (mY pRd_chanceOf) ∈ GW := gt5 119 rfl rfl
theorem sl_Rd_chanceOf : Cond.selects (mY pRd_chanceOf).cls (mY pRd_chanceOf) (mY pRd_chanceOf) ∈ GW := gt5 120 rfl rfl
def pRd_likeliest : PM := (⟨RX5, "likeliest", "(I)I"⟩, prog_7_method_4_code, 6, some .int, [(0, .iconst (-1), 1), (1, .istore_n 2, 1), (2, .iconst 0, 1), (3, .istore_n 3, 1), (4, .iconst 0, 1), (5, .istore 4, 2), (7, .iload 4, 2), (9, .aload_n 0, 1), (10, .getfield 9, 3), (13, .if_icmp .ge 30, 3), (16, .aload_n 0, 1), (17, .iload_n 1, 1), (18, .iload 4, 2), (20, .invokevirtual 63, 3), (23, .istore 5, 2), (25, .iload 5, 2), (27, .iload_n 3, 1), (28, .if_icmp .le 9, 3), (31, .iload 5, 2), (33, .istore_n 3, 1), (34, .iload 4, 2), (36, .istore_n 2, 1), (37, .iinc 4 1, 3), (40, .goto (-33), 3), (43, .iload_n 2, 1), (44, .ireturn, 1)])
set_option maxRecDepth 100000 in
theorem cok_Rd_likeliest : CodeOK pRd_likeliest := by unfold CodeOK; decide +kernel
theorem ht_Rd_likeliest : hTab pRd_likeliest = none := ht_of rfl nl_5
theorem pl_Rd_likeliest : plainName (mY pRd_likeliest).cls = true := np_5
theorem pm_Rd_likeliest : PlainM pRd_likeliest 1 := ⟨nm_5.1, nm_5.2, pd_5, by decide, gt5 129 rfl rfl, gt1 13 rfl rfl⟩
theorem im_Rd_likeliest : Cond.instanceMethod (mY pRd_likeliest) ∈ GW := gt5 127 rfl rfl
theorem sl_Rd_likeliest : Cond.selects (mY pRd_likeliest).cls (mY pRd_likeliest) (mY pRd_likeliest) ∈ GW := gt5 128 rfl rfl
def pLe_read : PM := (⟨RX10, "read", "(IIII)I"⟩, prog_1_method_28_code, 5, some .int, [(0, .aload_n 0, 1), (1, .iload_n 1, 1), (2, .invokevirtual 245, 3), (5, .ifCond .eq 39, 3), (8, .iload_n 2, 1), (9, .ifCond .lt 35, 3), (12, .iload_n 2, 1), (13, .aload_n 0, 1), (14, .getfield 19, 3), (17, .getfield 134, 3), (20, .if_icmp .gt 24, 3), (23, .iload_n 3, 1), (24, .ifCond .lt 20, 3), (27, .iload_n 3, 1), (28, .bipush 120, 2), (30, .if_icmp .gt 14, 3), (33, .iload 4, 2), (35, .ifCond .lt 9, 3), (38, .iload 4, 2), (40, .iconst 1, 1), (41, .if_icmp .le 5, 3), (44, .iconst (-1), 1), (45, .ireturn, 1), (46, .aload_n 0, 1), (47, .getfield 101, 3), (50, .iload_n 1, 1), (51, .iload_n 2, 1), (52, .invokevirtual 279, 3), (55, .iload 4, 2), (57, .ifCond .ne 14, 3), (60, .aload_n 0, 1), (61, .getfield 101, 3), (64, .iload_n 3, 1), (65, .invokevirtual 283, 3), (68, .goto 11, 3), (71, .aload_n 0, 1), (72, .getfield 101, 3), (75, .iload_n 3, 1), (76, .invokevirtual 287, 3), (79, .ireturn, 1)])
set_option maxRecDepth 100000 in
theorem cok_Le_read : CodeOK pLe_read := by unfold CodeOK; decide +kernel
theorem ht_Le_read : hTab pLe_read = none := ht_of rfl nl_10
theorem pl_Le_read : plainName (mY pLe_read).cls = true := np_10
theorem pm_Le_read : PlainM pLe_read 4 := ⟨nm_10.1, nm_10.2, pd_14, by decide, gt5 86 rfl rfl, gt1 1 rfl rfl⟩
theorem im_Le_read : Cond.instanceMethod (mY pLe_read) ∈ GW := gt5 84 rfl rfl
theorem sl_Le_read : Cond.selects (mY pLe_read).cls (mY pLe_read) (mY pLe_read) ∈ GW := gt5 85 rfl rfl
def pLe_sheets : PM := (⟨RX10, "sheets", "(II)I"⟩, prog_1_method_29_code, 10, some .int, [(0, .iload_n 1, 1), (1, .ifCond .lt 18, 3), (4, .iload_n 1, 1), (5, .bipush 8, 2), (7, .if_icmp .gt 12, 3), (10, .iload_n 2, 1), (11, .ifCond .lt 8, 3), (14, .iload_n 2, 1), (15, .iload_n 1, 1), (16, .if_icmp .le 5, 3), (19, .iconst (-1), 1), (20, .ireturn, 1), (21, .lconst 1, 1), (22, .lstore_n 3, 1), (23, .ldc2_w 277, 3), (26, .lstore 5, 2), (28, .lconst 1, 1), (29, .lstore 7, 2), (31, .iconst 0, 1), (32, .istore 9, 2), (34, .iload 9, 2), (36, .iload_n 1, 1), (37, .if_icmp .ge 50, 3), (40, .lload 5, 2), (42, .iload 9, 2), (44, .iload_n 2, 1), (45, .if_icmp .ge 14, 3), (48, .aload_n 0, 1), (49, .getfield 19, 3), (52, .getfield 290, 3), (55, .i2l, 1), (56, .goto 14, 3), (59, .bipush 10, 2), (61, .aload_n 0, 1), (62, .getfield 19, 3), (65, .getfield 290, 3), (68, .isub, 1), (69, .i2l, 1), (70, .lmul, 1), (71, .lstore 5, 2), (73, .lload 7, 2), (75, .ldc2_w 293, 3), (78, .lmul, 1), (79, .lstore 7, 2), (81, .iinc 9 1, 3), (84, .goto (-50), 3), (87, .iconst 1, 1), (88, .istore 9, 2), (90, .iload 9, 2), (92, .iload_n 2, 1), (93, .if_icmp .gt 23, 3), (96, .lload_n 3, 1), (97, .iload_n 1, 1), (98, .iload_n 2, 1), (99, .isub, 1), (100, .iload 9, 2), (102, .iadd, 1), (103, .i2l, 1), (104, .lmul, 1), (105, .iload 9, 2), (107, .i2l, 1), (108, .ldiv, 1), (109, .lstore_n 3, 1), (110, .iinc 9 1, 3), (113, .goto (-23), 3), (116, .lload 7, 2), (118, .lconst 0, 1), (119, .lcmp, 1), (120, .ifCond .le 14, 3), (123, .lload_n 3, 1), (124, .lload 5, 2), (126, .lmul, 1), (127, .lload 7, 2), (129, .ldiv, 1), (130, .l2i, 1), (131, .goto 4, 3), (134, .iconst (-1), 1), (135, .ireturn, 1)])
set_option maxRecDepth 100000 in
theorem cok_Le_sheets : CodeOK pLe_sheets := by unfold CodeOK; decide +kernel
theorem ht_Le_sheets : hTab pLe_sheets = none := ht_of rfl nl_10
theorem pl_Le_sheets : plainName (mY pLe_sheets).cls = true := np_10
theorem pm_Le_sheets : PlainM pLe_sheets 2 := ⟨nm_10.1, nm_10.2, pd_8, by decide, gt5 133 rfl rfl, gt1 1 rfl rfl⟩
theorem im_Le_sheets : Cond.instanceMethod (mY pLe_sheets) ∈ GW := gt5 131 rfl rfl
theorem sl_Le_sheets : Cond.selects (mY pLe_sheets).cls (mY pLe_sheets) (mY pLe_sheets) ∈ GW := gt5 132 rfl rfl
def pLe_callersDrawn : PM := (⟨RX10, "callersDrawn", "(II)I"⟩, prog_1_method_40_code, 5, some .int, [(0, .iconst 0, 1), (1, .istore_n 3, 1), (2, .iconst 0, 1), (3, .istore 4, 2), (5, .iload 4, 2), (7, .iconst 3, 1), (8, .if_icmp .ge 31, 3), (11, .iload_n 3, 1), (12, .aload_n 0, 1), (13, .getfield 19, 3), (16, .iconst 0, 1), (17, .iload_n 1, 1), (18, .iload 4, 2), (20, .invokevirtual 137, 3), (23, .iadd, 1), (24, .istore_n 3, 1), (25, .iload_n 2, 1), (26, .iload_n 3, 1), (27, .if_icmp .ge 6, 3), (30, .iload 4, 2), (32, .ireturn, 1), (33, .iinc 4 1, 3), (36, .goto (-31), 3), (39, .iconst 3, 1), (40, .ireturn, 1)])
set_option maxRecDepth 100000 in
theorem cok_Le_callersDrawn : CodeOK pLe_callersDrawn := by unfold CodeOK; decide +kernel
theorem ht_Le_callersDrawn : hTab pLe_callersDrawn = none := ht_of rfl nl_10
theorem pl_Le_callersDrawn : plainName (mY pLe_callersDrawn).cls = true := np_10
theorem pm_Le_callersDrawn : PlainM pLe_callersDrawn 2 := ⟨nm_10.1, nm_10.2, pd_8, by decide, gt5 151 rfl rfl, gt1 1 rfl rfl⟩
theorem im_Le_callersDrawn : Cond.instanceMethod (mY pLe_callersDrawn) ∈ GW := gt5 150 rfl rfl
theorem sl_Le_callersDrawn : Cond.selects (mY pLe_callersDrawn).cls (mY pLe_callersDrawn) (mY pLe_callersDrawn) ∈ GW := gtS 45 rfl rfl
def pLe_drawEvening : PM := (⟨RX10, "drawEvening", "(JI)J"⟩, prog_1_method_39_code, 8, some .long, [(0, .lload_n 1, 1), (1, .lstore 4, 2), (3, .aload_n 0, 1), (4, .getfield 52, 3), (7, .aload_n 0, 1), (8, .getfield 19, 3), (11, .invokevirtual 186, 3), (14, .iconst 0, 1), (15, .istore 6, 2), (17, .iload 6, 2), (19, .aload_n 0, 1), (20, .getfield 19, 3), (23, .getfield 134, 3), (26, .if_icmp .ge 127, 3), (29, .lload 4, 2), (31, .ldc2_w 333, 3), (34, .lmul, 1), (35, .ldc2_w 335, 3), (38, .ladd, 1), (39, .ldc2_w 337, 3), (42, .lrem, 1), (43, .lstore 4, 2), (45, .aload_n 0, 1), (46, .iload 6, 2), (48, .lload 4, 2), (50, .ldc2_w 339, 3), (53, .ldiv, 1), (54, .ldc2_w 293, 3), (57, .lrem, 1), (58, .l2i, 1), (59, .invokevirtual 341, 3), (62, .aload_n 0, 1), (63, .getfield 52, 3), (66, .getfield 234, 3), (69, .ifCond .eq 7, 3), (72, .iconst 1, 1), (73, .goto 4, 3), (76, .iconst 0, 1), (77, .iadd, 1), (78, .istore 7, 2), (80, .aload_n 0, 1), (81, .getfield 52, 3), (84, .aload_n 0, 1), (85, .getfield 19, 3), (88, .iload 7, 2), (90, .invokevirtual 148, 3), (93, .iload 7, 2), (95, .ifCond .le 41, 3), (98, .aload_n 0, 1), (99, .getfield 52, 3), (102, .aload_n 0, 1), (103, .getfield 19, 3), (106, .aload_n 0, 1), (107, .getfield 92, 3), (110, .iload_n 3, 1), (111, .iload 6, 2), (113, .aload_n 0, 1), (114, .getfield 52, 3), (117, .getfield 203, 3), (120, .aload_n 0, 1), (121, .getfield 52, 3), (124, .getfield 206, 3), (127, .iload 7, 2), (129, .invokevirtual 344, 3), (132, .invokevirtual 159, 3), (135, .pop, 1), (136, .aload_n 0, 1), (137, .getfield 52, 3), (140, .aload_n 0, 1), (141, .getfield 19, 3), (144, .invokevirtual 167, 3), (147, .iinc 6 1, 3), (150, .goto (-133), 3), (153, .lload 4, 2), (155, .lreturn, 1)])
set_option maxRecDepth 100000 in
theorem cok_Le_drawEvening : CodeOK pLe_drawEvening := by unfold CodeOK; decide +kernel
theorem ht_Le_drawEvening : hTab pLe_drawEvening = none := ht_of rfl nl_10
theorem pl_Le_drawEvening : plainName (mY pLe_drawEvening).cls = true := np_10
theorem pm_Le_drawEvening : PlainM pLe_drawEvening 2 := ⟨nm_10.1, nm_10.2, pd_29, by decide, gt5 143 rfl rfl, gt1 1 rfl rfl⟩
theorem im_Le_drawEvening : Cond.instanceMethod (mY pLe_drawEvening) ∈ GW := gt5 142 rfl rfl
theorem sl_Le_drawEvening : Cond.selects (mY pLe_drawEvening).cls (mY pLe_drawEvening) (mY pLe_drawEvening) ∈ GW := gtS 44 rfl rfl
def pLe_years : PM := (⟨RX10, "years", "(IIII)I"⟩, prog_1_method_30_code, 11, some .int, [(0, .iload_n 1, 1), (1, .ifCond .lt 40, 3), (4, .iload_n 1, 1), (5, .sipush 9999, 3), (8, .if_icmp .gt 33, 3), (11, .iload_n 2, 1), (12, .iconst 1, 1), (13, .if_icmp .lt 28, 3), (16, .iload_n 2, 1), (17, .bipush 20, 2), (19, .if_icmp .gt 22, 3), (22, .aload_n 0, 1), (23, .iload_n 3, 1), (24, .invokevirtual 245, 3), (27, .ifCond .eq 14, 3), (30, .iload 4, 2), (32, .ifCond .lt 9, 3), (35, .iload 4, 2), (37, .iconst 2, 1), (38, .if_icmp .le 5, 3), (41, .iconst (-1), 1), (42, .ireturn, 1), (43, .iload_n 1, 1), (44, .i2l, 1), (45, .lstore 5, 2), (47, .iconst 0, 1), (48, .istore 7, 2), (50, .iconst 0, 1), (51, .istore 8, 2), (53, .iconst 0, 1), (54, .istore 9, 2), (56, .iconst 0, 1), (57, .istore 10, 2), (59, .iload 10, 2), (61, .iload_n 2, 1), (62, .if_icmp .ge 54, 3), (65, .aload_n 0, 1), (66, .lload 5, 2), (68, .iload_n 3, 1), (69, .invokevirtual 295, 3), (72, .lstore 5, 2), (74, .iload 7, 2), (76, .aload_n 0, 1), (77, .getfield 52, 3), (80, .getfield 220, 3), (83, .iadd, 1), (84, .istore 7, 2), (86, .iload 8, 2), (88, .aload_n 0, 1), (89, .getfield 52, 3), (92, .getfield 203, 3), (95, .iadd, 1), (96, .istore 8, 2), (98, .iload 9, 2), (100, .aload_n 0, 1), (101, .getfield 52, 3), (104, .getfield 299, 3), (107, .iadd, 1), (108, .istore 9, 2), (110, .iinc 10 1, 3), (113, .goto (-54), 3), (116, .iload 4, 2), (118, .ifCond .ne 12, 3), (121, .iconst 0, 1), (122, .iload 7, 2), (124, .invokestatic 302, 3), (127, .goto 16, 3), (130, .iload 4, 2), (132, .iconst 1, 1), (133, .if_icmp .ne 8, 3), (136, .iload 8, 2), (138, .goto 5, 3), (141, .iload 9, 2), (143, .ireturn, 1)])
set_option maxRecDepth 100000 in
theorem cok_Le_years : CodeOK pLe_years := by unfold CodeOK; decide +kernel
theorem ht_Le_years : hTab pLe_years = none := ht_of rfl nl_10
theorem pl_Le_years : plainName (mY pLe_years).cls = true := np_10
theorem pm_Le_years : PlainM pLe_years 4 := ⟨nm_10.1, nm_10.2, pd_14, by decide, gt5 139 rfl rfl, gt1 1 rfl rfl⟩
theorem im_Le_years : Cond.instanceMethod (mY pLe_years) ∈ GW := gt5 137 rfl rfl
theorem sl_Le_years : Cond.selects (mY pLe_years).cls (mY pLe_years) (mY pLe_years) ∈ GW := gt5 138 rfl rfl
def pLe_mark : PM := (⟨RX10, "mark", "(IZ)Z"⟩, prog_1_method_31_code, 4, some .boolean, [(0, .iload_n 1, 1), (1, .ifCond .lt 12, 3), (4, .iload_n 1, 1), (5, .aload_n 0, 1), (6, .getfield 68, 3), (9, .arraylength, 1), (10, .if_icmp .lt 5, 3), (13, .iconst 0, 1), (14, .ireturn, 1), (15, .aload_n 0, 1), (16, .getfield 68, 3), (19, .iload_n 1, 1), (20, .aaload, 1), (21, .astore_n 3, 1), (22, .aload_n 3, 1), (23, .ifnull 14, 3), (26, .iload_n 2, 1), (27, .ifCond .eq 12, 3), (30, .aload_n 3, 1), (31, .getfield 307, 3), (34, .ifCond .ne 5, 3), (37, .iconst 0, 1), (38, .ireturn, 1), (39, .iload_n 2, 1), (40, .ifCond .eq 32, 3), (43, .aload_n 0, 1), (44, .getfield 48, 3), (47, .aload_n 3, 1), (48, .getfield 310, 3), (51, .invokevirtual 183, 3), (54, .aload_n 0, 1), (55, .getfield 29, 3), (58, .aload_n 3, 1), (59, .getfield 313, 3), (62, .invokevirtual 130, 3), (65, .aload_n 0, 1), (66, .invokevirtual 314, 3), (69, .goto 30, 3), (72, .aload_n 3, 1), (73, .getfield 310, 3), (76, .aload_n 0, 1), (77, .getfield 48, 3), (80, .invokevirtual 183, 3), (83, .aload_n 3, 1), (84, .getfield 313, 3), (87, .aload_n 0, 1), (88, .getfield 29, 3), (91, .invokevirtual 130, 3), (94, .aload_n 3, 1), (95, .iconst 1, 1), (96, .putfield 307, 3), (99, .iconst 1, 1), (100, .ireturn, 1)])
set_option maxRecDepth 100000 in
theorem cok_Le_mark : CodeOK pLe_mark := by unfold CodeOK; decide +kernel
theorem ht_Le_mark : hTab pLe_mark = none := ht_of rfl nl_10
theorem pl_Le_mark : plainName (mY pLe_mark).cls = true := np_10
theorem pm_Le_mark : PlainM pLe_mark 2 := ⟨nm_10.1, nm_10.2, pd_26, by decide, gt5 157 rfl rfl, gt1 1 rfl rfl⟩
theorem im_Le_mark : Cond.instanceMethod (mY pLe_mark) ∈ GW := gt5 155 rfl rfl
theorem sl_Le_mark : Cond.selects (mY pLe_mark).cls (mY pLe_mark) (mY pLe_mark) ∈ GW := gt5 156 rfl rfl
def pLe_score : PM := (⟨RX10, "score", "()I"⟩, prog_1_method_32_code, 1, some .int, [(0, .aload_n 0, 1), (1, .getfield 48, 3), (4, .getfield 220, 3), (7, .ireturn, 1)])
set_option maxRecDepth 100000 in
theorem cok_Le_score : CodeOK pLe_score := by unfold CodeOK; decide +kernel
theorem ht_Le_score : hTab pLe_score = none := ht_of rfl nl_10
theorem pl_Le_score : plainName (mY pLe_score).cls = true := np_10
theorem pm_Le_score : PlainM pLe_score 0 := ⟨nm_10.1, nm_10.2, pd_1, by decide, gt5 161 rfl rfl, gt1 1 rfl rfl⟩
theorem im_Le_score : Cond.instanceMethod (mY pLe_score) ∈ GW := gt5 159 rfl rfl
theorem sl_Le_score : Cond.selects (mY pLe_score).cls (mY pLe_score) (mY pLe_score) ∈ GW := gt5 160 rfl rfl
def pLe_count : PM := (⟨RX10, "count", "(I)I"⟩, prog_1_method_33_code, 2, some .int, [(0, .iload_n 1, 1), (1, .tableswitch 224 0 14 #[75, 83, 91, 99, 107, 115, 131, 147, 163, 171, 179, 187, 195, 200, 208], 75), (76, .aload_n 0, 1), (77, .getfield 19, 3), (80, .getfield 134, 3), (83, .ireturn, 1), (84, .aload_n 0, 1), (85, .getfield 48, 3), (88, .getfield 170, 3), (91, .ireturn, 1), (92, .aload_n 0, 1), (93, .getfield 48, 3), (96, .getfield 203, 3), (99, .ireturn, 1), (100, .aload_n 0, 1), (101, .getfield 48, 3), (104, .getfield 206, 3), (107, .ireturn, 1), (108, .aload_n 0, 1), (109, .getfield 48, 3), (112, .getfield 209, 3), (115, .ireturn, 1), (116, .aload_n 0, 1), (117, .getfield 48, 3), (120, .getfield 317, 3), (123, .ifCond .eq 7, 3), (126, .iconst 1, 1), (127, .goto 4, 3), (130, .iconst 0, 1), (131, .ireturn, 1), (132, .aload_n 0, 1), (133, .getfield 48, 3), (136, .getfield 249, 3), (139, .ifCond .eq 7, 3), (142, .iconst 1, 1), (143, .goto 4, 3), (146, .iconst 0, 1), (147, .ireturn, 1), (148, .aload_n 0, 1), (149, .getfield 48, 3), (152, .getfield 234, 3), (155, .ifCond .eq 7, 3), (158, .iconst 1, 1), (159, .goto 4, 3), (162, .iconst 0, 1), (163, .ireturn, 1), (164, .aload_n 0, 1), (165, .getfield 19, 3), (168, .getfield 267, 3), (171, .ireturn, 1), (172, .aload_n 0, 1), (173, .getfield 48, 3), (176, .getfield 320, 3), (179, .ireturn, 1), (180, .aload_n 0, 1), (181, .getfield 48, 3), (184, .getfield 299, 3), (187, .ireturn, 1), (188, .aload_n 0, 1), (189, .getfield 29, 3), (192, .getfield 189, 3), (195, .ireturn, 1), (196, .aload_n 0, 1), (197, .getfield 63, 3), (200, .ireturn, 1), (201, .aload_n 0, 1), (202, .getfield 12, 3), (205, .getfield 120, 3), (208, .ireturn, 1), (209, .aload_n 0, 1), (210, .getfield 48, 3), (213, .getfield 323, 3), (216, .ifCond .eq 7, 3), (219, .iconst 1, 1), (220, .goto 4, 3), (223, .iconst 0, 1), (224, .ireturn, 1), (225, .iconst (-1), 1), (226, .ireturn, 1)])
set_option maxRecDepth 100000 in
theorem cok_Le_count : CodeOK pLe_count := by unfold CodeOK; decide +kernel
theorem ht_Le_count : hTab pLe_count = none := ht_of rfl nl_10
theorem pl_Le_count : plainName (mY pLe_count).cls = true := np_10
theorem pm_Le_count : PlainM pLe_count 1 := ⟨nm_10.1, nm_10.2, pd_5, by decide, gt5 165 rfl rfl, gt1 1 rfl rfl⟩
theorem im_Le_count : Cond.instanceMethod (mY pLe_count) ∈ GW := gt5 163 rfl rfl
theorem sl_Le_count : Cond.selects (mY pLe_count).cls (mY pLe_count) (mY pLe_count) ∈ GW := gt5 164 rfl rfl
def pLe_give : PM := (⟨RX10, "give", "(I)I"⟩, prog_1_method_7_code, 2, some .int, [(0, .iload_n 1, 1), (1, .ifCond .lt 18, 3), (4, .iload_n 1, 1), (5, .iconst 4, 1), (6, .if_icmp .gt 13, 3), (9, .aload_n 0, 1), (10, .getfield 48, 3), (13, .invokevirtual 152, 3), (16, .ifCond .ne 11, 3), (19, .new 156, 3), (22, .dup, 1), (23, .invokespecial 158, 3), (26, .athrow, 1), (27, .aload_n 0, 1), (28, .invokevirtual 145, 3), (31, .aload_n 0, 1), (32, .getfield 48, 3), (35, .aload_n 0, 1), (36, .getfield 19, 3), (39, .iload_n 1, 1), (40, .invokevirtual 159, 3), (43, .ireturn, 1)])
set_option maxRecDepth 100000 in
theorem cok_Le_give : CodeOK pLe_give := by unfold CodeOK; decide +kernel
theorem ht_Le_give : hTab pLe_give = none := ht_of rfl nl_10
theorem pl_Le_give : plainName (mY pLe_give).cls = true := np_10
theorem pm_Le_give : PlainM pLe_give 1 := ⟨nm_10.1, nm_10.2, pd_5, by decide, gt5 173 rfl rfl, gt1 1 rfl rfl⟩
theorem im_Le_give : Cond.instanceMethod (mY pLe_give) ∈ GW := gt5 171 rfl rfl
theorem sl_Le_give : Cond.selects (mY pLe_give).cls (mY pLe_give) (mY pLe_give) ∈ GW := gt5 172 rfl rfl
def pNi_act : PM := (⟨RX3, "act", "(LLastsEvening$House;II)Z"⟩, prog_5_method_7_code, 4, some .boolean, [(0, .aload_n 0, 1), (1, .aload_n 1, 1), (2, .invokevirtual 68, 3), (5, .ifCond .eq 5, 3), (8, .iconst 0, 1), (9, .ireturn, 1), (10, .iload_n 2, 1), (11, .tableswitch 69 16 18 #[25, 44, 62], 25), (36, .aload_n 0, 1), (37, .aload_n 1, 1), (38, .iload_n 3, 1), (39, .invokevirtual 72, 3), (42, .ifCond .ne 5, 3), (45, .iconst 0, 1), (46, .ireturn, 1), (47, .aload_n 0, 1), (48, .aload_n 1, 1), (49, .iload_n 3, 1), (50, .invokevirtual 76, 3), (53, .iconst 1, 1), (54, .ireturn, 1), (55, .aload_n 0, 1), (56, .invokevirtual 80, 3), (59, .ifCond .ne 5, 3), (62, .iconst 0, 1), (63, .ireturn, 1), (64, .aload_n 0, 1), (65, .aload_n 1, 1), (66, .iload_n 3, 1), (67, .invokevirtual 84, 3), (70, .pop, 1), (71, .iconst 1, 1), (72, .ireturn, 1), (73, .aload_n 0, 1), (74, .aload_n 1, 1), (75, .invokevirtual 88, 3), (78, .iconst 1, 1), (79, .ireturn, 1), (80, .aload_n 0, 1), (81, .getfield 43, 3), (84, .ifCond .ne 5, 3), (87, .iconst 0, 1), (88, .ireturn, 1), (89, .aload_n 0, 1), (90, .invokevirtual 92, 3), (93, .iconst 1, 1), (94, .ireturn, 1)])
set_option maxRecDepth 100000 in
theorem cok_Ni_act : CodeOK pNi_act := by unfold CodeOK; decide +kernel
theorem ht_Ni_act : hTab pNi_act = none := ht_of rfl nl_3
theorem pl_Ni_act : plainName (mY pNi_act).cls = true := np_3
theorem pm_Ni_act : PlainM pNi_act 3 := ⟨nm_3.1, nm_3.2, pd_37, by decide, gt6 7 rfl rfl, gt1 10 rfl rfl⟩
theorem im_Ni_act : Cond.instanceMethod (mY pNi_act) ∈ GW := gt6 5 rfl rfl
theorem sl_Ni_act : Cond.selects (mY pNi_act).cls (mY pNi_act) (mY pNi_act) ∈ GW := gt6 6 rfl rfl
def pLe_judged : PM := (⟨RX10, "judged", "(I)I"⟩, prog_1_method_11_code, 7, some .int, [(0, .iload_n 1, 1), (1, .ifCond .lt 8, 3), (4, .iload_n 1, 1), (5, .iconst 2, 1), (6, .if_icmp .le 11, 3), (9, .new 156, 3), (12, .dup, 1), (13, .invokespecial 158, 3), (16, .athrow, 1), (17, .iconst (-1), 1), (18, .istore_n 2, 1), (19, .iconst (-1), 1), (20, .istore_n 3, 1), (21, .aload_n 0, 1), (22, .getfield 52, 3), (25, .aload_n 0, 1), (26, .getfield 19, 3), (29, .invokevirtual 186, 3), (32, .iconst 0, 1), (33, .istore 4, 2), (35, .iload 4, 2), (37, .aload_n 0, 1), (38, .getfield 29, 3), (41, .getfield 189, 3), (44, .if_icmp .ge 133, 3), (47, .aload_n 0, 1), (48, .getfield 29, 3), (51, .getfield 192, 3), (54, .iload 4, 2), (56, .invokestatic 196, 3), (59, .istore 5, 2), (61, .aload_n 0, 1), (62, .getfield 29, 3), (65, .getfield 200, 3), (68, .iload 4, 2), (70, .invokestatic 196, 3), (73, .istore 6, 2), (75, .iload_n 1, 1), (76, .iconst 1, 1), (77, .if_icmp .ne 68, 3), (80, .iload_n 3, 1), (81, .iconst (-1), 1), (82, .if_icmp .ne 63, 3), (85, .iload 5, 2), (87, .bipush 17, 2), (89, .if_icmp .ne 56, 3), (92, .aload_n 0, 1), (93, .getfield 52, 3), (96, .invokevirtual 152, 3), (99, .ifCond .eq 46, 3), (102, .iload 6, 2), (104, .aload_n 0, 1), (105, .getfield 77, 3), (108, .aload_n 0, 1), (109, .getfield 52, 3), (112, .getfield 170, 3), (115, .aload_n 0, 1), (116, .getfield 52, 3), (119, .getfield 203, 3), (122, .aload_n 0, 1), (123, .getfield 52, 3), (126, .getfield 206, 3), (129, .aload_n 0, 1), (130, .getfield 52, 3), (133, .getfield 209, 3), (136, .invokevirtual 212, 3), (139, .if_icmp .eq 6, 3), (142, .iload 4, 2), (144, .istore_n 3, 1), (145, .aload_n 0, 1), (146, .getfield 52, 3), (149, .aload_n 0, 1), (150, .getfield 19, 3), (153, .iload 5, 2), (155, .iload 6, 2), (157, .invokevirtual 216, 3), (160, .ifCond .ne 11, 3), (163, .iload_n 2, 1), (164, .iconst (-1), 1), (165, .if_icmp .ne 6, 3), (168, .iload 4, 2), (170, .istore_n 2, 1), (171, .iinc 4 1, 3), (174, .goto (-139), 3), (177, .iload_n 1, 1), (178, .ifCond .ne 7, 3), (181, .iload_n 2, 1), (182, .goto 19, 3), (185, .iload_n 1, 1), (186, .iconst 1, 1), (187, .if_icmp .ne 7, 3), (190, .iload_n 3, 1), (191, .goto 10, 3), (194, .aload_n 0, 1), (195, .getfield 52, 3), (198, .getfield 220, 3), (201, .ireturn, 1)])
set_option maxRecDepth 100000 in
theorem cok_Le_judged : CodeOK pLe_judged := by unfold CodeOK; decide +kernel
theorem ht_Le_judged : hTab pLe_judged = none := ht_of rfl nl_10
theorem pl_Le_judged : plainName (mY pLe_judged).cls = true := np_10
theorem pm_Le_judged : PlainM pLe_judged 1 := ⟨nm_10.1, nm_10.2, pd_5, by decide, gt6 2 rfl rfl, gt1 1 rfl rfl⟩
theorem im_Le_judged : Cond.instanceMethod (mY pLe_judged) ∈ GW := gt6 0 rfl rfl
theorem sl_Le_judged : Cond.selects (mY pLe_judged).cls (mY pLe_judged) (mY pLe_judged) ∈ GW := gt6 1 rfl rfl
def pLe_value : PM := (⟨RX10, "value", "(IIIZ)I"⟩, prog_1_method_12_code, 5, some .int, [(0, .iload_n 1, 1), (1, .ifCond .lt 44, 3), (4, .iload_n 1, 1), (5, .aload_n 0, 1), (6, .getfield 19, 3), (9, .getfield 134, 3), (12, .if_icmp .gt 33, 3), (15, .iload_n 2, 1), (16, .ifCond .lt 29, 3), (19, .iload_n 2, 1), (20, .aload_n 0, 1), (21, .getfield 19, 3), (24, .getfield 223, 3), (27, .if_icmp .gt 18, 3), (30, .iload_n 3, 1), (31, .ifCond .lt 14, 3), (34, .iload_n 3, 1), (35, .aload_n 0, 1), (36, .getfield 19, 3), (39, .getfield 226, 3), (42, .if_icmp .le 11, 3), (45, .new 156, 3), (48, .dup, 1), (49, .invokespecial 158, 3), (52, .athrow, 1), (53, .aload_n 0, 1), (54, .getfield 77, 3), (57, .iload_n 1, 1), (58, .iload_n 2, 1), (59, .iload_n 3, 1), (60, .iload 4, 2), (62, .invokevirtual 227, 3), (65, .ireturn, 1)])
set_option maxRecDepth 100000 in
theorem cok_Le_value : CodeOK pLe_value := by unfold CodeOK; decide +kernel
theorem ht_Le_value : hTab pLe_value = none := ht_of rfl nl_10
theorem pl_Le_value : plainName (mY pLe_value).cls = true := np_10
theorem pm_Le_value : PlainM pLe_value 4 := ⟨nm_10.1, nm_10.2, pd_18, by decide, gt6 18 rfl rfl, gt1 1 rfl rfl⟩
theorem im_Le_value : Cond.instanceMethod (mY pLe_value) ∈ GW := gt6 16 rfl rfl
theorem sl_Le_value : Cond.selects (mY pLe_value).cls (mY pLe_value) (mY pLe_value) ∈ GW := gt6 17 rfl rfl
def pVa_bestWorth : PM := (⟨RX9, "bestWorth", "(IIII)I"⟩, prog_11_method_5_code, 5, some .int, [(0, .aload_n 0, 1), (1, .iload_n 1, 1), (2, .iconst 1, 1), (3, .iadd, 1), (4, .invokevirtual 38, 3), (7, .aload_n 0, 1), (8, .iload_n 1, 1), (9, .iload_n 2, 1), (10, .iload_n 3, 1), (11, .iload 4, 2), (13, .invokevirtual 54, 3), (16, .ireturn, 1)])
set_option maxRecDepth 100000 in
theorem cok_Va_bestWorth : CodeOK pVa_bestWorth := by unfold CodeOK; decide +kernel
theorem ht_Va_bestWorth : hTab pVa_bestWorth = none := ht_of rfl nl_9
theorem pl_Va_bestWorth : plainName (mY pVa_bestWorth).cls = true := np_9
theorem pm_Va_bestWorth : PlainM pVa_bestWorth 4 := ⟨nm_9.1, nm_9.2, pd_14, by decide, gt6 29 rfl rfl, gt1 11 rfl rfl⟩
theorem im_Va_bestWorth : Cond.instanceMethod (mY pVa_bestWorth) ∈ GW := gt6 27 rfl rfl
theorem sl_Va_bestWorth : Cond.selects (mY pVa_bestWorth).cls (mY pVa_bestWorth) (mY pVa_bestWorth) ∈ GW := gt6 28 rfl rfl
def pLe_may : PM := (⟨RX10, "may", "(I)I"⟩, prog_1_method_14_code, 2, some .int, [(0, .iload_n 1, 1), (1, .ifCond .lt 15, 3), (4, .iload_n 1, 1), (5, .iconst 4, 1), (6, .if_icmp .gt 10, 3), (9, .aload_n 0, 1), (10, .invokevirtual 173, 3), (13, .ifCond .ne 11, 3), (16, .new 156, 3), (19, .dup, 1), (20, .invokespecial 158, 3), (23, .athrow, 1), (24, .aload_n 0, 1), (25, .getfield 77, 3), (28, .aload_n 0, 1), (29, .getfield 48, 3), (32, .getfield 170, 3), (35, .aload_n 0, 1), (36, .getfield 48, 3), (39, .getfield 203, 3), (42, .aload_n 0, 1), (43, .getfield 48, 3), (46, .getfield 206, 3), (49, .iload_n 1, 1), (50, .invokevirtual 231, 3), (53, .ireturn, 1)])
set_option maxRecDepth 100000 in
theorem cok_Le_may : CodeOK pLe_may := by unfold CodeOK; decide +kernel
theorem ht_Le_may : hTab pLe_may = none := ht_of rfl nl_10
theorem pl_Le_may : plainName (mY pLe_may).cls = true := np_10
theorem pm_Le_may : PlainM pLe_may 1 := ⟨nm_10.1, nm_10.2, pd_5, by decide, gt6 25 rfl rfl, gt1 1 rfl rfl⟩
theorem im_Le_may : Cond.instanceMethod (mY pLe_may) ∈ GW := gt6 23 rfl rfl
theorem sl_Le_may : Cond.selects (mY pLe_may).cls (mY pLe_may) (mY pLe_may) ∈ GW := gt6 24 rfl rfl
def pLe_mean : PM := (⟨RX10, "mean", "(I)I"⟩, prog_1_method_16_code, 2, some .int, [(0, .aload_n 0, 1), (1, .iload_n 1, 1), (2, .invokevirtual 245, 3), (5, .ifCond .eq 13, 3), (8, .aload_n 0, 1), (9, .getfield 48, 3), (12, .getfield 249, 3), (15, .ifCond .ne 11, 3), (18, .new 156, 3), (21, .dup, 1), (22, .invokespecial 158, 3), (25, .athrow, 1), (26, .aload_n 0, 1), (27, .getfield 92, 3), (30, .iload_n 1, 1), (31, .aload_n 0, 1), (32, .getfield 19, 3), (35, .getfield 134, 3), (38, .aload_n 0, 1), (39, .getfield 48, 3), (42, .invokevirtual 252, 3), (45, .ireturn, 1)])
set_option maxRecDepth 100000 in
theorem cok_Le_mean : CodeOK pLe_mean := by unfold CodeOK; decide +kernel
theorem ht_Le_mean : hTab pLe_mean = none := ht_of rfl nl_10
theorem pl_Le_mean : plainName (mY pLe_mean).cls = true := np_10
theorem pm_Le_mean : PlainM pLe_mean 1 := ⟨nm_10.1, nm_10.2, pd_5, by decide, gt6 36 rfl rfl, gt1 1 rfl rfl⟩
theorem im_Le_mean : Cond.instanceMethod (mY pLe_mean) ∈ GW := gt6 34 rfl rfl
theorem sl_Le_mean : Cond.selects (mY pLe_mean).cls (mY pLe_mean) (mY pLe_mean) ∈ GW := gt6 35 rfl rfl
def pMe_leftBy : PM := (⟨RX2, "leftBy", "(ILLastsEvening$Night;)I"⟩, prog_4_method_3_code, 3, some .int, [(0, .aload_n 0, 1), (1, .iconst 1, 1), (2, .putfield 22, 3), (5, .aload_n 0, 1), (6, .iload_n 1, 1), (7, .aload_n 0, 1), (8, .getfield 35, 3), (11, .getfield 43, 3), (14, .aload_n 2, 1), (15, .invokevirtual 39, 3), (18, .ireturn, 1)])
set_option maxRecDepth 100000 in
theorem cok_Me_leftBy : CodeOK pMe_leftBy := by unfold CodeOK; decide +kernel
theorem ht_Me_leftBy : hTab pMe_leftBy = none := ht_of rfl nl_2
theorem pl_Me_leftBy : plainName (mY pMe_leftBy).cls = true := np_2
theorem pm_Me_leftBy : PlainM pMe_leftBy 2 := ⟨nm_2.1, nm_2.2, pd_23, by decide, gt6 47 rfl rfl, gt1 12 rfl rfl⟩
theorem im_Me_leftBy : Cond.instanceMethod (mY pMe_leftBy) ∈ GW := gt6 45 rfl rfl
theorem sl_Me_leftBy : Cond.selects (mY pMe_leftBy).cls (mY pMe_leftBy) (mY pMe_leftBy) ∈ GW := gt6 46 rfl rfl
def pLe_left : PM := (⟨RX10, "left", "(I)I"⟩, prog_1_method_17_code, 2, some .int, [(0, .aload_n 0, 1), (1, .iload_n 1, 1), (2, .invokevirtual 245, 3), (5, .ifCond .eq 13, 3), (8, .aload_n 0, 1), (9, .getfield 48, 3), (12, .getfield 249, 3), (15, .ifCond .ne 11, 3), (18, .new 156, 3), (21, .dup, 1), (22, .invokespecial 158, 3), (25, .athrow, 1), (26, .aload_n 0, 1), (27, .getfield 92, 3), (30, .iload_n 1, 1), (31, .aload_n 0, 1), (32, .getfield 48, 3), (35, .invokevirtual 256, 3), (38, .ireturn, 1)])
set_option maxRecDepth 100000 in
theorem cok_Le_left : CodeOK pLe_left := by unfold CodeOK; decide +kernel
theorem ht_Le_left : hTab pLe_left = none := ht_of rfl nl_10
theorem pl_Le_left : plainName (mY pLe_left).cls = true := np_10
theorem pm_Le_left : PlainM pLe_left 1 := ⟨nm_10.1, nm_10.2, pd_5, by decide, gt6 43 rfl rfl, gt1 1 rfl rfl⟩
theorem im_Le_left : Cond.instanceMethod (mY pLe_left) ∈ GW := gt6 41 rfl rfl
theorem sl_Le_left : Cond.selects (mY pLe_left).cls (mY pLe_left) (mY pLe_left) ∈ GW := gt6 42 rfl rfl
def pLe_talk : PM := (⟨RX10, "talk", "()I"⟩, prog_1_method_24_code, 1, some .int, [(0, .aload_n 0, 1), (1, .invokevirtual 173, 3), (4, .ifCond .ne 11, 3), (7, .new 156, 3), (10, .dup, 1), (11, .invokespecial 158, 3), (14, .athrow, 1), (15, .aload_n 0, 1), (16, .getfield 77, 3), (19, .aload_n 0, 1), (20, .getfield 48, 3), (23, .getfield 170, 3), (26, .aload_n 0, 1), (27, .getfield 48, 3), (30, .getfield 203, 3), (33, .aload_n 0, 1), (34, .getfield 48, 3), (37, .getfield 206, 3), (40, .aload_n 0, 1), (41, .getfield 48, 3), (44, .getfield 234, 3), (47, .invokevirtual 227, 3), (50, .aload_n 0, 1), (51, .getfield 84, 3), (54, .aload_n 0, 1), (55, .getfield 48, 3), (58, .getfield 170, 3), (61, .aload_n 0, 1), (62, .getfield 48, 3), (65, .getfield 203, 3), (68, .aload_n 0, 1), (69, .getfield 48, 3), (72, .getfield 206, 3), (75, .iconst 0, 1), (76, .invokevirtual 227, 3), (79, .isub, 1), (80, .ireturn, 1)])
set_option maxRecDepth 100000 in
theorem cok_Le_talk : CodeOK pLe_talk := by unfold CodeOK; decide +kernel
theorem ht_Le_talk : hTab pLe_talk = none := ht_of rfl nl_10
theorem pl_Le_talk : plainName (mY pLe_talk).cls = true := np_10
theorem pm_Le_talk : PlainM pLe_talk 0 := ⟨nm_10.1, nm_10.2, pd_1, by decide, gt6 54 rfl rfl, gt1 1 rfl rfl⟩
theorem im_Le_talk : Cond.instanceMethod (mY pLe_talk) ∈ GW := gt6 52 rfl rfl
theorem sl_Le_talk : Cond.selects (mY pLe_talk).cls (mY pLe_talk) (mY pLe_talk) ∈ GW := gt6 53 rfl rfl
def pSh_setChances : PM := (⟨RX7, "setChances", "(ZI)V"⟩, prog_9_method_8_code, 7, none, [(0, .iconst 0, 1), (1, .istore_n 3, 1), (2, .iload_n 3, 1), (3, .bipush 6, 2), (5, .if_icmp .gt 18, 3), (8, .aload_n 0, 1), (9, .getfield 11, 3), (12, .iload_n 3, 1), (13, .iconst 0, 1), (14, .invokestatic 66, 3), (17, .iinc 3 1, 3), (20, .goto (-18), 3), (23, .iconst 0, 1), (24, .istore_n 3, 1), (25, .iload_n 3, 1), (26, .iconst 3, 1), (27, .if_icmp .gt 95, 3), (30, .aload_n 0, 1), (31, .getfield 21, 3), (34, .iconst 0, 1), (35, .iload_n 2, 1), (36, .iload_n 3, 1), (37, .invokevirtual 76, 3), (40, .istore 4, 2), (42, .iconst 0, 1), (43, .istore 5, 2), (45, .iload 5, 2), (47, .iconst 3, 1), (48, .if_icmp .gt 68, 3), (51, .iload_n 1, 1), (52, .ifCond .eq 17, 3), (55, .aload_n 0, 1), (56, .getfield 21, 3), (59, .iconst 0, 1), (60, .iload_n 2, 1), (61, .iload 5, 2), (63, .invokevirtual 76, 3), (66, .goto 14, 3), (69, .iload 5, 2), (71, .ifCond .ne 8, 3), (74, .bipush 10, 2), (76, .goto 4, 3), (79, .iconst 0, 1), (80, .istore 6, 2), (82, .aload_n 0, 1), (83, .getfield 11, 3), (86, .iload_n 3, 1), (87, .iload 5, 2), (89, .iadd, 1), (90, .aload_n 0, 1), (91, .getfield 11, 3), (94, .iload_n 3, 1), (95, .iload 5, 2), (97, .iadd, 1), (98, .invokestatic 42, 3), (101, .iload 4, 2), (103, .iload 6, 2), (105, .imul, 1), (106, .iadd, 1), (107, .invokestatic 66, 3), (110, .iinc 5 1, 3), (113, .goto (-68), 3), (116, .iinc 3 1, 3), (119, .goto (-94), 3), (122, .return_, 1)])
set_option maxRecDepth 100000 in
theorem cok_Sh_setChances : CodeOK pSh_setChances := by unfold CodeOK; decide +kernel
theorem ht_Sh_setChances : hTab pSh_setChances = none := ht_of rfl nl_7
theorem pl_Sh_setChances : plainName (mY pSh_setChances).cls = true := np_7
theorem pm_Sh_setChances : PlainM pSh_setChances 2 := ⟨nm_7.1, nm_7.2, pd_46, by decide, gt6 74 rfl rfl, gt1 14 rfl rfl⟩
theorem im_Sh_setChances : Cond.instanceMethod (mY pSh_setChances) ∈ GW := gt6 73 rfl rfl
theorem sl_Sh_setChances : Cond.selects (mY pSh_setChances).cls (mY pSh_setChances) (mY pSh_setChances) ∈ GW := gtS 48 rfl rfl
def pSh_plainGreatest : PM := (⟨RX7, "plainGreatest", "(III)I"⟩, prog_9_method_10_code, 7, some .int, [(0, .iconst 0, 1), (1, .istore 4, 2), (3, .iconst 0, 1), (4, .istore 5, 2), (6, .iload 5, 2), (8, .iconst 3, 1), (9, .if_icmp .gt 68, 3), (12, .sipush 1000, 3), (15, .aload_n 0, 1), (16, .getfield 21, 3), (19, .iload_n 1, 1), (20, .iload_n 2, 1), (21, .iconst 0, 1), (22, .iload_n 3, 1), (23, .iload 5, 2), (25, .invokevirtual 100, 3), (28, .imul, 1), (29, .aload_n 0, 1), (30, .getfield 18, 3), (33, .iload_n 2, 1), (34, .aload_n 0, 1), (35, .getfield 21, 3), (38, .iload_n 2, 1), (39, .iload_n 3, 1), (40, .iload 5, 2), (42, .invokevirtual 104, 3), (45, .isub, 1), (46, .invokestatic 42, 3), (49, .iadd, 1), (50, .istore 6, 2), (52, .iload 5, 2), (54, .ifCond .ne 8, 3), (57, .iload 6, 2), (59, .goto 10, 3), (62, .iload 4, 2), (64, .iload 6, 2), (66, .invokestatic 70, 3), (69, .istore 4, 2), (71, .iinc 5 1, 3), (74, .goto (-68), 3), (77, .iload 4, 2), (79, .ireturn, 1)])
set_option maxRecDepth 100000 in
theorem cok_Sh_plainGreatest : CodeOK pSh_plainGreatest := by unfold CodeOK; decide +kernel
theorem ht_Sh_plainGreatest : hTab pSh_plainGreatest = none := ht_of rfl nl_7
theorem pl_Sh_plainGreatest : plainName (mY pSh_plainGreatest).cls = true := np_7
theorem pm_Sh_plainGreatest : PlainM pSh_plainGreatest 3 := ⟨nm_7.1, nm_7.2, pd_11, by decide, gt6 82 rfl rfl, gt1 14 rfl rfl⟩
theorem im_Sh_plainGreatest : Cond.instanceMethod (mY pSh_plainGreatest) ∈ GW := gt6 81 rfl rfl
theorem sl_Sh_plainGreatest : Cond.selects (mY pSh_plainGreatest).cls (mY pSh_plainGreatest) (mY pSh_plainGreatest) ∈ GW := gtS 50 rfl rfl
def pSh_plainMean : PM := (⟨RX7, "plainMean", "(II)I"⟩, prog_9_method_9_code, 7, some .int, [(0, .lconst 0, 1), (1, .lstore_n 3, 1), (2, .iconst 0, 1), (3, .istore 5, 2), (5, .iload 5, 2), (7, .bipush 6, 2), (9, .if_icmp .gt 41, 3), (12, .aload_n 0, 1), (13, .getfield 11, 3), (16, .iload 5, 2), (18, .invokestatic 42, 3), (21, .istore 6, 2), (23, .iload 6, 2), (25, .ifCond .le 19, 3), (28, .lload_n 3, 1), (29, .iload 6, 2), (31, .i2l, 1), (32, .aload_n 0, 1), (33, .iload_n 1, 1), (34, .iload_n 2, 1), (35, .iload 5, 2), (37, .invokevirtual 94, 3), (40, .i2l, 1), (41, .lmul, 1), (42, .ladd, 1), (43, .lstore_n 3, 1), (44, .iinc 5 1, 3), (47, .goto (-42), 3), (50, .lload_n 3, 1), (51, .ldc2_w 98, 3), (54, .ldiv, 1), (55, .l2i, 1), (56, .ireturn, 1)])
set_option maxRecDepth 100000 in
theorem cok_Sh_plainMean : CodeOK pSh_plainMean := by unfold CodeOK; decide +kernel
theorem ht_Sh_plainMean : hTab pSh_plainMean = none := ht_of rfl nl_7
theorem pl_Sh_plainMean : plainName (mY pSh_plainMean).cls = true := np_7
theorem pm_Sh_plainMean : PlainM pSh_plainMean 2 := ⟨nm_7.1, nm_7.2, pd_8, by decide, gt6 78 rfl rfl, gt1 14 rfl rfl⟩
theorem im_Sh_plainMean : Cond.instanceMethod (mY pSh_plainMean) ∈ GW := gt6 77 rfl rfl
theorem sl_Sh_plainMean : Cond.selects (mY pSh_plainMean).cls (mY pSh_plainMean) (mY pSh_plainMean) ∈ GW := gtS 49 rfl rfl
def pSh_apartOrOne : PM := (⟨RX7, "apartOrOne", "(ZIII)I"⟩, prog_9_method_7_code, 8, some .int, [(0, .iload_n 1, 1), (1, .ifCond .eq 10, 3), (4, .iload_n 3, 1), (5, .iload 4, 2), (7, .iadd, 1), (8, .goto 9, 3), (11, .iload_n 3, 1), (12, .iload 4, 2), (14, .invokestatic 70, 3), (17, .istore 5, 2), (19, .iconst 0, 1), (20, .istore 6, 2), (22, .iload 6, 2), (24, .iload 5, 2), (26, .if_icmp .gt 34, 3), (29, .aload_n 0, 1), (30, .getfield 15, 3), (33, .iload 6, 2), (35, .aload_n 0, 1), (36, .getfield 21, 3), (39, .aload_n 0, 1), (40, .getfield 21, 3), (43, .getfield 56, 3), (46, .iload 6, 2), (48, .invokevirtual 84, 3), (51, .invokestatic 66, 3), (54, .iinc 6 1, 3), (57, .goto (-35), 3), (60, .aload_n 0, 1), (61, .getfield 21, 3), (64, .getfield 56, 3), (67, .iconst 1, 1), (68, .isub, 1), (69, .istore 6, 2), (71, .iload 6, 2), (73, .iload_n 2, 1), (74, .if_icmp .lt 53, 3), (77, .aload_n 0, 1), (78, .invokevirtual 59, 3), (81, .aload_n 0, 1), (82, .iload_n 1, 1), (83, .iload 6, 2), (85, .invokevirtual 87, 3), (88, .iconst 0, 1), (89, .istore 7, 2), (91, .iload 7, 2), (93, .iload 5, 2), (95, .if_icmp .gt 26, 3), (98, .aload_n 0, 1), (99, .getfield 15, 3), (102, .iload 7, 2), (104, .aload_n 0, 1), (105, .iload 6, 2), (107, .iload 7, 2), (109, .invokevirtual 91, 3), (112, .invokestatic 66, 3), (115, .iinc 7 1, 3), (118, .goto (-27), 3), (121, .iinc 6 (-1), 3), (124, .goto (-53), 3), (127, .iload_n 1, 1), (128, .ifCond .eq 15, 3), (131, .aload_n 0, 1), (132, .getfield 15, 3), (135, .iload 5, 2), (137, .invokestatic 42, 3), (140, .goto 21, 3), (143, .aload_n 0, 1), (144, .getfield 15, 3), (147, .iload_n 3, 1), (148, .invokestatic 42, 3), (151, .aload_n 0, 1), (152, .getfield 15, 3), (155, .iload 4, 2), (157, .invokestatic 42, 3), (160, .iadd, 1), (161, .ireturn, 1)])
set_option maxRecDepth 100000 in
theorem cok_Sh_apartOrOne : CodeOK pSh_apartOrOne := by unfold CodeOK; decide +kernel
theorem ht_Sh_apartOrOne : hTab pSh_apartOrOne = none := ht_of rfl nl_7
theorem pl_Sh_apartOrOne : plainName (mY pSh_apartOrOne).cls = true := np_7
theorem pm_Sh_apartOrOne : PlainM pSh_apartOrOne 4 := ⟨nm_7.1, nm_7.2, pd_48, by decide, gt6 69 rfl rfl, gt1 14 rfl rfl⟩
theorem im_Sh_apartOrOne : Cond.instanceMethod (mY pSh_apartOrOne) ∈ GW := gt6 68 rfl rfl
theorem sl_Sh_apartOrOne : Cond.selects (mY pSh_apartOrOne).cls (mY pSh_apartOrOne) (mY pSh_apartOrOne) ∈ GW := gtS 47 rfl rfl
def pSh_overFence : PM := (⟨RX7, "overFence", "(III)I"⟩, prog_9_method_4_code, 5, some .int, [(0, .aload_n 0, 1), (1, .iconst 0, 1), (2, .iload_n 1, 1), (3, .iload_n 2, 1), (4, .iload_n 3, 1), (5, .invokevirtual 51, 3), (8, .istore 4, 2), (10, .aload_n 0, 1), (11, .iconst 1, 1), (12, .iload_n 1, 1), (13, .iload_n 2, 1), (14, .iload_n 3, 1), (15, .invokevirtual 51, 3), (18, .iload 4, 2), (20, .isub, 1), (21, .ireturn, 1)])
set_option maxRecDepth 100000 in
theorem cok_Sh_overFence : CodeOK pSh_overFence := by unfold CodeOK; decide +kernel
theorem ht_Sh_overFence : hTab pSh_overFence = none := ht_of rfl nl_7
theorem pl_Sh_overFence : plainName (mY pSh_overFence).cls = true := np_7
theorem pm_Sh_overFence : PlainM pSh_overFence 3 := ⟨nm_7.1, nm_7.2, pd_11, by decide, gt6 65 rfl rfl, gt1 14 rfl rfl⟩
theorem im_Sh_overFence : Cond.instanceMethod (mY pSh_overFence) ∈ GW := gt6 63 rfl rfl
theorem sl_Sh_overFence : Cond.selects (mY pSh_overFence).cls (mY pSh_overFence) (mY pSh_overFence) ∈ GW := gt6 64 rfl rfl
def pLe_fence : PM := (⟨RX10, "fence", "(I)I"⟩, prog_1_method_25_code, 2, some .int, [(0, .iload_n 1, 1), (1, .ifCond .lt 16, 3), (4, .iload_n 1, 1), (5, .bipush 120, 2), (7, .if_icmp .gt 10, 3), (10, .aload_n 0, 1), (11, .invokevirtual 173, 3), (14, .ifCond .ne 11, 3), (17, .new 156, 3), (20, .dup, 1), (21, .invokespecial 158, 3), (24, .athrow, 1), (25, .aload_n 0, 1), (26, .getfield 108, 3), (29, .aload_n 0, 1), (30, .getfield 48, 3), (33, .getfield 170, 3), (36, .aload_n 0, 1), (37, .getfield 48, 3), (40, .getfield 203, 3), (43, .iload_n 1, 1), (44, .invokevirtual 270, 3), (47, .ireturn, 1)])
set_option maxRecDepth 100000 in
theorem cok_Le_fence : CodeOK pLe_fence := by unfold CodeOK; decide +kernel
theorem ht_Le_fence : hTab pLe_fence = none := ht_of rfl nl_10
theorem pl_Le_fence : plainName (mY pLe_fence).cls = true := np_10
theorem pm_Le_fence : PlainM pLe_fence 1 := ⟨nm_10.1, nm_10.2, pd_5, by decide, gt6 61 rfl rfl, gt1 1 rfl rfl⟩
theorem im_Le_fence : Cond.instanceMethod (mY pLe_fence) ∈ GW := gt6 59 rfl rfl
theorem sl_Le_fence : Cond.selects (mY pLe_fence).cls (mY pLe_fence) (mY pLe_fence) ∈ GW := gt6 60 rfl rfl
def pLe_tonight : PM := (⟨RX10, "tonight", "()I"⟩, prog_1_method_27_code, 5, some .int, [(0, .aload_n 0, 1), (1, .invokevirtual 173, 3), (4, .ifCond .ne 11, 3), (7, .new 156, 3), (10, .dup, 1), (11, .invokespecial 158, 3), (14, .athrow, 1), (15, .aload_n 0, 1), (16, .getfield 81, 3), (19, .aload_n 0, 1), (20, .getfield 48, 3), (23, .getfield 170, 3), (26, .aload_n 0, 1), (27, .getfield 48, 3), (30, .getfield 203, 3), (33, .aload_n 0, 1), (34, .getfield 48, 3), (37, .getfield 206, 3), (40, .aload_n 0, 1), (41, .getfield 48, 3), (44, .getfield 234, 3), (47, .invokevirtual 227, 3), (50, .i2l, 1), (51, .lstore_n 1, 1), (52, .aload_n 0, 1), (53, .getfield 77, 3), (56, .aload_n 0, 1), (57, .getfield 48, 3), (60, .getfield 170, 3), (63, .aload_n 0, 1), (64, .getfield 48, 3), (67, .getfield 203, 3), (70, .aload_n 0, 1), (71, .getfield 48, 3), (74, .getfield 206, 3), (77, .aload_n 0, 1), (78, .getfield 48, 3), (81, .getfield 234, 3), (84, .invokevirtual 227, 3), (87, .i2l, 1), (88, .lstore_n 3, 1), (89, .lload_n 1, 1), (90, .aload_n 0, 1), (91, .getfield 48, 3), (94, .getfield 274, 3), (97, .i2l, 1), (98, .lmul, 1), (99, .lload_n 3, 1), (100, .ldc_w 263, 3), (103, .aload_n 0, 1), (104, .getfield 48, 3), (107, .getfield 274, 3), (110, .isub, 1), (111, .i2l, 1), (112, .lmul, 1), (113, .ladd, 1), (114, .ldc2_w 277, 3), (117, .ldiv, 1), (118, .l2i, 1), (119, .ireturn, 1)])
set_option maxRecDepth 100000 in
theorem cok_Le_tonight : CodeOK pLe_tonight := by unfold CodeOK; decide +kernel
theorem ht_Le_tonight : hTab pLe_tonight = none := ht_of rfl nl_10
theorem pl_Le_tonight : plainName (mY pLe_tonight).cls = true := np_10
theorem pm_Le_tonight : PlainM pLe_tonight 0 := ⟨nm_10.1, nm_10.2, pd_1, by decide, gt6 92 rfl rfl, gt1 1 rfl rfl⟩
theorem im_Le_tonight : Cond.instanceMethod (mY pLe_tonight) ∈ GW := gt6 90 rfl rfl
theorem sl_Le_tonight : Cond.selects (mY pLe_tonight).cls (mY pLe_tonight) (mY pLe_tonight) ∈ GW := gt6 91 rfl rfl
