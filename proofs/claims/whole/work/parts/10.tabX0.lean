def tb_X0_init : List en_I := [(0, .aload_n 0, 1, []), (1, .invokespecial 1, 4, []), (4, .aload_n 0, 5, []), (5, .lconst 0, 6, []), (6, .putfield 7, 9, []), (9, .return_, 10, [])]
set_option maxRecDepth 100000 in
theorem tk_X0_init : ∀ q ∈ tb_X0_init, decode cX0_init q.1 = .ok (q.2.1, q.2.2.1 - q.1) ∧ en_ck q = true := by decide +kernel
def tb_X0_start : List en_I := [(0, .aload_n 0, 1, []), (1, .lload_n 1, 2, []), (2, .putfield 7, 5, []), (5, .return_, 6, [])]
set_option maxRecDepth 100000 in
theorem tk_X0_start : ∀ q ∈ tb_X0_start, decode cX0_start q.1 = .ok (q.2.1, q.2.2.1 - q.1) ∧ en_ck q = true := by decide +kernel
def tb_X0_shuffle : List en_I := [(0, .iload_n 2, 1, []), (1, .iconst 1, 2, []), (2, .isub, 3, []), (3, .istore_n 3, 4, []), (4, .iload_n 3, 5, []), (5, .iconst 1, 6, []), (6, .if_icmp .lt 36, 9, [42]), (9, .aload_n 0, 10, []), (10, .iload_n 3, 11, []), (11, .iconst 1, 12, []), (12, .iadd, 13, []), (13, .invokevirtual 13, 16, []), (16, .istore 4, 18, []), (18, .aload_n 1, 19, []), (19, .iload_n 3, 20, []), (20, .iaload, 21, []), (21, .istore 5, 23, []), (23, .aload_n 1, 24, []), (24, .iload_n 3, 25, []), (25, .aload_n 1, 26, []), (26, .iload 4, 28, []), (28, .iaload, 29, []), (29, .iastore, 30, []), (30, .aload_n 1, 31, []), (31, .iload 4, 33, []), (33, .iload 5, 35, []), (35, .iastore, 36, []), (36, .iinc 3 (-1), 39, []), (39, .goto (-35), 42, [4]), (42, .return_, 43, [])]
set_option maxRecDepth 100000 in
theorem tk_X0_shuffle : ∀ q ∈ tb_X0_shuffle, decode cX0_shuffle q.1 = .ok (q.2.1, q.2.2.1 - q.1) ∧ en_ck q = true := by decide +kernel
def tb_X0_draw : List en_I := [(0, .aload_n 0, 1, []), (1, .aload_n 0, 2, []), (2, .getfield 7, 5, []), (5, .ldc2_w 17, 8, []), (8, .lmul, 9, []), (9, .ldc2_w 19, 12, []), (12, .ladd, 13, []), (13, .putfield 7, 16, []), (16, .iload_n 1, 17, []), (17, .ifCond .le 17, 20, [34]), (20, .aload_n 0, 21, []), (21, .getfield 7, 24, []), (24, .bipush 33, 26, []), (26, .lushr, 27, []), (27, .iload_n 1, 28, []), (28, .i2l, 29, []), (29, .lrem, 30, []), (30, .l2i, 31, []), (31, .goto 4, 34, [35]), (34, .iconst 0, 35, []), (35, .ireturn, 36, [])]
set_option maxRecDepth 100000 in
theorem tk_X0_draw : ∀ q ∈ tb_X0_draw, decode cX0_draw q.1 = .ok (q.2.1, q.2.2.1 - q.1) ∧ en_ck q = true := by decide +kernel
