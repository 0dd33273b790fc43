/-! THE LAW: its beginning, its loop, its end: tables -/
def tb_La : List en_I := [(0, .new 8, 3, []), (3, .dup, 4, []), (4, .invokespecial 19, 7, []), (7, .astore_n 1, 8, []), (8, .new 20, 11, []), (11, .dup, 12, []), (12, .invokespecial 22, 15, []), (15, .astore_n 2, 16, []), (16, .iconst 1, 17, []), (17, .newarray .long, 19, []), (19, .astore_n 3, 20, []), (20, .iconst 0, 21, []), (21, .istore 4, 23, [])]
set_option maxRecDepth 100000 in
theorem tk_La : ∀ q ∈ tb_La, decode cL_law q.1 = .ok (q.2.1, q.2.2.1 - q.1) ∧ en_ck q = true := by decide +kernel
theorem tn_La : ∀ q ∈ tb_La, ek_no q.2.1 = true := by decide +kernel
def mc_La : el_M := []
set_option maxRecDepth 100000 in
theorem mo_La : ∀ q ∈ mc_La, el_ck cL_law q := by decide +kernel
def t_La : en_T := ((7, 1067, 12058), tb_La, [], cn_L, [(19, 1, 1, 23, 1967, LF 0 f_X6_init), (22, 1, 1, 14, 1850, LF 24 f_X7_init)], [(8, 6, 6, [.null, .null, .null, .null, .null, .int 0]), (20, 7, 24, [.int 0, .null, .null, .null, .null, .null, .null, .int 0, .int 0, .null, .int 0, .null, .null, .int 0, .null, .null, .long 0, .null, .null, .int 0, .null, .int 0, .int 0, .int 0])], 0, some .boolean)
set_option maxRecDepth 100000 in
theorem tB_La (D : va_G) (dT : Nat → Nat) (l : Launch) (ny : String) : en_TB en_WD D vwCl dT l room_1 t_La RL ny cL_law := ⟨tk_La, fun s args meth h hn => ⟨fun _ h => absurd h List.not_mem_nil, co_L h args, List.forall_mem_cons.mpr ⟨en_mok_LF 0 (mk_X6_init (own := RL) h (Nat.le_of_ble_eq_true rfl) (Nat.le_of_ble_eq_true rfl) (Or.inl (en_wd h 76 (by decide +kernel) rfl args))), List.forall_mem_cons.mpr ⟨en_mok_LF 24 (mk_X7_init (own := RL) h (Nat.le_of_ble_eq_true rfl) (Nat.le_of_ble_eq_true rfl) (Or.inl (en_wd h 743 (by decide +kernel) rfl args))), fun _ h => absurd h List.not_mem_nil⟩⟩, List.forall_mem_cons.mpr ⟨⟨RX6, TX6, u_ws RX6 TX6 6, tyX6, rfl, en_lay h la_X6 args, fun _ h => h, tyX6_ok, en_wd h 74 (by decide +kernel) rfl args, en_wd h 75 (by decide +kernel) rfl args, en_wd h 59 (by decide +kernel) rfl args, by decide, rfl⟩, List.forall_mem_cons.mpr ⟨⟨RX7, TX7, u_ws RX7 TX7 24, tyX7, rfl, en_lay h la_X7 args, fun _ h => h, tyX7_ok, en_wd h 741 (by decide +kernel) rfl args, en_wd h 742 (by decide +kernel) rfl args, en_wd h 66 (by decide +kernel) rfl args, by decide, rfl⟩, fun _ h => absurd h List.not_mem_nil⟩⟩, Or.inl rfl, en_arr h args⟩⟩
def tb_Lb : List en_I := [(23, .iload 4, 25, []), (27, .bipush 6, 29, []), (29, .isub, 30, []), (30, .if_icmp .gt 1107, 33, [1137]), (1137, .iconst 1, 1138, []), (1138, .ireturn, 1139, [])]
set_option maxRecDepth 100000 in
theorem tk_Lb : ∀ q ∈ tb_Lb, decode cL_law q.1 = .ok (q.2.1, q.2.2.1 - q.1) ∧ en_ck q = true := by decide +kernel
theorem tn_Lb : ∀ q ∈ tb_Lb, ek_no q.2.1 = true := by decide +kernel
def mc_Lb : el_M := []
set_option maxRecDepth 100000 in
theorem mo_Lb : ∀ q ∈ mc_Lb, el_ck cL_law q := by decide +kernel
def t_Lb : en_T := ((7, 1067, 12058), tb_Lb, [], cn_L, [], [], 0, some .boolean)
set_option maxRecDepth 100000 in
theorem tB_Lb (D : va_G) (dT : Nat → Nat) (l : Launch) (ny : String) : en_TB en_WD D vwCl dT l room_1 t_Lb RL ny cL_law := ⟨tk_Lb, fun s args meth h hn => ⟨fun _ h => absurd h List.not_mem_nil, co_L h args, fun _ h => absurd h List.not_mem_nil, fun _ h => absurd h List.not_mem_nil, Or.inl rfl, en_arr h args⟩⟩
def tb_Lc : List en_I := [(37, .bipush 31, 39, []), (39, .iand, 40, []), (40, .tableswitch 1091 0 19 #[96, 145, 226, 291, 364, 401, 482, 551, 632, 657, 694, 774, 799, 824, 861, 898, 923, 972, 985, 1066], 136, [1131, 136, 185, 266, 331, 404, 441, 522, 591, 672, 697, 734, 814, 839, 864, 901, 938, 963, 1012, 1025, 1106]), (1131, .iinc 4 6, 1134, []), (1134, .goto (-1111), 1137, [23])]
set_option maxRecDepth 100000 in
theorem tk_Lc : ∀ q ∈ tb_Lc, decode cL_law q.1 = .ok (q.2.1, q.2.2.1 - q.1) ∧ en_ck q = true := by decide +kernel
theorem tn_Lc : ∀ q ∈ tb_Lc, ek_no q.2.1 = true := by decide +kernel
def mc_Lc : el_M := [(33, 0, 37)]
set_option maxRecDepth 100000 in
theorem mo_Lc : ∀ q ∈ mc_Lc, el_ck cL_law q := by decide +kernel
def t_Lc : en_T := ((7, 1067, 12058), tb_Lc, [], cn_L, [], [], 0, some .boolean)
set_option maxRecDepth 100000 in
theorem tB_Lc (D : va_G) (dT : Nat → Nat) (l : Launch) (ny : String) : en_TB en_WD D vwCl dT l room_1 t_Lc RL ny cL_law := ⟨tk_Lc, fun s args meth h hn => ⟨fun _ h => absurd h List.not_mem_nil, co_L h args, fun _ h => absurd h List.not_mem_nil, fun _ h => absurd h List.not_mem_nil, Or.inl rfl, en_arr h args⟩⟩
