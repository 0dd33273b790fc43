/-! THE LAW, case by case -/
abbrev lvW (i : Nat) : en_L := [(1, .ref 0), (2, .ref 24), (3, .ref 39), (4, .int (nI i))]
def tb_L0 : List en_I := [(136, .aload_n 1, 137, []), (155, .invokevirtual 23, 158, []), (158, .aload_n 2, 159, []), (177, .invokevirtual 26, 180, []), (180, .if_icmp .eq 951, 183, [1131]), (183, .iconst 0, 184, []), (184, .ireturn, 185, [])]
set_option maxRecDepth 100000 in
theorem tk_L0 : ∀ q ∈ tb_L0, decode cL_law q.1 = .ok (q.2.1, q.2.2.1 - q.1) ∧ en_ck q = true := by decide +kernel
theorem tn_L0 : ∀ q ∈ tb_L0, ek_no q.2.1 = true := by decide +kernel
def mc_L0 : el_M := [(137, 1, 143), (143, 2, 149), (149, 3, 155), (159, 1, 165), (165, 2, 171), (171, 3, 177)]
set_option maxRecDepth 100000 in
theorem mo_L0 : ∀ q ∈ mc_L0, el_ck cL_law q := by decide +kernel
def t_L0 : en_T := ((7, 1067, 12058), tb_L0, [], cn_L, [(23, 4, 8, 0, 0, LF 0 f_X6_row), (26, 4, 9, 0, 0, LF 24 f_X7_row)], [], 0, some .boolean)
set_option maxRecDepth 100000 in
theorem tB_L0 (D : va_G) (dT : Nat → Nat) (l : Launch) (ny : String) : en_TB en_WD D vwCl dT l room_1 t_L0 RL ny cL_law := ⟨tk_L0, fun s args meth h hn => ⟨fun _ h => absurd h List.not_mem_nil, co_L h args, List.forall_mem_cons.mpr ⟨en_mok_LF 0 (mk_X6_row (own := RL) h (Nat.le_of_ble_eq_true rfl) (Nat.le_of_ble_eq_true rfl) (Or.inl (en_wd h 263 (by decide +kernel) rfl args))), List.forall_mem_cons.mpr ⟨en_mok_LF 24 (mk_X7_row (own := RL) h (Nat.le_of_ble_eq_true rfl) (Nat.le_of_ble_eq_true rfl) (Or.inl (en_wd h 824 (by decide +kernel) rfl args))), fun _ h => absurd h List.not_mem_nil⟩⟩, fun _ h => absurd h List.not_mem_nil, Or.inl rfl, en_arr h args⟩⟩
set_option maxHeartbeats 4000000 in
set_option maxRecDepth 100000 in
theorem lc_0 {i : Nat} {xs : Nat → Int32} {G : Option Value → List va_E → Prop} {OK : en_K} (R : el_Run t_L0 mc_L0 G i xs OK) {S M : Sx} {o : Nat → Int64} (hr : RelE S M) {cs sl : Nat} (hend : ∀ S M, RelE S M → OK cs sl 1131 (lvW i) [] (WL S M o)) : OK cs sl 136 (lvW i) [] (WL S M o) := by
  refine R [1131] 80 _ _ _ _ _ _ ?_
  conv => whnf
  refine ⟨rfl, ?_⟩
  conv => whnf
  refine ⟨rfl, ?_⟩
  conv => whnf
  refine ⟨rfl, ?_⟩
  conv => whnf
  refine fun _ => call1 (S := S) (M := M) (o := o) (pc_row _ _ _) mx_row rfl hr (fun a S1 tk => ?_)
  conv => whnf
  refine ⟨rfl, ?_⟩
  conv => whnf
  refine ⟨rfl, ?_⟩
  conv => whnf
  refine ⟨rfl, ?_⟩
  conv => whnf
  refine fun _ => call2 mm_row rfl tk (fun S2 M2 hr2 => ?_)
  conv => whnf
  refine ⟨fun _ => ?_, fun z => absurd rfl z⟩
  conv => whnf
  exact hend S2 M2 hr2
def tb_L1 : List en_I := [(185, .aload_n 1, 186, []), (204, .i2l, 205, []), (205, .bipush 32, 207, []), (207, .lshl, 208, []), (214, .i2l, 215, []), (215, .ldc2_w 27, 218, []), (218, .land, 219, []), (219, .lor, 220, []), (220, .invokevirtual 29, 223, []), (223, .aload_n 2, 224, []), (242, .i2l, 243, []), (243, .bipush 32, 245, []), (245, .lshl, 246, []), (252, .i2l, 253, []), (253, .ldc2_w 27, 256, []), (256, .land, 257, []), (257, .lor, 258, []), (258, .invokevirtual 33, 261, []), (261, .if_icmp .eq 870, 264, [1131]), (264, .iconst 0, 265, []), (265, .ireturn, 266, [])]
set_option maxRecDepth 100000 in
theorem tk_L1 : ∀ q ∈ tb_L1, decode cL_law q.1 = .ok (q.2.1, q.2.2.1 - q.1) ∧ en_ck q = true := by decide +kernel
theorem tn_L1 : ∀ q ∈ tb_L1, ek_no q.2.1 = true := by decide +kernel
def mc_L1 : el_M := [(186, 1, 192), (192, 2, 198), (198, 3, 204), (208, 4, 214), (224, 1, 230), (230, 2, 236), (236, 3, 242), (246, 4, 252)]
set_option maxRecDepth 100000 in
theorem mo_L1 : ∀ q ∈ mc_L1, el_ck cL_law q := by decide +kernel
def t_L1 : en_T := ((7, 1067, 12058), tb_L1, [], cn_L, [(29, 4, 8, 0, 0, LF 0 f_X6_column), (33, 4, 9, 0, 0, LF 24 f_X7_column)], [], 0, some .boolean)
set_option maxRecDepth 100000 in
theorem tB_L1 (D : va_G) (dT : Nat → Nat) (l : Launch) (ny : String) : en_TB en_WD D vwCl dT l room_1 t_L1 RL ny cL_law := ⟨tk_L1, fun s args meth h hn => ⟨fun _ h => absurd h List.not_mem_nil, co_L h args, List.forall_mem_cons.mpr ⟨en_mok_LF 0 (mk_X6_column (own := RL) h (Nat.le_of_ble_eq_true rfl) (Nat.le_of_ble_eq_true rfl) (Or.inl (en_wd h 275 (by decide +kernel) rfl args))), List.forall_mem_cons.mpr ⟨en_mok_LF 24 (mk_X7_column (own := RL) h (Nat.le_of_ble_eq_true rfl) (Nat.le_of_ble_eq_true rfl) (Or.inl (en_wd h 832 (by decide +kernel) rfl args))), fun _ h => absurd h List.not_mem_nil⟩⟩, fun _ h => absurd h List.not_mem_nil, Or.inl rfl, en_arr h args⟩⟩
set_option maxHeartbeats 4000000 in
set_option maxRecDepth 100000 in
theorem lc_1 {i : Nat} {xs : Nat → Int32} {G : Option Value → List va_E → Prop} {OK : en_K} (R : el_Run t_L1 mc_L1 G i xs OK) {S M : Sx} {o : Nat → Int64} (hr : RelE S M) {cs sl : Nat} (hend : ∀ S M, RelE S M → OK cs sl 1131 (lvW i) [] (WL S M o)) : OK cs sl 185 (lvW i) [] (WL S M o) := by
  refine R [1131] 80 _ _ _ _ _ _ ?_
  conv => whnf
  refine ⟨rfl, ?_⟩
  conv => whnf
  refine ⟨rfl, ?_⟩
  conv => whnf
  refine ⟨rfl, ?_⟩
  conv => whnf
  refine ⟨rfl, ?_⟩
  conv => whnf
  refine fun _ => call1 (S := S) (M := M) (o := o) (pc_column _ _ _) mx_column rfl hr (fun a S1 tk => ?_)
  conv => whnf
  refine ⟨rfl, ?_⟩
  conv => whnf
  refine ⟨rfl, ?_⟩
  conv => whnf
  refine ⟨rfl, ?_⟩
  conv => whnf
  refine ⟨rfl, ?_⟩
  conv => whnf
  refine fun _ => call2 mm_column rfl tk (fun S2 M2 hr2 => ?_)
  conv => whnf
  refine ⟨fun _ => ?_, fun z => absurd rfl z⟩
  conv => whnf
  exact hend S2 M2 hr2
def tb_L2 : List en_I := [(266, .aload_n 1, 267, []), (285, .ifCond .eq 7, 288, [292]), (288, .iconst 1, 289, []), (289, .goto 4, 292, [293]), (292, .iconst 0, 293, []), (293, .invokevirtual 34, 296, []), (296, .aload_n 2, 297, []), (315, .ifCond .eq 7, 318, [322]), (318, .iconst 1, 319, []), (319, .goto 4, 322, [323]), (322, .iconst 0, 323, []), (323, .invokevirtual 38, 326, []), (326, .if_icmp .eq 805, 329, [1131]), (329, .iconst 0, 330, []), (330, .ireturn, 331, [])]
set_option maxRecDepth 100000 in
theorem tk_L2 : ∀ q ∈ tb_L2, decode cL_law q.1 = .ok (q.2.1, q.2.2.1 - q.1) ∧ en_ck q = true := by decide +kernel
theorem tn_L2 : ∀ q ∈ tb_L2, ek_no q.2.1 = true := by decide +kernel
def mc_L2 : el_M := [(267, 1, 273), (273, 2, 279), (279, 3, 285), (297, 1, 303), (303, 2, 309), (309, 3, 315)]
set_option maxRecDepth 100000 in
theorem mo_L2 : ∀ q ∈ mc_L2, el_ck cL_law q := by decide +kernel
def t_L2 : en_T := ((7, 1067, 12058), tb_L2, [], cn_L, [(34, 4, 8, 0, 0, LF 0 f_X6_word), (38, 4, 9, 0, 0, LF 24 f_X7_word)], [], 0, some .boolean)
set_option maxRecDepth 100000 in
theorem tB_L2 (D : va_G) (dT : Nat → Nat) (l : Launch) (ny : String) : en_TB en_WD D vwCl dT l room_1 t_L2 RL ny cL_law := ⟨tk_L2, fun s args meth h hn => ⟨fun _ h => absurd h List.not_mem_nil, co_L h args, List.forall_mem_cons.mpr ⟨en_mok_LF 0 (mk_X6_word (own := RL) h (Nat.le_of_ble_eq_true rfl) (Nat.le_of_ble_eq_true rfl) (Or.inl (en_wd h 284 (by decide +kernel) rfl args))), List.forall_mem_cons.mpr ⟨en_mok_LF 24 (mk_X7_word (own := RL) h (Nat.le_of_ble_eq_true rfl) (Nat.le_of_ble_eq_true rfl) (Or.inl (en_wd h 840 (by decide +kernel) rfl args))), fun _ h => absurd h List.not_mem_nil⟩⟩, fun _ h => absurd h List.not_mem_nil, Or.inl rfl, en_arr h args⟩⟩
set_option maxHeartbeats 4000000 in
set_option maxRecDepth 100000 in
theorem lc_2 {i : Nat} {xs : Nat → Int32} {G : Option Value → List va_E → Prop} {OK : en_K} (R : el_Run t_L2 mc_L2 G i xs OK) {S M : Sx} {o : Nat → Int64} (hr : RelE S M) {cs sl : Nat} (hend : ∀ S M, RelE S M → OK cs sl 1131 (lvW i) [] (WL S M o)) : OK cs sl 266 (lvW i) [] (WL S M o) := by
  refine R [1131] 80 _ _ _ _ _ _ ?_
  conv => whnf
  refine ⟨rfl, ?_⟩
  conv => whnf
  refine ⟨rfl, ?_⟩
  conv => whnf
  refine ⟨rfl, ?_⟩
  conv => whnf
  refine ⟨fun c => ?_, fun c => ?_⟩
  · skip
    conv => whnf
    refine fun _ => call1 (S := S) (M := M) (o := o) (pc_word _ _ _) mx_word rfl hr (fun a S1 tk => ?_)
    conv => whnf
    refine ⟨rfl, ?_⟩
    conv => whnf
    refine ⟨rfl, ?_⟩
    conv => whnf
    refine ⟨rfl, ?_⟩
    conv => whnf
    refine ⟨fun c2 => ?_, fun c2 => absurd c c2⟩
    conv => whnf
    refine fun _ => call2 mm_word rfl tk (fun S2 M2 hr2 => ?_)
    conv => whnf
    refine ⟨fun _ => ?_, fun z => absurd rfl z⟩
    conv => whnf
    exact hend S2 M2 hr2
  · skip
    conv => whnf
    refine fun _ => call1 (S := S) (M := M) (o := o) (pc_word _ _ _) mx_word rfl hr (fun a S1 tk => ?_)
    conv => whnf
    refine ⟨rfl, ?_⟩
    conv => whnf
    refine ⟨rfl, ?_⟩
    conv => whnf
    refine ⟨rfl, ?_⟩
    conv => whnf
    refine ⟨fun c2 => absurd c2 c, fun c2 => ?_⟩
    conv => whnf
    refine fun _ => call2 mm_word rfl tk (fun S2 M2 hr2 => ?_)
    conv => whnf
    refine ⟨fun _ => ?_, fun z => absurd rfl z⟩
    conv => whnf
    exact hend S2 M2 hr2
def tb_L3 : List en_I := [(331, .aload_n 1, 332, []), (362, .invokevirtual 39, 365, []), (365, .aload_n 2, 366, []), (396, .invokevirtual 43, 399, []), (399, .if_icmp .eq 732, 402, [1131]), (402, .iconst 0, 403, []), (403, .ireturn, 404, [])]
set_option maxRecDepth 100000 in
theorem tk_L3 : ∀ q ∈ tb_L3, decode cL_law q.1 = .ok (q.2.1, q.2.2.1 - q.1) ∧ en_ck q = true := by decide +kernel
theorem tn_L3 : ∀ q ∈ tb_L3, ek_no q.2.1 = true := by decide +kernel
def mc_L3 : el_M := [(332, 1, 338), (338, 2, 344), (344, 3, 350), (350, 4, 356), (356, 5, 362), (366, 1, 372), (372, 2, 378), (378, 3, 384), (384, 4, 390), (390, 5, 396)]
set_option maxRecDepth 100000 in
theorem mo_L3 : ∀ q ∈ mc_L3, el_ck cL_law q := by decide +kernel
def t_L3 : en_T := ((7, 1067, 12058), tb_L3, [], cn_L, [(39, 6, 8, 0, 0, LF 0 f_X6_parts), (43, 6, 9, 0, 0, LF 24 f_X7_parts)], [], 0, some .boolean)
set_option maxRecDepth 100000 in
theorem tB_L3 (D : va_G) (dT : Nat → Nat) (l : Launch) (ny : String) : en_TB en_WD D vwCl dT l room_1 t_L3 RL ny cL_law := ⟨tk_L3, fun s args meth h hn => ⟨fun _ h => absurd h List.not_mem_nil, co_L h args, List.forall_mem_cons.mpr ⟨en_mok_LF 0 (mk_X6_parts (own := RL) h (Nat.le_of_ble_eq_true rfl) (Nat.le_of_ble_eq_true rfl) (Or.inl (en_wd h 295 (by decide +kernel) rfl args))), List.forall_mem_cons.mpr ⟨en_mok_LF 24 (mk_X7_parts (own := RL) h (Nat.le_of_ble_eq_true rfl) (Nat.le_of_ble_eq_true rfl) (Or.inl (en_wd h 848 (by decide +kernel) rfl args))), fun _ h => absurd h List.not_mem_nil⟩⟩, fun _ h => absurd h List.not_mem_nil, Or.inl rfl, en_arr h args⟩⟩
set_option maxHeartbeats 4000000 in
set_option maxRecDepth 100000 in
theorem lc_3 {i : Nat} {xs : Nat → Int32} {G : Option Value → List va_E → Prop} {OK : en_K} (R : el_Run t_L3 mc_L3 G i xs OK) {S M : Sx} {o : Nat → Int64} (hr : RelE S M) {cs sl : Nat} (hend : ∀ S M, RelE S M → OK cs sl 1131 (lvW i) [] (WL S M o)) : OK cs sl 331 (lvW i) [] (WL S M o) := by
  refine R [1131] 80 _ _ _ _ _ _ ?_
  conv => whnf
  refine ⟨rfl, ?_⟩
  conv => whnf
  refine ⟨rfl, ?_⟩
  conv => whnf
  refine ⟨rfl, ?_⟩
  conv => whnf
  refine ⟨rfl, ?_⟩
  conv => whnf
  refine ⟨rfl, ?_⟩
  conv => whnf
  refine fun _ => call1 (S := S) (M := M) (o := o) (pc_parts _ _ _ _ _) mx_parts rfl hr (fun a S1 tk => ?_)
  conv => whnf
  refine ⟨rfl, ?_⟩
  conv => whnf
  refine ⟨rfl, ?_⟩
  conv => whnf
  refine ⟨rfl, ?_⟩
  conv => whnf
  refine ⟨rfl, ?_⟩
  conv => whnf
  refine ⟨rfl, ?_⟩
  conv => whnf
  refine fun _ => call2 mm_parts rfl tk (fun S2 M2 hr2 => ?_)
  conv => whnf
  refine ⟨fun _ => ?_, fun z => absurd rfl z⟩
  conv => whnf
  exact hend S2 M2 hr2
def tb_L4 : List en_I := [(404, .aload_n 1, 405, []), (417, .invokevirtual 44, 420, []), (420, .aload_n 2, 421, []), (433, .invokevirtual 48, 436, []), (436, .if_icmp .eq 695, 439, [1131]), (439, .iconst 0, 440, []), (440, .ireturn, 441, [])]
set_option maxRecDepth 100000 in
theorem tk_L4 : ∀ q ∈ tb_L4, decode cL_law q.1 = .ok (q.2.1, q.2.2.1 - q.1) ∧ en_ck q = true := by decide +kernel
theorem tn_L4 : ∀ q ∈ tb_L4, ek_no q.2.1 = true := by decide +kernel
def mc_L4 : el_M := [(405, 1, 411), (411, 2, 417), (421, 1, 427), (427, 2, 433)]
set_option maxRecDepth 100000 in
theorem mo_L4 : ∀ q ∈ mc_L4, el_ck cL_law q := by decide +kernel
def t_L4 : en_T := ((7, 1067, 12058), tb_L4, [], cn_L, [(44, 3, 8, 0, 0, LF 0 f_X6_quota), (48, 3, 9, 0, 0, LF 24 f_X7_quota)], [], 0, some .boolean)
set_option maxRecDepth 100000 in
theorem tB_L4 (D : va_G) (dT : Nat → Nat) (l : Launch) (ny : String) : en_TB en_WD D vwCl dT l room_1 t_L4 RL ny cL_law := ⟨tk_L4, fun s args meth h hn => ⟨fun _ h => absurd h List.not_mem_nil, co_L h args, List.forall_mem_cons.mpr ⟨en_mok_LF 0 (mk_X6_quota (own := RL) h (Nat.le_of_ble_eq_true rfl) (Nat.le_of_ble_eq_true rfl) (Or.inl (en_wd h 306 (by decide +kernel) rfl args))), List.forall_mem_cons.mpr ⟨en_mok_LF 24 (mk_X7_quota (own := RL) h (Nat.le_of_ble_eq_true rfl) (Nat.le_of_ble_eq_true rfl) (Or.inl (en_wd h 852 (by decide +kernel) rfl args))), fun _ h => absurd h List.not_mem_nil⟩⟩, fun _ h => absurd h List.not_mem_nil, Or.inl rfl, en_arr h args⟩⟩
set_option maxHeartbeats 4000000 in
set_option maxRecDepth 100000 in
theorem lc_4 {i : Nat} {xs : Nat → Int32} {G : Option Value → List va_E → Prop} {OK : en_K} (R : el_Run t_L4 mc_L4 G i xs OK) {S M : Sx} {o : Nat → Int64} (hr : RelE S M) {cs sl : Nat} (hend : ∀ S M, RelE S M → OK cs sl 1131 (lvW i) [] (WL S M o)) : OK cs sl 404 (lvW i) [] (WL S M o) := by
  refine R [1131] 80 _ _ _ _ _ _ ?_
  conv => whnf
  refine ⟨rfl, ?_⟩
  conv => whnf
  refine ⟨rfl, ?_⟩
  conv => whnf
  refine fun _ => call1 (S := S) (M := M) (o := o) (pc_quota _ _) mx_quota rfl hr (fun a S1 tk => ?_)
  conv => whnf
  refine ⟨rfl, ?_⟩
  conv => whnf
  refine ⟨rfl, ?_⟩
  conv => whnf
  refine fun _ => call2 mm_quota rfl tk (fun S2 M2 hr2 => ?_)
  conv => whnf
  refine ⟨fun _ => ?_, fun z => absurd rfl z⟩
  conv => whnf
  exact hend S2 M2 hr2
def tb_L5 : List en_I := [(441, .aload_n 1, 442, []), (454, .i2l, 455, []), (455, .bipush 32, 457, []), (457, .lshl, 458, []), (464, .i2l, 465, []), (465, .ldc2_w 27, 468, []), (468, .land, 469, []), (469, .lor, 470, []), (476, .invokevirtual 49, 479, []), (479, .aload_n 2, 480, []), (492, .i2l, 493, []), (493, .bipush 32, 495, []), (495, .lshl, 496, []), (502, .i2l, 503, []), (503, .ldc2_w 27, 506, []), (506, .land, 507, []), (507, .lor, 508, []), (514, .invokevirtual 53, 517, []), (517, .if_icmp .eq 614, 520, [1131]), (520, .iconst 0, 521, []), (521, .ireturn, 522, [])]
set_option maxRecDepth 100000 in
theorem tk_L5 : ∀ q ∈ tb_L5, decode cL_law q.1 = .ok (q.2.1, q.2.2.1 - q.1) ∧ en_ck q = true := by decide +kernel
theorem tn_L5 : ∀ q ∈ tb_L5, ek_no q.2.1 = true := by decide +kernel
def mc_L5 : el_M := [(442, 1, 448), (448, 2, 454), (458, 3, 464), (470, 4, 476), (480, 1, 486), (486, 2, 492), (496, 3, 502), (508, 4, 514)]
set_option maxRecDepth 100000 in
theorem mo_L5 : ∀ q ∈ mc_L5, el_ck cL_law q := by decide +kernel
def t_L5 : en_T := ((7, 1067, 12058), tb_L5, [], cn_L, [(49, 4, 8, 0, 0, LF 0 f_X6_split), (53, 4, 9, 0, 0, LF 24 f_X7_split)], [], 0, some .boolean)
set_option maxRecDepth 100000 in
theorem tB_L5 (D : va_G) (dT : Nat → Nat) (l : Launch) (ny : String) : en_TB en_WD D vwCl dT l room_1 t_L5 RL ny cL_law := ⟨tk_L5, fun s args meth h hn => ⟨fun _ h => absurd h List.not_mem_nil, co_L h args, List.forall_mem_cons.mpr ⟨en_mok_LF 0 (mk_X6_split (own := RL) h (Nat.le_of_ble_eq_true rfl) (Nat.le_of_ble_eq_true rfl) (Or.inl (en_wd h 318 (by decide +kernel) rfl args))), List.forall_mem_cons.mpr ⟨en_mok_LF 24 (mk_X7_split (own := RL) h (Nat.le_of_ble_eq_true rfl) (Nat.le_of_ble_eq_true rfl) (Or.inl (en_wd h 860 (by decide +kernel) rfl args))), fun _ h => absurd h List.not_mem_nil⟩⟩, fun _ h => absurd h List.not_mem_nil, Or.inl rfl, en_arr h args⟩⟩
set_option maxHeartbeats 4000000 in
set_option maxRecDepth 100000 in
theorem lc_5 {i : Nat} {xs : Nat → Int32} {G : Option Value → List va_E → Prop} {OK : en_K} (R : el_Run t_L5 mc_L5 G i xs OK) {S M : Sx} {o : Nat → Int64} (hr : RelE S M) {cs sl : Nat} (hend : ∀ S M, RelE S M → OK cs sl 1131 (lvW i) [] (WL S M o)) : OK cs sl 441 (lvW i) [] (WL S M o) := by
  refine R [1131] 80 _ _ _ _ _ _ ?_
  conv => whnf
  refine ⟨rfl, ?_⟩
  conv => whnf
  refine ⟨rfl, ?_⟩
  conv => whnf
  refine ⟨rfl, ?_⟩
  conv => whnf
  refine ⟨rfl, ?_⟩
  conv => whnf
  refine fun _ => call1 (S := S) (M := M) (o := o) (pc_split _ _ _) mx_split rfl hr (fun a S1 tk => ?_)
  conv => whnf
  refine ⟨rfl, ?_⟩
  conv => whnf
  refine ⟨rfl, ?_⟩
  conv => whnf
  refine ⟨rfl, ?_⟩
  conv => whnf
  refine ⟨rfl, ?_⟩
  conv => whnf
  refine fun _ => call2 mm_split rfl tk (fun S2 M2 hr2 => ?_)
  conv => whnf
  refine ⟨fun _ => ?_, fun z => absurd rfl z⟩
  conv => whnf
  exact hend S2 M2 hr2
def tb_L6 : List en_I := [(522, .aload_n 1, 523, []), (535, .i2l, 536, []), (536, .bipush 32, 538, []), (538, .lshl, 539, []), (545, .i2l, 546, []), (546, .ldc2_w 27, 549, []), (549, .land, 550, []), (550, .lor, 551, []), (551, .invokevirtual 54, 554, []), (554, .aload_n 2, 555, []), (567, .i2l, 568, []), (568, .bipush 32, 570, []), (570, .lshl, 571, []), (577, .i2l, 578, []), (578, .ldc2_w 27, 581, []), (581, .land, 582, []), (582, .lor, 583, []), (583, .invokevirtual 58, 586, []), (586, .if_icmp .eq 545, 589, [1131]), (589, .iconst 0, 590, []), (590, .ireturn, 591, [])]
set_option maxRecDepth 100000 in
theorem tk_L6 : ∀ q ∈ tb_L6, decode cL_law q.1 = .ok (q.2.1, q.2.2.1 - q.1) ∧ en_ck q = true := by decide +kernel
theorem tn_L6 : ∀ q ∈ tb_L6, ek_no q.2.1 = true := by decide +kernel
def mc_L6 : el_M := [(523, 1, 529), (529, 2, 535), (539, 3, 545), (555, 1, 561), (561, 2, 567), (571, 3, 577)]
set_option maxRecDepth 100000 in
theorem mo_L6 : ∀ q ∈ mc_L6, el_ck cL_law q := by decide +kernel
def t_L6 : en_T := ((7, 1067, 12058), tb_L6, [], cn_L, [(54, 3, 8, 0, 0, LF 0 f_X6_folds), (58, 3, 9, 0, 0, LF 24 f_X7_folds)], [], 0, some .boolean)
set_option maxRecDepth 100000 in
theorem tB_L6 (D : va_G) (dT : Nat → Nat) (l : Launch) (ny : String) : en_TB en_WD D vwCl dT l room_1 t_L6 RL ny cL_law := ⟨tk_L6, fun s args meth h hn => ⟨fun _ h => absurd h List.not_mem_nil, co_L h args, List.forall_mem_cons.mpr ⟨en_mok_LF 0 (mk_X6_folds (own := RL) h (Nat.le_of_ble_eq_true rfl) (Nat.le_of_ble_eq_true rfl) (Or.inl (en_wd h 421 (by decide +kernel) rfl args))), List.forall_mem_cons.mpr ⟨en_mok_LF 24 (mk_X7_folds (own := RL) h (Nat.le_of_ble_eq_true rfl) (Nat.le_of_ble_eq_true rfl) (Or.inl (en_wd h 906 (by decide +kernel) rfl args))), fun _ h => absurd h List.not_mem_nil⟩⟩, fun _ h => absurd h List.not_mem_nil, Or.inl rfl, en_arr h args⟩⟩
set_option maxHeartbeats 4000000 in
set_option maxRecDepth 100000 in
theorem lc_6 {i : Nat} {xs : Nat → Int32} {G : Option Value → List va_E → Prop} {OK : en_K} (R : el_Run t_L6 mc_L6 G i xs OK) {S M : Sx} {o : Nat → Int64} (hr : RelE S M) {cs sl : Nat} (hend : ∀ S M, RelE S M → OK cs sl 1131 (lvW i) [] (WL S M o)) : OK cs sl 522 (lvW i) [] (WL S M o) := by
  refine R [1131] 80 _ _ _ _ _ _ ?_
  conv => whnf
  refine ⟨rfl, ?_⟩
  conv => whnf
  refine ⟨rfl, ?_⟩
  conv => whnf
  refine ⟨rfl, ?_⟩
  conv => whnf
  refine fun _ => call1 (S := S) (M := M) (o := o) (pc_folds _ _) mx_folds rfl hr (fun a S1 tk => ?_)
  conv => whnf
  refine ⟨rfl, ?_⟩
  conv => whnf
  refine ⟨rfl, ?_⟩
  conv => whnf
  refine ⟨rfl, ?_⟩
  conv => whnf
  refine fun _ => call2 mm_folds rfl tk (fun S2 M2 hr2 => ?_)
  conv => whnf
  refine ⟨fun _ => ?_, fun z => absurd rfl z⟩
  conv => whnf
  exact hend S2 M2 hr2
def tb_L7 : List en_I := [(591, .aload_n 1, 592, []), (610, .i2l, 611, []), (611, .bipush 32, 613, []), (613, .lshl, 614, []), (620, .i2l, 621, []), (621, .ldc2_w 27, 624, []), (624, .land, 625, []), (625, .lor, 626, []), (626, .invokevirtual 59, 629, []), (629, .aload_n 2, 630, []), (648, .i2l, 649, []), (649, .bipush 32, 651, []), (651, .lshl, 652, []), (658, .i2l, 659, []), (659, .ldc2_w 27, 662, []), (662, .land, 663, []), (663, .lor, 664, []), (664, .invokevirtual 62, 667, []), (667, .if_icmp .eq 464, 670, [1131]), (670, .iconst 0, 671, []), (671, .ireturn, 672, [])]
set_option maxRecDepth 100000 in
theorem tk_L7 : ∀ q ∈ tb_L7, decode cL_law q.1 = .ok (q.2.1, q.2.2.1 - q.1) ∧ en_ck q = true := by decide +kernel
theorem tn_L7 : ∀ q ∈ tb_L7, ek_no q.2.1 = true := by decide +kernel
def mc_L7 : el_M := [(592, 1, 598), (598, 2, 604), (604, 3, 610), (614, 4, 620), (630, 1, 636), (636, 2, 642), (642, 3, 648), (652, 4, 658)]
set_option maxRecDepth 100000 in
theorem mo_L7 : ∀ q ∈ mc_L7, el_ck cL_law q := by decide +kernel
def t_L7 : en_T := ((7, 1067, 12058), tb_L7, [], cn_L, [(59, 4, 8, 0, 0, LF 0 f_X6_nested), (62, 4, 9, 0, 0, LF 24 f_X7_nested)], [], 0, some .boolean)
set_option maxRecDepth 100000 in
theorem tB_L7 (D : va_G) (dT : Nat → Nat) (l : Launch) (ny : String) : en_TB en_WD D vwCl dT l room_1 t_L7 RL ny cL_law := ⟨tk_L7, fun s args meth h hn => ⟨fun _ h => absurd h List.not_mem_nil, co_L h args, List.forall_mem_cons.mpr ⟨en_mok_LF 0 (mk_X6_nested (own := RL) h (Nat.le_of_ble_eq_true rfl) (Nat.le_of_ble_eq_true rfl) (Or.inl (en_wd h 453 (by decide +kernel) rfl args))), List.forall_mem_cons.mpr ⟨en_mok_LF 24 (mk_X7_nested (own := RL) h (Nat.le_of_ble_eq_true rfl) (Nat.le_of_ble_eq_true rfl) (Or.inl (en_wd h 914 (by decide +kernel) rfl args))), fun _ h => absurd h List.not_mem_nil⟩⟩, fun _ h => absurd h List.not_mem_nil, Or.inl rfl, en_arr h args⟩⟩
set_option maxHeartbeats 4000000 in
set_option maxRecDepth 100000 in
theorem lc_7 {i : Nat} {xs : Nat → Int32} {G : Option Value → List va_E → Prop} {OK : en_K} (R : el_Run t_L7 mc_L7 G i xs OK) {S M : Sx} {o : Nat → Int64} (hr : RelE S M) {cs sl : Nat} (hend : ∀ S M, RelE S M → OK cs sl 1131 (lvW i) [] (WL S M o)) : OK cs sl 591 (lvW i) [] (WL S M o) := by
  refine R [1131] 80 _ _ _ _ _ _ ?_
  conv => whnf
  refine ⟨rfl, ?_⟩
  conv => whnf
  refine ⟨rfl, ?_⟩
  conv => whnf
  refine ⟨rfl, ?_⟩
  conv => whnf
  refine ⟨rfl, ?_⟩
  conv => whnf
  refine fun _ => call1 (S := S) (M := M) (o := o) (pc_nested _ _ _) mx_nested rfl hr (fun a S1 tk => ?_)
  conv => whnf
  refine ⟨rfl, ?_⟩
  conv => whnf
  refine ⟨rfl, ?_⟩
  conv => whnf
  refine ⟨rfl, ?_⟩
  conv => whnf
  refine ⟨rfl, ?_⟩
  conv => whnf
  refine fun _ => call2 mm_nested rfl tk (fun S2 M2 hr2 => ?_)
  conv => whnf
  refine ⟨fun _ => ?_, fun z => absurd rfl z⟩
  conv => whnf
  exact hend S2 M2 hr2
def tb_L8 : List en_I := [(672, .aload_n 1, 673, []), (679, .invokevirtual 63, 682, []), (682, .aload_n 2, 683, []), (689, .invokevirtual 67, 692, []), (692, .if_icmp .eq 439, 695, [1131]), (695, .iconst 0, 696, []), (696, .ireturn, 697, [])]
set_option maxRecDepth 100000 in
theorem tk_L8 : ∀ q ∈ tb_L8, decode cL_law q.1 = .ok (q.2.1, q.2.2.1 - q.1) ∧ en_ck q = true := by decide +kernel
theorem tn_L8 : ∀ q ∈ tb_L8, ek_no q.2.1 = true := by decide +kernel
def mc_L8 : el_M := [(673, 1, 679), (683, 1, 689)]
set_option maxRecDepth 100000 in
theorem mo_L8 : ∀ q ∈ mc_L8, el_ck cL_law q := by decide +kernel
def t_L8 : en_T := ((7, 1067, 12058), tb_L8, [], cn_L, [(63, 2, 8, 0, 0, LF 0 f_X6_of), (67, 2, 9, 0, 0, LF 24 f_X7_of)], [], 0, some .boolean)
set_option maxRecDepth 100000 in
theorem tB_L8 (D : va_G) (dT : Nat → Nat) (l : Launch) (ny : String) : en_TB en_WD D vwCl dT l room_1 t_L8 RL ny cL_law := ⟨tk_L8, fun s args meth h hn => ⟨fun _ h => absurd h List.not_mem_nil, co_L h args, List.forall_mem_cons.mpr ⟨en_mok_LF 0 (mk_X6_of (own := RL) h (Nat.le_of_ble_eq_true rfl) (Nat.le_of_ble_eq_true rfl) (Or.inl (en_wd h 467 (by decide +kernel) rfl args))), List.forall_mem_cons.mpr ⟨en_mok_LF 24 (mk_X7_of (own := RL) h (Nat.le_of_ble_eq_true rfl) (Nat.le_of_ble_eq_true rfl) (Or.inl (en_wd h 922 (by decide +kernel) rfl args))), fun _ h => absurd h List.not_mem_nil⟩⟩, fun _ h => absurd h List.not_mem_nil, Or.inl rfl, en_arr h args⟩⟩
set_option maxHeartbeats 4000000 in
set_option maxRecDepth 100000 in
theorem lc_8 {i : Nat} {xs : Nat → Int32} {G : Option Value → List va_E → Prop} {OK : en_K} (R : el_Run t_L8 mc_L8 G i xs OK) {S M : Sx} {o : Nat → Int64} (hr : RelE S M) {cs sl : Nat} (hend : ∀ S M, RelE S M → OK cs sl 1131 (lvW i) [] (WL S M o)) : OK cs sl 672 (lvW i) [] (WL S M o) := by
  refine R [1131] 80 _ _ _ _ _ _ ?_
  conv => whnf
  refine ⟨rfl, ?_⟩
  conv => whnf
  refine fun _ => call1 (S := S) (M := M) (o := o) (pc_of _) mx_of rfl hr (fun a S1 tk => ?_)
  conv => whnf
  refine ⟨rfl, ?_⟩
  conv => whnf
  refine fun _ => call2 mm_of rfl tk (fun S2 M2 hr2 => ?_)
  conv => whnf
  refine ⟨fun _ => ?_, fun z => absurd rfl z⟩
  conv => whnf
  exact hend S2 M2 hr2
def tb_L9 : List en_I := [(697, .aload_n 1, 698, []), (710, .invokevirtual 68, 713, []), (713, .aload_n 2, 714, []), (726, .invokevirtual 71, 729, []), (729, .if_icmp .eq 402, 732, [1131]), (732, .iconst 0, 733, []), (733, .ireturn, 734, [])]
set_option maxRecDepth 100000 in
theorem tk_L9 : ∀ q ∈ tb_L9, decode cL_law q.1 = .ok (q.2.1, q.2.2.1 - q.1) ∧ en_ck q = true := by decide +kernel
theorem tn_L9 : ∀ q ∈ tb_L9, ek_no q.2.1 = true := by decide +kernel
def mc_L9 : el_M := [(698, 1, 704), (704, 2, 710), (714, 1, 720), (720, 2, 726)]
set_option maxRecDepth 100000 in
theorem mo_L9 : ∀ q ∈ mc_L9, el_ck cL_law q := by decide +kernel
def t_L9 : en_T := ((7, 1067, 12058), tb_L9, [], cn_L, [(68, 3, 8, 0, 0, LF 0 f_X6_many), (71, 3, 9, 0, 0, LF 24 f_X7_many)], [], 0, some .boolean)
set_option maxRecDepth 100000 in
theorem tB_L9 (D : va_G) (dT : Nat → Nat) (l : Launch) (ny : String) : en_TB en_WD D vwCl dT l room_1 t_L9 RL ny cL_law := ⟨tk_L9, fun s args meth h hn => ⟨fun _ h => absurd h List.not_mem_nil, co_L h args, List.forall_mem_cons.mpr ⟨en_mok_LF 0 (mk_X6_many (own := RL) h (Nat.le_of_ble_eq_true rfl) (Nat.le_of_ble_eq_true rfl) (Or.inl (en_wd h 471 (by decide +kernel) rfl args))), List.forall_mem_cons.mpr ⟨en_mok_LF 24 (mk_X7_many (own := RL) h (Nat.le_of_ble_eq_true rfl) (Nat.le_of_ble_eq_true rfl) (Or.inl (en_wd h 926 (by decide +kernel) rfl args))), fun _ h => absurd h List.not_mem_nil⟩⟩, fun _ h => absurd h List.not_mem_nil, Or.inl rfl, en_arr h args⟩⟩
set_option maxHeartbeats 4000000 in
set_option maxRecDepth 100000 in
theorem lc_9 {i : Nat} {xs : Nat → Int32} {G : Option Value → List va_E → Prop} {OK : en_K} (R : el_Run t_L9 mc_L9 G i xs OK) {S M : Sx} {o : Nat → Int64} (hr : RelE S M) {cs sl : Nat} (hend : ∀ S M, RelE S M → OK cs sl 1131 (lvW i) [] (WL S M o)) : OK cs sl 697 (lvW i) [] (WL S M o) := by
  refine R [1131] 80 _ _ _ _ _ _ ?_
  conv => whnf
  refine ⟨rfl, ?_⟩
  conv => whnf
  refine ⟨rfl, ?_⟩
  conv => whnf
  refine fun _ => call1 (S := S) (M := M) (o := o) (pc_many _ _) mx_many rfl hr (fun a S1 tk => ?_)
  conv => whnf
  refine ⟨rfl, ?_⟩
  conv => whnf
  refine ⟨rfl, ?_⟩
  conv => whnf
  refine fun _ => call2 mm_many rfl tk (fun S2 M2 hr2 => ?_)
  conv => whnf
  refine ⟨fun _ => ?_, fun z => absurd rfl z⟩
  conv => whnf
  exact hend S2 M2 hr2
def tb_L10 : List en_I := [(734, .aload_n 1, 735, []), (753, .aload_n 3, 754, []), (754, .invokestatic 72, 757, []), (757, .istore 5, 759, []), (759, .aload_n 2, 760, []), (778, .invokevirtual 77, 781, []), (781, .istore 6, 783, []), (783, .aload_n 2, 784, []), (784, .invokevirtual 78, 787, []), (787, .iload 5, 789, []), (789, .if_icmp .eq 5, 792, [794]), (792, .iconst 0, 793, []), (793, .ireturn, 794, []), (794, .iload 5, 796, []), (796, .ifCond .ne 15, 799, [811]), (799, .aload_n 3, 800, []), (800, .iconst 0, 801, []), (801, .laload, 802, []), (802, .iload 6, 804, []), (804, .i2l, 805, []), (805, .lcmp, 806, []), (806, .ifCond .eq 5, 809, [811]), (809, .iconst 0, 810, []), (810, .ireturn, 811, []), (811, .goto 320, 814, [1131])]
set_option maxRecDepth 100000 in
theorem tk_L10 : ∀ q ∈ tb_L10, decode cL_law q.1 = .ok (q.2.1, q.2.2.1 - q.1) ∧ en_ck q = true := by decide +kernel
theorem tn_L10 : ∀ q ∈ tb_L10, ek_no q.2.1 = true := by decide +kernel
def mc_L10 : el_M := [(735, 1, 741), (741, 2, 747), (747, 3, 753), (760, 1, 766), (766, 2, 772), (772, 3, 778)]
set_option maxRecDepth 100000 in
theorem mo_L10 : ∀ q ∈ mc_L10, el_ck cL_law q := by decide +kernel
def t_L10 : en_T := ((7, 1067, 12058), tb_L10, [], cn_L, [(77, 4, 9, 0, 0, LF 24 f_X7_share), (78, 1, 9, 0, 0, LF 24 f_X7_thrown)], [], 0, some .boolean)
set_option maxRecDepth 100000 in
theorem tB_L10 (D : va_G) (dT : Nat → Nat) (l : Launch) (ny : String) : en_TB en_WD D vwCl dT l room_1 t_L10 RL ny cL_law := ⟨tk_L10, fun s args meth h hn => ⟨fun _ h => absurd h List.not_mem_nil, co_L h args, List.forall_mem_cons.mpr ⟨en_mok_LF 24 (mk_X7_share (own := RL) h (Nat.le_of_ble_eq_true rfl) (Nat.le_of_ble_eq_true rfl) (Or.inl (en_wd h 927 (by decide +kernel) rfl args))), List.forall_mem_cons.mpr ⟨en_mok_LF 24 (mk_X7_thrown (own := RL) h (Nat.le_of_ble_eq_true rfl) (Nat.le_of_ble_eq_true rfl) (Or.inl (en_wd h 820 (by decide +kernel) rfl args))), fun _ h => absurd h List.not_mem_nil⟩⟩, fun _ h => absurd h List.not_mem_nil, Or.inl rfl, en_arr h args⟩⟩
def tb_L11 : List en_I := [(814, .aload_n 1, 815, []), (821, .invokevirtual 82, 824, []), (824, .aload_n 2, 825, []), (831, .invokevirtual 85, 834, []), (834, .if_icmp .eq 297, 837, [1131]), (837, .iconst 0, 838, []), (838, .ireturn, 839, [])]
set_option maxRecDepth 100000 in
theorem tk_L11 : ∀ q ∈ tb_L11, decode cL_law q.1 = .ok (q.2.1, q.2.2.1 - q.1) ∧ en_ck q = true := by decide +kernel
theorem tn_L11 : ∀ q ∈ tb_L11, ek_no q.2.1 = true := by decide +kernel
def mc_L11 : el_M := [(815, 1, 821), (825, 1, 831)]
set_option maxRecDepth 100000 in
theorem mo_L11 : ∀ q ∈ mc_L11, el_ck cL_law q := by decide +kernel
def t_L11 : en_T := ((7, 1067, 12058), tb_L11, [], cn_L, [(82, 2, 8, 0, 0, LF 0 f_X6_over), (85, 2, 9, 0, 0, LF 24 f_X7_over)], [], 0, some .boolean)
set_option maxRecDepth 100000 in
theorem tB_L11 (D : va_G) (dT : Nat → Nat) (l : Launch) (ny : String) : en_TB en_WD D vwCl dT l room_1 t_L11 RL ny cL_law := ⟨tk_L11, fun s args meth h hn => ⟨fun _ h => absurd h List.not_mem_nil, co_L h args, List.forall_mem_cons.mpr ⟨en_mok_LF 0 (mk_X6_over (own := RL) h (Nat.le_of_ble_eq_true rfl) (Nat.le_of_ble_eq_true rfl) (Or.inl (en_wd h 475 (by decide +kernel) rfl args))), List.forall_mem_cons.mpr ⟨en_mok_LF 24 (mk_X7_over (own := RL) h (Nat.le_of_ble_eq_true rfl) (Nat.le_of_ble_eq_true rfl) (Or.inl (en_wd h 931 (by decide +kernel) rfl args))), fun _ h => absurd h List.not_mem_nil⟩⟩, fun _ h => absurd h List.not_mem_nil, Or.inl rfl, en_arr h args⟩⟩
set_option maxHeartbeats 4000000 in
set_option maxRecDepth 100000 in
theorem lc_11 {i : Nat} {xs : Nat → Int32} {G : Option Value → List va_E → Prop} {OK : en_K} (R : el_Run t_L11 mc_L11 G i xs OK) {S M : Sx} {o : Nat → Int64} (hr : RelE S M) {cs sl : Nat} (hend : ∀ S M, RelE S M → OK cs sl 1131 (lvW i) [] (WL S M o)) : OK cs sl 814 (lvW i) [] (WL S M o) := by
  refine R [1131] 80 _ _ _ _ _ _ ?_
  conv => whnf
  refine ⟨rfl, ?_⟩
  conv => whnf
  refine fun _ => call1 (S := S) (M := M) (o := o) (pc_over _) mx_over rfl hr (fun a S1 tk => ?_)
  conv => whnf
  refine ⟨rfl, ?_⟩
  conv => whnf
  refine fun _ => call2 mm_over rfl tk (fun S2 M2 hr2 => ?_)
  conv => whnf
  refine ⟨fun _ => ?_, fun z => absurd rfl z⟩
  conv => whnf
  exact hend S2 M2 hr2
def tb_L12 : List en_I := [(839, .aload_n 1, 840, []), (846, .invokevirtual 86, 849, []), (849, .aload_n 2, 850, []), (856, .invokevirtual 89, 859, []), (859, .if_icmp .eq 272, 862, [1131]), (862, .iconst 0, 863, []), (863, .ireturn, 864, [])]
set_option maxRecDepth 100000 in
theorem tk_L12 : ∀ q ∈ tb_L12, decode cL_law q.1 = .ok (q.2.1, q.2.2.1 - q.1) ∧ en_ck q = true := by decide +kernel
theorem tn_L12 : ∀ q ∈ tb_L12, ek_no q.2.1 = true := by decide +kernel
def mc_L12 : el_M := [(840, 1, 846), (850, 1, 856)]
set_option maxRecDepth 100000 in
theorem mo_L12 : ∀ q ∈ mc_L12, el_ck cL_law q := by decide +kernel
def t_L12 : en_T := ((7, 1067, 12058), tb_L12, [], cn_L, [(86, 2, 8, 0, 0, LF 0 f_X6_near), (89, 2, 9, 0, 0, LF 24 f_X7_near)], [], 0, some .boolean)
set_option maxRecDepth 100000 in
theorem tB_L12 (D : va_G) (dT : Nat → Nat) (l : Launch) (ny : String) : en_TB en_WD D vwCl dT l room_1 t_L12 RL ny cL_law := ⟨tk_L12, fun s args meth h hn => ⟨fun _ h => absurd h List.not_mem_nil, co_L h args, List.forall_mem_cons.mpr ⟨en_mok_LF 0 (mk_X6_near (own := RL) h (Nat.le_of_ble_eq_true rfl) (Nat.le_of_ble_eq_true rfl) (Or.inl (en_wd h 484 (by decide +kernel) rfl args))), List.forall_mem_cons.mpr ⟨en_mok_LF 24 (mk_X7_near (own := RL) h (Nat.le_of_ble_eq_true rfl) (Nat.le_of_ble_eq_true rfl) (Or.inl (en_wd h 935 (by decide +kernel) rfl args))), fun _ h => absurd h List.not_mem_nil⟩⟩, fun _ h => absurd h List.not_mem_nil, Or.inl rfl, en_arr h args⟩⟩
set_option maxHeartbeats 4000000 in
set_option maxRecDepth 100000 in
theorem lc_12 {i : Nat} {xs : Nat → Int32} {G : Option Value → List va_E → Prop} {OK : en_K} (R : el_Run t_L12 mc_L12 G i xs OK) {S M : Sx} {o : Nat → Int64} (hr : RelE S M) {cs sl : Nat} (hend : ∀ S M, RelE S M → OK cs sl 1131 (lvW i) [] (WL S M o)) : OK cs sl 839 (lvW i) [] (WL S M o) := by
  refine R [1131] 80 _ _ _ _ _ _ ?_
  conv => whnf
  refine ⟨rfl, ?_⟩
  conv => whnf
  refine fun _ => call1 (S := S) (M := M) (o := o) (pc_near _) mx_near rfl hr (fun a S1 tk => ?_)
  conv => whnf
  refine ⟨rfl, ?_⟩
  conv => whnf
  refine fun _ => call2 mm_near rfl tk (fun S2 M2 hr2 => ?_)
  conv => whnf
  refine ⟨fun _ => ?_, fun z => absurd rfl z⟩
  conv => whnf
  exact hend S2 M2 hr2
def tb_L13 : List en_I := [(864, .aload_n 1, 865, []), (877, .invokevirtual 90, 880, []), (880, .aload_n 2, 881, []), (893, .invokevirtual 93, 896, []), (896, .if_icmp .eq 235, 899, [1131]), (899, .iconst 0, 900, []), (900, .ireturn, 901, [])]
set_option maxRecDepth 100000 in
theorem tk_L13 : ∀ q ∈ tb_L13, decode cL_law q.1 = .ok (q.2.1, q.2.2.1 - q.1) ∧ en_ck q = true := by decide +kernel
theorem tn_L13 : ∀ q ∈ tb_L13, ek_no q.2.1 = true := by decide +kernel
def mc_L13 : el_M := [(865, 1, 871), (871, 2, 877), (881, 1, 887), (887, 2, 893)]
set_option maxRecDepth 100000 in
theorem mo_L13 : ∀ q ∈ mc_L13, el_ck cL_law q := by decide +kernel
def t_L13 : en_T := ((7, 1067, 12058), tb_L13, [], cn_L, [(90, 3, 8, 0, 0, LF 0 f_X6_fit), (93, 3, 9, 0, 0, LF 24 f_X7_fit)], [], 0, some .boolean)
set_option maxRecDepth 100000 in
theorem tB_L13 (D : va_G) (dT : Nat → Nat) (l : Launch) (ny : String) : en_TB en_WD D vwCl dT l room_1 t_L13 RL ny cL_law := ⟨tk_L13, fun s args meth h hn => ⟨fun _ h => absurd h List.not_mem_nil, co_L h args, List.forall_mem_cons.mpr ⟨en_mok_LF 0 (mk_X6_fit (own := RL) h (Nat.le_of_ble_eq_true rfl) (Nat.le_of_ble_eq_true rfl) (Or.inl (en_wd h 488 (by decide +kernel) rfl args))), List.forall_mem_cons.mpr ⟨en_mok_LF 24 (mk_X7_fit (own := RL) h (Nat.le_of_ble_eq_true rfl) (Nat.le_of_ble_eq_true rfl) (Or.inl (en_wd h 939 (by decide +kernel) rfl args))), fun _ h => absurd h List.not_mem_nil⟩⟩, fun _ h => absurd h List.not_mem_nil, Or.inl rfl, en_arr h args⟩⟩
set_option maxHeartbeats 4000000 in
set_option maxRecDepth 100000 in
theorem lc_13 {i : Nat} {xs : Nat → Int32} {G : Option Value → List va_E → Prop} {OK : en_K} (R : el_Run t_L13 mc_L13 G i xs OK) {S M : Sx} {o : Nat → Int64} (hr : RelE S M) {cs sl : Nat} (hend : ∀ S M, RelE S M → OK cs sl 1131 (lvW i) [] (WL S M o)) : OK cs sl 864 (lvW i) [] (WL S M o) := by
  refine R [1131] 80 _ _ _ _ _ _ ?_
  conv => whnf
  refine ⟨rfl, ?_⟩
  conv => whnf
  refine ⟨rfl, ?_⟩
  conv => whnf
  refine fun _ => call1 (S := S) (M := M) (o := o) (pc_fit _ _) mx_fit rfl hr (fun a S1 tk => ?_)
  conv => whnf
  refine ⟨rfl, ?_⟩
  conv => whnf
  refine ⟨rfl, ?_⟩
  conv => whnf
  refine fun _ => call2 mm_fit rfl tk (fun S2 M2 hr2 => ?_)
  conv => whnf
  refine ⟨fun _ => ?_, fun z => absurd rfl z⟩
  conv => whnf
  exact hend S2 M2 hr2
def tb_L14 : List en_I := [(901, .aload_n 1, 902, []), (914, .invokevirtual 94, 917, []), (917, .aload_n 2, 918, []), (930, .invokevirtual 97, 933, []), (933, .if_icmp .eq 198, 936, [1131]), (936, .iconst 0, 937, []), (937, .ireturn, 938, [])]
set_option maxRecDepth 100000 in
theorem tk_L14 : ∀ q ∈ tb_L14, decode cL_law q.1 = .ok (q.2.1, q.2.2.1 - q.1) ∧ en_ck q = true := by decide +kernel
theorem tn_L14 : ∀ q ∈ tb_L14, ek_no q.2.1 = true := by decide +kernel
def mc_L14 : el_M := [(902, 1, 908), (908, 2, 914), (918, 1, 924), (924, 2, 930)]
set_option maxRecDepth 100000 in
theorem mo_L14 : ∀ q ∈ mc_L14, el_ck cL_law q := by decide +kernel
def t_L14 : en_T := ((7, 1067, 12058), tb_L14, [], cn_L, [(94, 3, 8, 0, 0, LF 0 f_X6_base), (97, 3, 9, 0, 0, LF 24 f_X7_base)], [], 0, some .boolean)
set_option maxRecDepth 100000 in
theorem tB_L14 (D : va_G) (dT : Nat → Nat) (l : Launch) (ny : String) : en_TB en_WD D vwCl dT l room_1 t_L14 RL ny cL_law := ⟨tk_L14, fun s args meth h hn => ⟨fun _ h => absurd h List.not_mem_nil, co_L h args, List.forall_mem_cons.mpr ⟨en_mok_LF 0 (mk_X6_base (own := RL) h (Nat.le_of_ble_eq_true rfl) (Nat.le_of_ble_eq_true rfl) (Or.inl (en_wd h 500 (by decide +kernel) rfl args))), List.forall_mem_cons.mpr ⟨en_mok_LF 24 (mk_X7_base (own := RL) h (Nat.le_of_ble_eq_true rfl) (Nat.le_of_ble_eq_true rfl) (Or.inl (en_wd h 943 (by decide +kernel) rfl args))), fun _ h => absurd h List.not_mem_nil⟩⟩, fun _ h => absurd h List.not_mem_nil, Or.inl rfl, en_arr h args⟩⟩
set_option maxHeartbeats 4000000 in
set_option maxRecDepth 100000 in
theorem lc_14 {i : Nat} {xs : Nat → Int32} {G : Option Value → List va_E → Prop} {OK : en_K} (R : el_Run t_L14 mc_L14 G i xs OK) {S M : Sx} {o : Nat → Int64} (hr : RelE S M) {cs sl : Nat} (hend : ∀ S M, RelE S M → OK cs sl 1131 (lvW i) [] (WL S M o)) : OK cs sl 901 (lvW i) [] (WL S M o) := by
  refine R [1131] 80 _ _ _ _ _ _ ?_
  conv => whnf
  refine ⟨rfl, ?_⟩
  conv => whnf
  refine ⟨rfl, ?_⟩
  conv => whnf
  refine fun _ => call1 (S := S) (M := M) (o := o) (pc_base _ _) mx_base rfl hr (fun a S1 tk => ?_)
  conv => whnf
  refine ⟨rfl, ?_⟩
  conv => whnf
  refine ⟨rfl, ?_⟩
  conv => whnf
  refine fun _ => call2 mm_base rfl tk (fun S2 M2 hr2 => ?_)
  conv => whnf
  refine ⟨fun _ => ?_, fun z => absurd rfl z⟩
  conv => whnf
  exact hend S2 M2 hr2
def tb_L15 : List en_I := [(938, .aload_n 1, 939, []), (945, .invokevirtual 98, 948, []), (948, .aload_n 2, 949, []), (955, .invokevirtual 101, 958, []), (958, .if_icmp .eq 173, 961, [1131]), (961, .iconst 0, 962, []), (962, .ireturn, 963, [])]
set_option maxRecDepth 100000 in
theorem tk_L15 : ∀ q ∈ tb_L15, decode cL_law q.1 = .ok (q.2.1, q.2.2.1 - q.1) ∧ en_ck q = true := by decide +kernel
theorem tn_L15 : ∀ q ∈ tb_L15, ek_no q.2.1 = true := by decide +kernel
def mc_L15 : el_M := [(939, 1, 945), (949, 1, 955)]
set_option maxRecDepth 100000 in
theorem mo_L15 : ∀ q ∈ mc_L15, el_ck cL_law q := by decide +kernel
def t_L15 : en_T := ((7, 1067, 12058), tb_L15, [], cn_L, [(98, 2, 8, 0, 0, LF 0 f_X6_leaks), (101, 2, 9, 0, 0, LF 24 f_X7_leaks)], [], 0, some .boolean)
set_option maxRecDepth 100000 in
theorem tB_L15 (D : va_G) (dT : Nat → Nat) (l : Launch) (ny : String) : en_TB en_WD D vwCl dT l room_1 t_L15 RL ny cL_law := ⟨tk_L15, fun s args meth h hn => ⟨fun _ h => absurd h List.not_mem_nil, co_L h args, List.forall_mem_cons.mpr ⟨en_mok_LF 0 (mk_X6_leaks (own := RL) h (Nat.le_of_ble_eq_true rfl) (Nat.le_of_ble_eq_true rfl) (Or.inl (en_wd h 504 (by decide +kernel) rfl args))), List.forall_mem_cons.mpr ⟨en_mok_LF 24 (mk_X7_leaks (own := RL) h (Nat.le_of_ble_eq_true rfl) (Nat.le_of_ble_eq_true rfl) (Or.inl (en_wd h 947 (by decide +kernel) rfl args))), fun _ h => absurd h List.not_mem_nil⟩⟩, fun _ h => absurd h List.not_mem_nil, Or.inl rfl, en_arr h args⟩⟩
set_option maxHeartbeats 4000000 in
set_option maxRecDepth 100000 in
theorem lc_15 {i : Nat} {xs : Nat → Int32} {G : Option Value → List va_E → Prop} {OK : en_K} (R : el_Run t_L15 mc_L15 G i xs OK) {S M : Sx} {o : Nat → Int64} (hr : RelE S M) {cs sl : Nat} (hend : ∀ S M, RelE S M → OK cs sl 1131 (lvW i) [] (WL S M o)) : OK cs sl 938 (lvW i) [] (WL S M o) := by
  refine R [1131] 80 _ _ _ _ _ _ ?_
  conv => whnf
  refine ⟨rfl, ?_⟩
  conv => whnf
  refine fun _ => call1 (S := S) (M := M) (o := o) (pc_leaks _) mx_leaks rfl hr (fun a S1 tk => ?_)
  conv => whnf
  refine ⟨rfl, ?_⟩
  conv => whnf
  refine fun _ => call2 mm_leaks rfl tk (fun S2 M2 hr2 => ?_)
  conv => whnf
  refine ⟨fun _ => ?_, fun z => absurd rfl z⟩
  conv => whnf
  exact hend S2 M2 hr2
def tb_L16 : List en_I := [(963, .aload_n 1, 964, []), (982, .invokevirtual 102, 985, []), (985, .aload_n 2, 986, []), (1004, .invokevirtual 105, 1007, []), (1007, .if_icmp .eq 124, 1010, [1131]), (1010, .iconst 0, 1011, []), (1011, .ireturn, 1012, [])]
set_option maxRecDepth 100000 in
theorem tk_L16 : ∀ q ∈ tb_L16, decode cL_law q.1 = .ok (q.2.1, q.2.2.1 - q.1) ∧ en_ck q = true := by decide +kernel
theorem tn_L16 : ∀ q ∈ tb_L16, ek_no q.2.1 = true := by decide +kernel
def mc_L16 : el_M := [(964, 1, 970), (970, 2, 976), (976, 3, 982), (986, 1, 992), (992, 2, 998), (998, 3, 1004)]
set_option maxRecDepth 100000 in
theorem mo_L16 : ∀ q ∈ mc_L16, el_ck cL_law q := by decide +kernel
def t_L16 : en_T := ((7, 1067, 12058), tb_L16, [], cn_L, [(102, 4, 8, 0, 0, LF 0 f_X6_leak), (105, 4, 9, 0, 0, LF 24 f_X7_leak)], [], 0, some .boolean)
set_option maxRecDepth 100000 in
theorem tB_L16 (D : va_G) (dT : Nat → Nat) (l : Launch) (ny : String) : en_TB en_WD D vwCl dT l room_1 t_L16 RL ny cL_law := ⟨tk_L16, fun s args meth h hn => ⟨fun _ h => absurd h List.not_mem_nil, co_L h args, List.forall_mem_cons.mpr ⟨en_mok_LF 0 (mk_X6_leak (own := RL) h (Nat.le_of_ble_eq_true rfl) (Nat.le_of_ble_eq_true rfl) (Or.inl (en_wd h 591 (by decide +kernel) rfl args))), List.forall_mem_cons.mpr ⟨en_mok_LF 24 (mk_X7_leak (own := RL) h (Nat.le_of_ble_eq_true rfl) (Nat.le_of_ble_eq_true rfl) (Or.inl (en_wd h 991 (by decide +kernel) rfl args))), fun _ h => absurd h List.not_mem_nil⟩⟩, fun _ h => absurd h List.not_mem_nil, Or.inl rfl, en_arr h args⟩⟩
set_option maxHeartbeats 4000000 in
set_option maxRecDepth 100000 in
theorem lc_16 {i : Nat} {xs : Nat → Int32} {G : Option Value → List va_E → Prop} {OK : en_K} (R : el_Run t_L16 mc_L16 G i xs OK) {S M : Sx} {o : Nat → Int64} (hr : RelE S M) {cs sl : Nat} (hend : ∀ S M, RelE S M → OK cs sl 1131 (lvW i) [] (WL S M o)) : OK cs sl 963 (lvW i) [] (WL S M o) := by
  refine R [1131] 80 _ _ _ _ _ _ ?_
  conv => whnf
  refine ⟨rfl, ?_⟩
  conv => whnf
  refine ⟨rfl, ?_⟩
  conv => whnf
  refine ⟨rfl, ?_⟩
  conv => whnf
  refine fun _ => call1 (S := S) (M := M) (o := o) (pc_leak _ _ _) mx_leak rfl hr (fun a S1 tk => ?_)
  conv => whnf
  refine ⟨rfl, ?_⟩
  conv => whnf
  refine ⟨rfl, ?_⟩
  conv => whnf
  refine ⟨rfl, ?_⟩
  conv => whnf
  refine fun _ => call2 mm_leak rfl tk (fun S2 M2 hr2 => ?_)
  conv => whnf
  refine ⟨fun _ => ?_, fun z => absurd rfl z⟩
  conv => whnf
  exact hend S2 M2 hr2
def tb_L17 : List en_I := [(1012, .aload_n 1, 1013, []), (1013, .invokevirtual 106, 1016, []), (1016, .aload_n 2, 1017, []), (1017, .invokevirtual 109, 1020, []), (1020, .if_icmp .eq 111, 1023, [1131]), (1023, .iconst 0, 1024, []), (1024, .ireturn, 1025, [])]
set_option maxRecDepth 100000 in
theorem tk_L17 : ∀ q ∈ tb_L17, decode cL_law q.1 = .ok (q.2.1, q.2.2.1 - q.1) ∧ en_ck q = true := by decide +kernel
theorem tn_L17 : ∀ q ∈ tb_L17, ek_no q.2.1 = true := by decide +kernel
def mc_L17 : el_M := []
set_option maxRecDepth 100000 in
theorem mo_L17 : ∀ q ∈ mc_L17, el_ck cL_law q := by decide +kernel
def t_L17 : en_T := ((7, 1067, 12058), tb_L17, [], cn_L, [(106, 1, 8, 0, 0, LF 0 f_X6_meets), (109, 1, 9, 0, 0, LF 24 f_X7_meets)], [], 0, some .boolean)
set_option maxRecDepth 100000 in
theorem tB_L17 (D : va_G) (dT : Nat → Nat) (l : Launch) (ny : String) : en_TB en_WD D vwCl dT l room_1 t_L17 RL ny cL_law := ⟨tk_L17, fun s args meth h hn => ⟨fun _ h => absurd h List.not_mem_nil, co_L h args, List.forall_mem_cons.mpr ⟨en_mok_LF 0 (mk_X6_meets (own := RL) h (Nat.le_of_ble_eq_true rfl) (Nat.le_of_ble_eq_true rfl) (Or.inl (en_wd h 595 (by decide +kernel) rfl args))), List.forall_mem_cons.mpr ⟨en_mok_LF 24 (mk_X7_meets (own := RL) h (Nat.le_of_ble_eq_true rfl) (Nat.le_of_ble_eq_true rfl) (Or.inl (en_wd h 995 (by decide +kernel) rfl args))), fun _ h => absurd h List.not_mem_nil⟩⟩, fun _ h => absurd h List.not_mem_nil, Or.inl rfl, en_arr h args⟩⟩
set_option maxHeartbeats 4000000 in
set_option maxRecDepth 100000 in
theorem lc_17 {i : Nat} {xs : Nat → Int32} {G : Option Value → List va_E → Prop} {OK : en_K} (R : el_Run t_L17 mc_L17 G i xs OK) {S M : Sx} {o : Nat → Int64} (hr : RelE S M) {cs sl : Nat} (hend : ∀ S M, RelE S M → OK cs sl 1131 (lvW i) [] (WL S M o)) : OK cs sl 1012 (lvW i) [] (WL S M o) := by
  refine R [1131] 80 _ _ _ _ _ _ ?_
  conv => whnf
  refine fun _ => call1 (S := S) (M := M) (o := o) (pc_meets) mx_meets rfl hr (fun a S1 tk => ?_)
  conv => whnf
  refine fun _ => call2 mm_meets rfl tk (fun S2 M2 hr2 => ?_)
  conv => whnf
  refine ⟨fun _ => ?_, fun z => absurd rfl z⟩
  conv => whnf
  exact hend S2 M2 hr2
def tb_L18 : List en_I := [(1025, .aload_n 1, 1026, []), (1038, .i2l, 1039, []), (1039, .bipush 32, 1041, []), (1041, .lshl, 1042, []), (1048, .i2l, 1049, []), (1049, .ldc2_w 27, 1052, []), (1052, .land, 1053, []), (1053, .lor, 1054, []), (1060, .invokevirtual 110, 1063, []), (1063, .aload_n 2, 1064, []), (1076, .i2l, 1077, []), (1077, .bipush 32, 1079, []), (1079, .lshl, 1080, []), (1086, .i2l, 1087, []), (1087, .ldc2_w 27, 1090, []), (1090, .land, 1091, []), (1091, .lor, 1092, []), (1098, .invokevirtual 114, 1101, []), (1101, .if_icmp .eq 30, 1104, [1131]), (1104, .iconst 0, 1105, []), (1105, .ireturn, 1106, [])]
set_option maxRecDepth 100000 in
theorem tk_L18 : ∀ q ∈ tb_L18, decode cL_law q.1 = .ok (q.2.1, q.2.2.1 - q.1) ∧ en_ck q = true := by decide +kernel
theorem tn_L18 : ∀ q ∈ tb_L18, ek_no q.2.1 = true := by decide +kernel
def mc_L18 : el_M := [(1026, 1, 1032), (1032, 2, 1038), (1042, 3, 1048), (1054, 4, 1060), (1064, 1, 1070), (1070, 2, 1076), (1080, 3, 1086), (1092, 4, 1098)]
set_option maxRecDepth 100000 in
theorem mo_L18 : ∀ q ∈ mc_L18, el_ck cL_law q := by decide +kernel
def t_L18 : en_T := ((7, 1067, 12058), tb_L18, [], cn_L, [(110, 4, 8, 0, 0, LF 0 f_X6_same), (114, 4, 9, 0, 0, LF 24 f_X7_same)], [], 0, some .boolean)
set_option maxRecDepth 100000 in
theorem tB_L18 (D : va_G) (dT : Nat → Nat) (l : Launch) (ny : String) : en_TB en_WD D vwCl dT l room_1 t_L18 RL ny cL_law := ⟨tk_L18, fun s args meth h hn => ⟨fun _ h => absurd h List.not_mem_nil, co_L h args, List.forall_mem_cons.mpr ⟨en_mok_LF 0 (mk_X6_same (own := RL) h (Nat.le_of_ble_eq_true rfl) (Nat.le_of_ble_eq_true rfl) (Or.inl (en_wd h 615 (by decide +kernel) rfl args))), List.forall_mem_cons.mpr ⟨en_mok_LF 24 (mk_X7_same (own := RL) h (Nat.le_of_ble_eq_true rfl) (Nat.le_of_ble_eq_true rfl) (Or.inl (en_wd h 902 (by decide +kernel) rfl args))), fun _ h => absurd h List.not_mem_nil⟩⟩, fun _ h => absurd h List.not_mem_nil, Or.inl rfl, en_arr h args⟩⟩
set_option maxHeartbeats 4000000 in
set_option maxRecDepth 100000 in
theorem lc_18 {i : Nat} {xs : Nat → Int32} {G : Option Value → List va_E → Prop} {OK : en_K} (R : el_Run t_L18 mc_L18 G i xs OK) {S M : Sx} {o : Nat → Int64} (hr : RelE S M) {cs sl : Nat} (hend : ∀ S M, RelE S M → OK cs sl 1131 (lvW i) [] (WL S M o)) : OK cs sl 1025 (lvW i) [] (WL S M o) := by
  refine R [1131] 80 _ _ _ _ _ _ ?_
  conv => whnf
  refine ⟨rfl, ?_⟩
  conv => whnf
  refine ⟨rfl, ?_⟩
  conv => whnf
  refine ⟨rfl, ?_⟩
  conv => whnf
  refine ⟨rfl, ?_⟩
  conv => whnf
  refine fun _ => call1 (S := S) (M := M) (o := o) (pc_same _ _ _) mx_same rfl hr (fun a S1 tk => ?_)
  conv => whnf
  refine ⟨rfl, ?_⟩
  conv => whnf
  refine ⟨rfl, ?_⟩
  conv => whnf
  refine ⟨rfl, ?_⟩
  conv => whnf
  refine ⟨rfl, ?_⟩
  conv => whnf
  refine fun _ => call2 mm_same rfl tk (fun S2 M2 hr2 => ?_)
  conv => whnf
  refine ⟨fun _ => ?_, fun z => absurd rfl z⟩
  conv => whnf
  exact hend S2 M2 hr2
def tb_L19 : List en_I := [(1106, .aload_n 1, 1107, []), (1113, .invokevirtual 115, 1116, []), (1116, .aload_n 2, 1117, []), (1123, .invokevirtual 118, 1126, []), (1126, .if_icmp .eq 5, 1129, [1131]), (1129, .iconst 0, 1130, []), (1130, .ireturn, 1131, [])]
set_option maxRecDepth 100000 in
theorem tk_L19 : ∀ q ∈ tb_L19, decode cL_law q.1 = .ok (q.2.1, q.2.2.1 - q.1) ∧ en_ck q = true := by decide +kernel
theorem tn_L19 : ∀ q ∈ tb_L19, ek_no q.2.1 = true := by decide +kernel
def mc_L19 : el_M := [(1107, 1, 1113), (1117, 1, 1123)]
set_option maxRecDepth 100000 in
theorem mo_L19 : ∀ q ∈ mc_L19, el_ck cL_law q := by decide +kernel
def t_L19 : en_T := ((7, 1067, 12058), tb_L19, [], cn_L, [(115, 2, 8, 0, 0, LF 0 f_X6_told), (118, 2, 9, 0, 0, LF 24 f_X7_told)], [], 0, some .boolean)
set_option maxRecDepth 100000 in
theorem tB_L19 (D : va_G) (dT : Nat → Nat) (l : Launch) (ny : String) : en_TB en_WD D vwCl dT l room_1 t_L19 RL ny cL_law := ⟨tk_L19, fun s args meth h hn => ⟨fun _ h => absurd h List.not_mem_nil, co_L h args, List.forall_mem_cons.mpr ⟨en_mok_LF 0 (mk_X6_told (own := RL) h (Nat.le_of_ble_eq_true rfl) (Nat.le_of_ble_eq_true rfl) (Or.inl (en_wd h 623 (by decide +kernel) rfl args))), List.forall_mem_cons.mpr ⟨en_mok_LF 24 (mk_X7_told (own := RL) h (Nat.le_of_ble_eq_true rfl) (Nat.le_of_ble_eq_true rfl) (Or.inl (en_wd h 1006 (by decide +kernel) rfl args))), fun _ h => absurd h List.not_mem_nil⟩⟩, fun _ h => absurd h List.not_mem_nil, Or.inl rfl, en_arr h args⟩⟩
set_option maxHeartbeats 4000000 in
set_option maxRecDepth 100000 in
theorem lc_19 {i : Nat} {xs : Nat → Int32} {G : Option Value → List va_E → Prop} {OK : en_K} (R : el_Run t_L19 mc_L19 G i xs OK) {S M : Sx} {o : Nat → Int64} (hr : RelE S M) {cs sl : Nat} (hend : ∀ S M, RelE S M → OK cs sl 1131 (lvW i) [] (WL S M o)) : OK cs sl 1106 (lvW i) [] (WL S M o) := by
  refine R [1131] 80 _ _ _ _ _ _ ?_
  conv => whnf
  refine ⟨rfl, ?_⟩
  conv => whnf
  refine fun _ => call1 (S := S) (M := M) (o := o) (pc_told _) mx_told rfl hr (fun a S1 tk => ?_)
  conv => whnf
  refine ⟨rfl, ?_⟩
  conv => whnf
  refine fun _ => call2 mm_told rfl tk (fun S2 M2 hr2 => ?_)
  conv => whnf
  refine ⟨fun _ => ?_, fun z => absurd rfl z⟩
  conv => whnf
  exact hend S2 M2 hr2
