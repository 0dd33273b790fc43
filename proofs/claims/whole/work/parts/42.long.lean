/-! java.lang.Long.bitCount: its names and rows -/
def RJL : String := "java/lang/Long"
abbrev cJL_bitCount : ByteArray := prog_14_method_50_code
def yJL_bitCount : MethodName := ⟨RJL, "bitCount", "(J)I"⟩
def tb_JL_bitCount : List en_I := [(0, .lload_n 0, 1, []), (1, .lload_n 0, 2, []), (2, .iconst 1, 3, []), (3, .lushr, 4, []), (4, .ldc2_w 314, 7, []), (7, .land, 8, []), (8, .lsub, 9, []), (9, .lstore_n 0, 10, []), (10, .lload_n 0, 11, []), (11, .ldc2_w 316, 14, []), (14, .land, 15, []), (15, .lload_n 0, 16, []), (16, .iconst 2, 17, []), (17, .lushr, 18, []), (18, .ldc2_w 316, 21, []), (21, .land, 22, []), (22, .ladd, 23, []), (23, .lstore_n 0, 24, []), (24, .lload_n 0, 25, []), (25, .lload_n 0, 26, []), (26, .iconst 4, 27, []), (27, .lushr, 28, []), (28, .ladd, 29, []), (29, .ldc2_w 318, 32, []), (32, .land, 33, []), (33, .lstore_n 0, 34, []), (34, .lload_n 0, 35, []), (35, .lload_n 0, 36, []), (36, .bipush 8, 38, []), (38, .lushr, 39, []), (39, .ladd, 40, []), (40, .lstore_n 0, 41, []), (41, .lload_n 0, 42, []), (42, .lload_n 0, 43, []), (43, .bipush 16, 45, []), (45, .lushr, 46, []), (46, .ladd, 47, []), (47, .lstore_n 0, 48, []), (48, .lload_n 0, 49, []), (49, .lload_n 0, 50, []), (50, .bipush 32, 52, []), (52, .lushr, 53, []), (53, .ladd, 54, []), (54, .lstore_n 0, 55, []), (55, .lload_n 0, 56, []), (56, .l2i, 57, []), (57, .bipush 127, 59, []), (59, .iand, 60, []), (60, .ireturn, 61, [])]
set_option maxRecDepth 100000 in
theorem tk_JL_bitCount : ∀ q ∈ tb_JL_bitCount, decode cJL_bitCount q.1 = .ok (q.2.1, q.2.2.1 - q.1) ∧ en_ck q = true := by decide +kernel
def cn_JL : List (Nat × Value) := [(314, .long (6148914691236517205)), (316, .long (3689348814741910323)), (318, .long (1085102592571150095))]
theorem co_JL {s : State} (h : en_WD s) (args : Array Value) : ∀ q ∈ cn_JL, en_cok s args RJL q := List.forall_mem_cons.mpr ⟨en_wd h 292 (by decide +kernel) rfl args, List.forall_mem_cons.mpr ⟨en_wd h 293 (by decide +kernel) rfl args, List.forall_mem_cons.mpr ⟨en_wd h 294 (by decide +kernel) rfl args, fun _ h => absurd h List.not_mem_nil⟩⟩⟩
/-- how many bits are set -/
def pc (x : Int64) : Nat := ct (fun i => x.toBitVec.toNat.testBit i = true) 64
/-- the ways of Long.bitCount -/
def pc1 (x : Int64) : Int64 := x - ((x.toUInt64 >>> ((Int32.ofInt 1).toInt64.toUInt64 &&& Int64.toUInt64 63)).toInt64 &&& 6148914691236517205)
def pc2 (x : Int64) : Int64 := (x &&& 3689348814741910323) + ((x.toUInt64 >>> ((Int32.ofInt 2).toInt64.toUInt64 &&& Int64.toUInt64 63)).toInt64 &&& 3689348814741910323)
def pc3 (x : Int64) : Int64 := (x + (x.toUInt64 >>> ((Int32.ofInt 4).toInt64.toUInt64 &&& Int64.toUInt64 63)).toInt64) &&& 1085102592571150095
def pcs (k : Int32) (x : Int64) : Int64 := x + (x.toUInt64 >>> (k.toInt64.toUInt64 &&& Int64.toUInt64 63)).toInt64
def pcr (x : Int64) : Int32 := (pcs (Int8.ofInt 32).toInt32 (pcs (Int8.ofInt 16).toInt32 (pcs (Int8.ofInt 8).toInt32 (pc3 (pc2 (pc1 x)))))).toInt32 &&& (Int8.ofInt 127).toInt32
def f_JL_bitCount := en_f (σ := Int64 × List va_E) (fun x => [.long x.1]) (fun x => x.2) (fun _ => True) (fun x v w => v = some (.int (pcr x.1)) ∧ w = x.2)
def rm_JL_bitCount : Room := { frames := 0, cells := 0, slots := 0, locals := 0 }
def t_JL_bitCount : en_T := ((2, 0, 0), tb_JL_bitCount, [], cn_JL, [], [], 0, some .int)
set_option maxRecDepth 100000 in
theorem tB_JL_bitCount (D : va_G) (dT : Nat → Nat) (l : Launch) : en_TB en_WD D vwCl dT l rm_JL_bitCount t_JL_bitCount RJL "bitCount" cJL_bitCount := ⟨tk_JL_bitCount, fun s args meth h hn => ⟨fun _ h => absurd h List.not_mem_nil, co_JL h args, fun _ h => absurd h List.not_mem_nil, fun _ h => absurd h List.not_mem_nil, Or.inl rfl, en_arr h args⟩⟩
set_option maxHeartbeats 4000000 in
set_option maxRecDepth 100000 in
theorem bd_JL_bitCount : en_B (σ := Int64 × List va_E) t_JL_bitCount (fun x => [.long x.1]) (fun x => x.2) (fun _ => True) (fun x v w => v = some (.int (pcr x.1)) ∧ w = x.2) := by
  rintro ⟨x, ws⟩ - G hG OK ⟨run, sub⟩
  dsimp only at hG ⊢
  refine run [] 80 _ _ _ _ _ _ ?_
  conv => whnf
  exact hG _ _ ⟨rfl, rfl⟩
theorem ct_JL_bitCount (D : va_G) (dT : Nat → Nat) (l : Launch) : en_CT en_WD D vwCl dT l yJL_bitCount cJL_bitCount 2 (some .int) rm_JL_bitCount f_JL_bitCount := en_met en_WD1 en_WD2 (by decide) rfl rfl (tB_JL_bitCount D dT l) (en_f_ln (fun _ => Nat.le_of_ble_eq_true rfl)) (en_f_bd bd_JL_bitCount)
set_option maxRecDepth 100000 in
theorem mk_JL_bitCount {D : va_G} {dT : Nat → Nat} {l : Launch} {R : Room} {s : State} {args : Array Value} {own : String} {idx : Nat} (h : en_WD s) (h1 : rm_JL_bitCount.frames + 1 ≤ R.frames) (h2 : 8 + (2 + 11) + rm_JL_bitCount.locals ≤ R.locals) (hl : (Jvm.Cond.methodLink own idx yJL_bitCount).before args s = true ∨ ∃ host, (Jvm.Cond.methodLinkNest own idx yJL_bitCount host).before args s = true) : en_mok en_WD D vwCl dT l R s args own (idx, 1, 0, 0, 0, f_JL_bitCount) :=
  ⟨yJL_bitCount, cJL_bitCount, 2, some .int, rm_JL_bitCount, 1, ct_JL_bitCount D dT l, rfl, rfl, h1, h2, en_wd h 291 rfl rfl args, en_wd h 67 (by decide +kernel) rfl args, by decide, by decide, hl, ⟨en_wd h 290 (by decide +kernel) rfl args, rfl⟩⟩
