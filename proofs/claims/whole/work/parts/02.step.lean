/-! ONE INSTRUCTION, and a run of them, as what they ask -/
/-- a row of a method's table: pc, instruction, the next pc, the targets -/
abbrev en_I : Type := Nat × Instr × Nat × List Nat
def en_lk {α : Type} : List (Nat × α) → Nat → Option α
  | [], _ => none
  | q :: t, i => bif Nat.beq q.1 i then some q.2 else en_lk t i
theorem en_lk_mem {α : Type} : ∀ {t : List (Nat × α)} {i : Nat} {x : α}, en_lk t i = some x → (i, x) ∈ t
  | [], _, _, h => by simp [en_lk] at h
  | q :: t, i, v, h => by
    simp only [en_lk] at h
    cases hq : Nat.beq q.1 i with
    | true =>
      rw [hq] at h
      simp only [cond_true] at h
      have h1 : q.1 = i := Nat.eq_of_beq_eq_true hq
      cases h
      subst h1
      exact List.mem_cons_self
    | false =>
      rw [hq] at h
      simp only [cond_false] at h
      exact List.mem_cons_of_mem _ (en_lk_mem h)
/-- how long an instruction is (those that are here) -/
def en_len : Instr → Nat
  | .bipush _ | .ldc _ | .iload _ | .lload _ | .aload _ | .istore _ | .lstore _ | .astore _ | .newarray _ => 2
  | .sipush _ | .ldc2_w _ | .ldc_w _ | .getfield _ | .putfield _ | .getstatic _ | .putstatic _ | .goto _ | .ifCond _ _ | .if_icmp _ _ | .iinc _ _ | .invokevirtual _ | .invokestatic _ | .invokespecial _ | .new _ | .ifnull _ | .ifnonnull _ | .if_acmp _ _ => 3
  | _ => 1
def en_zip (pc : Nat) : List Int → List Nat → Bool
  | [], [] => true
  | o :: os, t :: ts => decide ((pc : Int) + o = (t : Int)) && en_zip pc os ts
  | _, _ => false
/-- a row is well made -/
def en_ck (q : en_I) : Bool := match q.2.1 with
  | .goto o | .ifCond _ o | .if_icmp _ o => Nat.beq q.2.2.1 (q.1 + 3) && en_zip q.1 [o] q.2.2.2
  | .tableswitch d lo hi offs => decide (hi + 1 = lo + (offs.size : Int)) && en_zip q.1 (d :: offs.toList) q.2.2.2
  | .lookupswitch d ps => en_zip q.1 (d :: ps.toList.map (fun x => x.2)) q.2.2.2 && (ps.toList.zip (ps.toList.drop 1)).all (fun (a, next) => a.1 < next.1)
  | i => Nat.beq q.2.2.1 (q.1 + en_len i)
abbrev en_K : Type := Nat → Nat → Nat → en_L → List Value → List va_E → Prop
def en_i (st : List Value) (f : Int32 → List Value → Prop) : Prop := match st with
  | .int x :: r => f x r
  | _ => False
def en_j (st : List Value) (f : Int64 → List Value → Prop) : Prop := match st with
  | .long x :: r => f x r
  | _ => False
def en_r (st : List Value) (f : Nat → List Value → Prop) : Prop := match st with
  | .ref x :: r => f x r
  | _ => False
/-- two ints: the one below first -/
def en_ii (st : List Value) (f : Int32 → Int32 → List Value → Prop) : Prop := match st with
  | .int y :: .int x :: r => f x y r
  | _ => False
def en_jj (st : List Value) (f : Int64 → Int64 → List Value → Prop) : Prop := match st with
  | .long y :: .long x :: r => f x y r
  | _ => False
def en_ji (st : List Value) (f : Int64 → Int32 → List Value → Prop) : Prop := match st with
  | .int y :: .long x :: r => f x y r
  | _ => False
/-- an array's place, a place in it -/
def en_ai (st : List Value) (f : Nat → Int32 → List Value → Prop) : Prop := match st with
  | .int i :: .ref a :: r => f a i r
  | _ => False
def en_aii (st : List Value) (f : Nat → Int32 → Int32 → List Value → Prop) : Prop := match st with
  | .int x :: .int i :: .ref a :: r => f a i x r
  | _ => False
def en_aij (st : List Value) (f : Nat → Int32 → Int64 → List Value → Prop) : Prop := match st with
  | .long x :: .int i :: .ref a :: r => f a i x r
  | _ => False
/-- an array of ints (0) or booleans (2) at a place: its length, what it holds -/
def en_ar (ws : List va_E) (k a : Nat) (f : Nat → (Nat → Int32) → Prop) : Prop := match ws[a]? with
  | some (.inl (tk, n, .inl g)) => bif Nat.beq tk k then f n g else False
  | _ => False
def en_al (ws : List va_E) (a : Nat) (f : Nat → (Nat → Int64) → Prop) : Prop := match ws[a]? with
  | some (.inl (tk, n, .inr (.inl g))) => bif Nat.beq tk 1 then f n g else False
  | _ => False
def en_an (ws : List va_E) (a : Nat) (f : Nat → Prop) : Prop := match ws[a]? with
  | some (.inl (tk, n, _)) => bif Nat.blt tk 3 then f n else False
  | _ => False
/-- an object of the class ci at a place: its fields -/
def en_ob (ws : List va_E) (ci a : Nat) (f : List Value → Prop) : Prop := match ws[a]? with
  | some (.inr (c, fs)) => bif Nat.beq c ci then f fs else False
  | _ => False
def en_fit : FieldType → Value → Bool
  | .int, .int _ => true
  | .long, .long _ => true
  | .object _, .ref _ => true
  | .array _, .ref _ => true
  | _, _ => false
/-- is a value's place below n -/
def en_lo (n : Nat) : Value → Bool
  | .ref a => Nat.blt a n
  | _ => true
def en_los (n : Nat) : List Value → Bool
  | [] => true
  | v :: t => en_lo n v && en_los n t
def en_loL (n : Nat) : en_L → Bool
  | [] => true
  | q :: t => en_lo n q.2 && en_loL n t
def en_loE (n : Nat) : va_E → Bool
  | .inl _ => true
  | .inr o => en_los n o.2
def en_loW (n : Nat) : List va_E → Bool
  | [] => true
  | e :: t => en_loE n e && en_loW n t
def en_sum : List Value → Nat
  | [] => 0
  | v :: t => v.category + en_sum t
def en_sw (x : Int32) (k : Nat → Prop) : Int → List Nat → Prop
  | _, [] => True
  | v, t :: ts => (x.toInt = v → k t) ∧ en_sw x k (v + 1) ts
def en_lsw (x : Int32) (k : Nat → Prop) (d : Nat) : List (Int × Int) → List Nat → Prop
  | p :: ps, t :: ts => (x.toInt = p.1 → k t) ∧ (¬ x.toInt = p.1 → en_lsw x k d ps ts)
  | _, _ => k d
/-- a field by its number in the pool: class, place, type, may it be written here -/
abbrev en_F : Type := List (Nat × Nat × Nat × FieldType × Bool)
/-- a callee: how many words on the stack, its kind (0 static, 1 constructor, n + 2: on an object of the class n), new cells, new slots, what it asks -/
abbrev en_C : Type := Nat × Nat × Nat × Nat × (List Value → List va_E → (Option Value → List va_E → Prop) → Prop)
/-- what can be made: class, slots, the fields at first -/
abbrev en_N : Type := List (Nat × Nat × Nat × List Value)
def en_bf (mc ms cs sl a b : Nat) (X : Prop) : Prop := bif Nat.beq a 0 && Nat.beq b 0 then X else (cs + a ≤ mc ∧ sl + b ≤ ms) ∧ X
def en_rcv (ws : List va_E) : Nat → List Value → Bool
  | 0, _ => true
  | 1, .ref _ :: _ => true
  | ci + 2, .ref a :: _ => match ws[a]? with
    | some (.inr (c, _)) => Nat.beq c ci
    | _ => false
  | _, _ => false
def en_in : List Nat → Nat → Bool
  | [], _ => false
  | a :: t, i => Nat.beq a i || en_in t i
def en_call (mc ms : Nat) (q : en_C) (k : en_K) (cs sl pc : Nat) (lv : en_L) (st : List Value) (ws : List va_E) : Prop :=
  bif Nat.ble q.1 st.length && en_rcv ws q.2.1 (st.take q.1).reverse && Nat.ble (en_sum (st.drop q.1)) 8 && en_los ws.length (st.drop q.1) && en_loL ws.length lv then
    en_bf mc ms cs sl q.2.2.1 q.2.2.2.1 (q.2.2.2.2 (st.take q.1).reverse ws (fun v w => k (cs + q.2.2.1) (sl + q.2.2.2.1) pc lv (v.toList ++ st.drop q.1) w))
  else False
def en_cnd (c : ClassFile.Cond) (x : Int32) (t f : Prop) : Prop := match c with
  | .eq => (x = 0 → t) ∧ (¬ x = 0 → f)
  | .ne => (¬ x = 0 → t) ∧ (x = 0 → f)
  | .lt => (x < 0 → t) ∧ (¬ x < 0 → f)
  | .ge => (0 ≤ x → t) ∧ (¬ 0 ≤ x → f)
  | .gt => (0 < x → t) ∧ (¬ 0 < x → f)
  | .le => (x ≤ 0 → t) ∧ (¬ x ≤ 0 → f)
def en_cmp (c : ClassFile.Cond) (x y : Int32) (t f : Prop) : Prop := match c with
  | .eq => (x = y → t) ∧ (¬ x = y → f)
  | .ne => (¬ x = y → t) ∧ (x = y → f)
  | .lt => (x < y → t) ∧ (¬ x < y → f)
  | .ge => (y ≤ x → t) ∧ (¬ y ≤ x → f)
  | .gt => (y < x → t) ∧ (¬ y < x → f)
  | .le => (x ≤ y → t) ∧ (¬ x ≤ y → f)
/-- the tables of a method: its locals, new cells, new slots; rows, fields, constants, callees, what it makes, Object's constructor's number; its answer's type; what must hold at its end -/
abbrev en_T : Type := (Nat × Nat × Nat) × List en_I × en_F × List (Nat × Value) × List (Nat × en_C) × en_N × Nat × Option FieldType
def en_st (t : en_T) (G : Option Value → List va_E → Prop) (k : en_K) (cs sl pc : Nat) (lv : en_L) (st : List Value) (ws : List va_E) : Prop :=
  match en_lk t.2.1 pc with
  | none => False
  | some (i, nx, tg) => match i with
    | .iconst n => k cs sl nx lv (.int (Int32.ofInt n) :: st) ws
    | .bipush n => k cs sl nx lv (.int (Int8.ofInt n).toInt32 :: st) ws
    | .sipush n => k cs sl nx lv (.int (Int16.ofInt n).toInt32 :: st) ws
    | .lconst n => k cs sl nx lv (.long (Int64.ofNat (n : Nat)) :: st) ws
    | .ldc x => match en_lk t.2.2.2.1 x with
      | some (.int v) => k cs sl nx lv (.int v :: st) ws
      | _ => False
    | .ldc2_w x => match en_lk t.2.2.2.1 x with
      | some (.long v) => k cs sl nx lv (.long v :: st) ws
      | _ => False
    | .iload_n j => match en_get lv (j : Nat) with
      | some (.int v) => k cs sl nx lv (.int v :: st) ws
      | _ => False
    | .iload j => match en_get lv j with
      | some (.int v) => k cs sl nx lv (.int v :: st) ws
      | _ => False
    | .lload_n j => match en_get lv (j : Nat) with
      | some (.long v) => k cs sl nx lv (.long v :: st) ws
      | _ => False
    | .lload j => match en_get lv j with
      | some (.long v) => k cs sl nx lv (.long v :: st) ws
      | _ => False
    | .aload_n j => match en_get lv (j : Nat) with
      | some (.ref v) => k cs sl nx lv (.ref v :: st) ws
      | _ => False
    | .aload j => match en_get lv j with
      | some (.ref v) => k cs sl nx lv (.ref v :: st) ws
      | _ => False
    | .istore_n j => en_i st fun x r => bif Nat.blt (j : Nat) t.1.1 then k cs sl nx (en_put 1 (j : Nat) (.int x) lv) r ws else False
    | .istore j => en_i st fun x r => bif Nat.blt j t.1.1 then k cs sl nx (en_put 1 j (.int x) lv) r ws else False
    | .lstore_n j => en_j st fun x r => bif Nat.blt ((j : Nat) + 1) t.1.1 then k cs sl nx (en_put 2 (j : Nat) (.long x) lv) r ws else False
    | .lstore j => en_j st fun x r => bif Nat.blt (j + 1) t.1.1 then k cs sl nx (en_put 2 j (.long x) lv) r ws else False
    | .astore_n j => en_r st fun x r => bif Nat.blt (j : Nat) t.1.1 then k cs sl nx (en_put 1 (j : Nat) (.ref x) lv) r ws else False
    | .astore j => en_r st fun x r => bif Nat.blt j t.1.1 then k cs sl nx (en_put 1 j (.ref x) lv) r ws else False
    | .iinc j n => match en_get lv j with
      | some (.int v) => bif Nat.blt j t.1.1 then k cs sl nx (en_put 1 j (.int (v + Int32.ofInt n)) lv) st ws else False
      | _ => False
    | .iadd => en_ii st fun x y r => k cs sl nx lv (.int (x + y) :: r) ws
    | .isub => en_ii st fun x y r => k cs sl nx lv (.int (x - y) :: r) ws
    | .imul => en_ii st fun x y r => k cs sl nx lv (.int (x * y) :: r) ws
    | .iand => en_ii st fun x y r => k cs sl nx lv (.int (x &&& y) :: r) ws
    | .ior => en_ii st fun x y r => k cs sl nx lv (.int (x ||| y) :: r) ws
    | .ixor => en_ii st fun x y r => k cs sl nx lv (.int (x ^^^ y) :: r) ws
    | .idiv => en_ii st fun x y r => ¬ y = 0 ∧ k cs sl nx lv (.int (x / y) :: r) ws
    | .irem => en_ii st fun x y r => ¬ y = 0 ∧ k cs sl nx lv (.int (x - x / y * y) :: r) ws
    | .ineg => en_i st fun x r => k cs sl nx lv (.int (-x) :: r) ws
    | .ishl => en_ii st fun x y r => k cs sl nx lv (.int (x <<< (y &&& 31)) :: r) ws
    | .ishr => en_ii st fun x y r => k cs sl nx lv (.int (x >>> (y &&& 31)) :: r) ws
    | .ladd => en_jj st fun x y r => k cs sl nx lv (.long (x + y) :: r) ws
    | .lsub => en_jj st fun x y r => k cs sl nx lv (.long (x - y) :: r) ws
    | .lmul => en_jj st fun x y r => k cs sl nx lv (.long (x * y) :: r) ws
    | .land => en_jj st fun x y r => k cs sl nx lv (.long (x &&& y) :: r) ws
    | .lor => en_jj st fun x y r => k cs sl nx lv (.long (x ||| y) :: r) ws
    | .lxor => en_jj st fun x y r => k cs sl nx lv (.long (x ^^^ y) :: r) ws
    | .ldiv => en_jj st fun x y r => ¬ y = 0 ∧ k cs sl nx lv (.long (x / y) :: r) ws
    | .lrem => en_jj st fun x y r => ¬ y = 0 ∧ k cs sl nx lv (.long (x - x / y * y) :: r) ws
    | .lushr => en_ji st fun x y r => k cs sl nx lv (.long (x.toUInt64 >>> (y.toInt64.toUInt64 &&& Int64.toUInt64 63)).toInt64 :: r) ws
    | .lshl => en_ji st fun x y r => k cs sl nx lv (.long (x <<< (y.toInt64 &&& 63)) :: r) ws
    | .lshr => en_ji st fun x y r => k cs sl nx lv (.long (x >>> (y.toInt64 &&& 63)) :: r) ws
    | .lcmp => en_jj st fun x y r => k cs sl nx lv (.int (lg_cmp x y) :: r) ws
    | .i2l => en_i st fun x r => k cs sl nx lv (.long x.toInt64 :: r) ws
    | .l2i => en_j st fun x r => k cs sl nx lv (.int x.toInt32 :: r) ws
    | .dup => match st with
      | v :: r => bif Nat.beq v.category 1 then k cs sl nx lv (v :: v :: r) ws else False
      | _ => False
    | .pop => match st with
      | v :: r => bif Nat.beq v.category 1 then k cs sl nx lv r ws else False
      | _ => False
    | .dup_x1 => match st with
      | v :: u :: r => bif Nat.beq v.category 1 && Nat.beq u.category 1 then k cs sl nx lv (v :: u :: v :: r) ws else False
      | _ => False
    | .dup_x2 => match st with
      | v :: u :: z :: r => bif Nat.beq v.category 1 && Nat.beq u.category 1 && Nat.beq z.category 1 then k cs sl nx lv (v :: u :: z :: v :: r) ws else False
      | _ => False
    | .dup2 => match st with
      | v :: r => bif Nat.beq v.category 2 then k cs sl nx lv (v :: v :: r) ws else match r with
        | u :: r2 => bif Nat.beq v.category 1 && Nat.beq u.category 1 then k cs sl nx lv (v :: u :: v :: u :: r2) ws else False
        | _ => False
      | _ => False
    | .ifCond c _ => match tg with
      | [g] => en_i st fun x r => en_cnd c x (k cs sl g lv r ws) (k cs sl nx lv r ws)
      | _ => False
    | .if_icmp c _ => match tg with
      | [g] => en_ii st fun x y r => en_cmp c x y (k cs sl g lv r ws) (k cs sl nx lv r ws)
      | _ => False
    | .goto _ => match tg with
      | [g] => k cs sl g lv st ws
      | _ => False
    | .tableswitch _ lo hi _ => match tg with
      | d :: gs => en_i st fun x r => ((x.toInt < lo ∨ hi < x.toInt) → k cs sl d lv r ws) ∧ en_sw x (fun g => k cs sl g lv r ws) lo gs
      | _ => False
    | .getfield x => match en_lk t.2.2.1 x with
      | some (ci, kf, _, _) => en_r st fun a r => en_ob ws ci a fun fs => match fs[kf]? with
        | some v => k cs sl nx lv (v :: r) ws
        | none => False
      | none => False
    | .putfield x => match en_lk t.2.2.1 x with
      | some (ci, kf, ty, w) => match st with
        | v :: .ref a :: r => bif w && en_fit ty v then en_ob ws ci a fun fs => bif Nat.blt kf fs.length then k cs sl nx lv r (ws.set a (.inr (ci, fs.set kf v))) else False else False
        | _ => False
      | none => False
    | .iaload => en_ai st fun a i r => en_ar ws 0 a fun n f => vp_in i n ∧ k cs sl nx lv (.int (f i.toNatClampNeg) :: r) ws
    | .baload => en_ai st fun a i r => en_ar ws 2 a fun n f => vp_in i n ∧ k cs sl nx lv (.int (f i.toNatClampNeg) :: r) ws
    | .laload => en_ai st fun a i r => en_al ws a fun n f => vp_in i n ∧ k cs sl nx lv (.long (f i.toNatClampNeg) :: r) ws
    | .iastore => en_aii st fun a i x r => en_ar ws 0 a fun n f => vp_in i n ∧ k cs sl nx lv r (ws.set a (.inl (0, n, .inl (upd f i.toNatClampNeg x))))
    | .bastore => en_aii st fun a i x r => en_ar ws 2 a fun n f => vp_in i n ∧ k cs sl nx lv r (ws.set a (.inl (2, n, .inl (upd f i.toNatClampNeg (vp_nar .boolean x)))))
    | .lastore => en_aij st fun a i x r => en_al ws a fun n f => vp_in i n ∧ k cs sl nx lv r (ws.set a (.inl (1, n, .inr (.inl (vp_updL f i.toNatClampNeg x)))))
    | .arraylength => en_r st fun a r => en_an ws a fun n => k cs sl nx lv (.int (Int32.ofNat n) :: r) ws
    | .invokevirtual x => match en_lk t.2.2.2.2.1 x with
      | some q => bif Nat.ble 2 q.2.1 then en_call t.1.2.1 t.1.2.2 q k cs sl nx lv st ws else False
      | none => False
    | .invokestatic x => match en_lk t.2.2.2.2.1 x with
      | some q => bif Nat.beq 0 q.2.1 then en_call t.1.2.1 t.1.2.2 q k cs sl nx lv st ws else False
      | none => False
    | .invokespecial x => bif Nat.beq x t.2.2.2.2.2.2.1 then (match st with
        | .ref _ :: r => bif Nat.blt 0 x && Nat.ble (en_sum r) 8 then k cs sl nx lv r ws else False
        | _ => False) else match en_lk t.2.2.2.2.1 x with
      | some q => bif Nat.beq 1 q.2.1 then en_call t.1.2.1 t.1.2.2 q k cs sl nx lv st ws else False
      | none => False
    | .new x => match en_lk t.2.2.2.2.2.1 x with
      | some (ci, N, fs) => bif en_los ws.length st && en_loL ws.length lv && en_loW ws.length ws then (cs + 1 ≤ t.1.2.1 ∧ sl + N ≤ t.1.2.2) ∧ k (cs + 1) (sl + N) nx lv (.ref ws.length :: st) (ws ++ [.inr (ci, fs)]) else False
      | none => False
    | .newarray ty => en_i st fun n r => bif en_los ws.length r && en_loL ws.length lv && en_loW ws.length ws then (¬ n < 0 ∧ n.toNatClampNeg ≤ 1000000 ∧ cs + 1 ≤ t.1.2.1 ∧ sl + n.toNatClampNeg ≤ t.1.2.2) ∧ (match ty with
      | .int => k (cs + 1) (sl + n.toNatClampNeg) nx lv (.ref ws.length :: r) (ws ++ [.inl (0, n.toNatClampNeg, .inl (fun _ => 0))])
      | .long => k (cs + 1) (sl + n.toNatClampNeg) nx lv (.ref ws.length :: r) (ws ++ [.inl (1, n.toNatClampNeg, .inr (.inl (fun _ => 0)))])
      | .boolean => k (cs + 1) (sl + n.toNatClampNeg) nx lv (.ref ws.length :: r) (ws ++ [.inl (2, n.toNatClampNeg, .inl (fun _ => 0))])
      | _ => False) else False
    | .ireturn => match st with
      | [.int v] => match t.2.2.2.2.2.2.2 with
        | some .int => G (some (.int v)) ws
        | some .boolean => narrow .boolean (.int v) = .int v ∧ G (some (.int v)) ws
        | _ => False
      | _ => False
    | .return_ => match st, t.2.2.2.2.2.2.2 with
      | [], none => G none ws
      | _, _ => False
    | _ => False
/-- a run of at most n instructions; it stops at the places 'stop' -/
def en_vc (t : en_T) (G : Option Value → List va_E → Prop) (stop : List Nat) (K : en_K) : Nat → en_K
  | 0, cs, sl, pc, lv, st, ws => K cs sl pc lv st ws
  | n + 1, cs, sl, pc, lv, st, ws => en_st t G (fun cs sl pc lv st ws => bif en_in stop pc then K cs sl pc lv st ws else en_vc t G stop K n cs sl pc lv st ws) cs sl pc lv st ws
