def m_sg (id : Nat) : Nat := match m_nth m_tab id with
  | some M => M.2.2.2.2.2.2.1 + 16 * M.2.2.2.2.2.1 + 256 * M.2.2.2.2.1
  | none => 99999
def m_t6 : FieldType → Bool
  | .byte => true | .char => true | .int => true | .long => true | .short => true | .boolean => true
  | _ => false
def m_isR (ci j : Nat) : Bool := match m_ty ci j with
  | .object _ => true
  | .array _ => true
  | _ => false
def m_G (XL : Nat) (XS : Nat → Int32) (C : mC) (rt : Option FieldType) (kd mc ms : Nat) (Q : mK) (P : mT → Prop) (i : Instr) (nx a b : Nat) (v : Value) (sw : List (Int32 × Nat)) (lo : List (Option Value)) (st : List Value) (sh : List mS) (I : Nat → Nat → Int32) (L : Nat → Nat → Int64) (ce sl : Nat) : Prop :=
  match i with
  | .iconst _ => P (nx, lo, v :: st, (sh, I, L), ce, sl)
  | .bipush _ => P (nx, lo, v :: st, (sh, I, L), ce, sl)
  | .sipush _ => P (nx, lo, v :: st, (sh, I, L), ce, sl)
  | .lconst _ => P (nx, lo, v :: st, (sh, I, L), ce, sl)
  | .ldc _ => P (nx, lo, v :: st, (sh, I, L), ce, sl)
  | .ldc2_w _ => P (nx, lo, v :: st, (sh, I, L), ce, sl)
  | .iload_n _ => match m_nth lo a with
    | some (some (.int x)) => P (nx, lo, .int x :: st, (sh, I, L), ce, sl)
    | _ => False
  | .iload _ => match m_nth lo a with
    | some (some (.int x)) => P (nx, lo, .int x :: st, (sh, I, L), ce, sl)
    | _ => False
  | .lload_n _ => match m_nth lo a with
    | some (some (.long x)) => P (nx, lo, .long x :: st, (sh, I, L), ce, sl)
    | _ => False
  | .lload _ => match m_nth lo a with
    | some (some (.long x)) => P (nx, lo, .long x :: st, (sh, I, L), ce, sl)
    | _ => False
  | .aload_n _ => match m_nth lo a with
    | some (some (.ref x)) => P (nx, lo, .ref x :: st, (sh, I, L), ce, sl)
    | _ => False
  | .aload _ => match m_nth lo a with
    | some (some (.ref x)) => P (nx, lo, .ref x :: st, (sh, I, L), ce, sl)
    | _ => False
  | .istore_n _ => match st with
    | .int x :: r => (match Nat.blt a lo.length with | true => P (nx, m_sto1 lo a (.int x), r, (sh, I, L), ce, sl) | false => False)
    | _ => False
  | .istore _ => match st with
    | .int x :: r => (match Nat.blt a lo.length with | true => P (nx, m_sto1 lo a (.int x), r, (sh, I, L), ce, sl) | false => False)
    | _ => False
  | .lstore_n _ => match st with
    | .long x :: r => (match Nat.blt (a + 1) lo.length with | true => P (nx, m_sto2 lo a (.long x), r, (sh, I, L), ce, sl) | false => False)
    | _ => False
  | .lstore _ => match st with
    | .long x :: r => (match Nat.blt (a + 1) lo.length with | true => P (nx, m_sto2 lo a (.long x), r, (sh, I, L), ce, sl) | false => False)
    | _ => False
  | .astore_n _ => match st with
    | .ref x :: r => (match Nat.blt a lo.length with | true => P (nx, m_sto1 lo a (.ref x), r, (sh, I, L), ce, sl) | false => False)
    | _ => False
  | .iinc _ _ => match m_nth lo a, v with
    | some (some (.int x)), .int d => (match Nat.blt a lo.length with | true => P (nx, m_sto1 lo a (.int (x + d)), st, (sh, I, L), ce, sl) | false => False)
    | _, _ => False
  | .iadd => match st with
    | .int y :: .int x :: r => P (nx, lo, .int (x + y) :: r, (sh, I, L), ce, sl)
    | _ => False
  | .isub => match st with
    | .int y :: .int x :: r => P (nx, lo, .int (x - y) :: r, (sh, I, L), ce, sl)
    | _ => False
  | .imul => match st with
    | .int y :: .int x :: r => P (nx, lo, .int (x * y) :: r, (sh, I, L), ce, sl)
    | _ => False
  | .iand => match st with
    | .int y :: .int x :: r => P (nx, lo, .int (x &&& y) :: r, (sh, I, L), ce, sl)
    | _ => False
  | .ior => match st with
    | .int y :: .int x :: r => P (nx, lo, .int (x ||| y) :: r, (sh, I, L), ce, sl)
    | _ => False
  | .ixor => match st with
    | .int y :: .int x :: r => P (nx, lo, .int (x ^^^ y) :: r, (sh, I, L), ce, sl)
    | _ => False
  | .ishl => match st with
    | .int y :: .int x :: r => P (nx, lo, .int (x <<< (y &&& 31)) :: r, (sh, I, L), ce, sl)
    | _ => False
  | .ishr => match st with
    | .int y :: .int x :: r => P (nx, lo, .int (x >>> (y &&& 31)) :: r, (sh, I, L), ce, sl)
    | _ => False
  | .iushr => match st with
    | .int y :: .int x :: r => P (nx, lo, .int ((x.toUInt32 >>> (y.toUInt32 &&& Int32.toUInt32 31)).toInt32) :: r, (sh, I, L), ce, sl)
    | _ => False
  | .ineg => match st with
    | .int x :: r => P (nx, lo, .int (-x) :: r, (sh, I, L), ce, sl)
    | _ => False
  | .ladd => match st with
    | .long y :: .long x :: r => P (nx, lo, .long (x + y) :: r, (sh, I, L), ce, sl)
    | _ => False
  | .lsub => match st with
    | .long y :: .long x :: r => P (nx, lo, .long (x - y) :: r, (sh, I, L), ce, sl)
    | _ => False
  | .lmul => match st with
    | .long y :: .long x :: r => P (nx, lo, .long (x * y) :: r, (sh, I, L), ce, sl)
    | _ => False
  | .land => match st with
    | .long y :: .long x :: r => P (nx, lo, .long (x &&& y) :: r, (sh, I, L), ce, sl)
    | _ => False
  | .lor => match st with
    | .long y :: .long x :: r => P (nx, lo, .long (x ||| y) :: r, (sh, I, L), ce, sl)
    | _ => False
  | .lneg => match st with
    | .long x :: r => P (nx, lo, .long (-x) :: r, (sh, I, L), ce, sl)
    | _ => False
  | .lshl => match st with
    | .int y :: .long x :: r => P (nx, lo, .long (x <<< (y.toInt64 &&& 63)) :: r, (sh, I, L), ce, sl)
    | _ => False
  | .lushr => match st with
    | .int y :: .long x :: r => P (nx, lo, .long ((x.toUInt64 >>> (y.toInt64.toUInt64 &&& Int64.toUInt64 63)).toInt64) :: r, (sh, I, L), ce, sl)
    | _ => False
  | .lcmp => match st with
    | .long y :: .long x :: r => P (nx, lo, .int (lg_cmp x y) :: r, (sh, I, L), ce, sl)
    | _ => False
  | .i2l => match st with
    | .int x :: r => P (nx, lo, .long x.toInt64 :: r, (sh, I, L), ce, sl)
    | _ => False
  | .l2i => match st with
    | .long x :: r => P (nx, lo, .int x.toInt32 :: r, (sh, I, L), ce, sl)
    | _ => False
  | .i2b => match st with
    | .int x :: r => P (nx, lo, .int x.toInt8.toInt32 :: r, (sh, I, L), ce, sl)
    | _ => False
  | .i2s => match st with
    | .int x :: r => P (nx, lo, .int x.toInt16.toInt32 :: r, (sh, I, L), ce, sl)
    | _ => False
  | .i2c => match st with
    | .int x :: r => P (nx, lo, .int ((x.toUInt32 % 65536).toInt32) :: r, (sh, I, L), ce, sl)
    | _ => False
  | .dup => match st with
    | u :: r => (match m_c2 u with | true => False | false => P (nx, lo, u :: u :: r, (sh, I, L), ce, sl))
    | _ => False
  | .pop => match st with
    | u :: r => (match m_c2 u with | true => False | false => P (nx, lo, r, (sh, I, L), ce, sl))
    | _ => False
  | .dup2 => match st with
    | u :: t :: r => (match m_c2 u with | true => False | false => (match m_c2 t with | true => False | false => P (nx, lo, u :: t :: u :: t :: r, (sh, I, L), ce, sl)))
    | _ => False
  | .ifCond cd _ => match st with
    | .int x :: r => m_if cd x 0 (P (a, lo, r, (sh, I, L), ce, sl)) (P (nx, lo, r, (sh, I, L), ce, sl))
    | _ => False
  | .if_icmp cd _ => match st with
    | .int y :: .int x :: r => m_if cd x y (P (a, lo, r, (sh, I, L), ce, sl)) (P (nx, lo, r, (sh, I, L), ce, sl))
    | _ => False
  | .goto _ => P (a, lo, st, (sh, I, L), ce, sl)
  | .lookupswitch _ _ => match st with
    | .int x :: r => m_sw sw a x (fun t => P (t, lo, r, (sh, I, L), ce, sl))
    | _ => False
  | .tableswitch _ _ _ _ => match st with
    | .int x :: r => m_sw sw a x (fun t => P (t, lo, r, (sh, I, L), ce, sl))
    | _ => False
  | .getfield _ => match st with
    | .ref k :: r => (match m_nth sh k with
      | some (.inr (ci, fs)) => (match Nat.beq ci a with
        | true => (match m_nth fs b with
          | some f => P (nx, lo, m_fv I L ci k b f :: r, (sh, I, L), ce, sl)
          | none => False)
        | false => False)
      | _ => False)
    | _ => False
  | .putfield _ => match st with
    | u :: .ref k :: r => (match m_nth sh k with
      | some (.inr (ci, fs)) => (match Nat.beq ci a with
        | true => (match u, m_nth fs b with
          | .int x, some none => (match m_ty a b with
            | .int => P (nx, lo, r, (sh, m_up I k b x, L), ce, sl)
            | .boolean => (x = 0 ∨ x = 1) ∧ P (nx, lo, r, (sh, m_up I k b x, L), ce, sl)
            | _ => False)
          | .long x, some none => (match m_ty a b with
            | .long => P (nx, lo, r, (sh, I, m_upL L k b x), ce, sl)
            | _ => False)
          | .ref t, some (some _) => (match m_isR a b && (Nat.beq kd (100 + a) && Nat.blt t 1000000) with
            | true => P (nx, lo, r, (sh.set k (.inr (ci, fs.set b (some (some t)))), I, L), ce, sl)
            | false => False)
          | _, _ => False)
        | false => False)
      | _ => False)
    | _ => False
  | .arraylength => match st with
    | .ref k :: r => (match m_nth sh k with
      | some (.inl (ty, n)) => (match m_t6 ty with | true => P (nx, lo, .int (Int32.ofNat n) :: r, (sh, I, L), ce, sl) | false => False)
      | some _ => False
      | none => (match Nat.beq k 3000000 with
        | true => P (nx, lo, .int (Int32.ofNat XL) :: r, (sh, I, L), ce, sl)
        | false => False))
    | _ => False
  | .iaload => match st with
    | .int ix :: .ref k :: r => (match m_nth sh k with
      | some (.inl (.int, n)) => vp_in ix n ∧ P (nx, lo, .int (I k ix.toNatClampNeg) :: r, (sh, I, L), ce, sl)
      | some _ => False
      | none => (match Nat.beq k 3000000 with
        | true => vp_in ix XL ∧ P (nx, lo, .int (XS ix.toNatClampNeg) :: r, (sh, I, L), ce, sl)
        | false => False))
    | _ => False
  | .baload => match st with
    | .int ix :: .ref k :: r => (match m_nth sh k with
      | some (.inl (.byte, n)) => vp_in ix n ∧ P (nx, lo, .int (I k ix.toNatClampNeg) :: r, (sh, I, L), ce, sl)
      | some (.inl (.boolean, n)) => vp_in ix n ∧ P (nx, lo, .int (I k ix.toNatClampNeg) :: r, (sh, I, L), ce, sl)
      | _ => False)
    | _ => False
  | .caload => match st with
    | .int ix :: .ref k :: r => (match m_nth sh k with
      | some (.inl (.char, n)) => vp_in ix n ∧ P (nx, lo, .int (I k ix.toNatClampNeg) :: r, (sh, I, L), ce, sl)
      | _ => False)
    | _ => False
  | .saload => match st with
    | .int ix :: .ref k :: r => (match m_nth sh k with
      | some (.inl (.short, n)) => vp_in ix n ∧ P (nx, lo, .int (I k ix.toNatClampNeg) :: r, (sh, I, L), ce, sl)
      | _ => False)
    | _ => False
  | .laload => match st with
    | .int ix :: .ref k :: r => (match m_nth sh k with
      | some (.inl (.long, n)) => vp_in ix n ∧ P (nx, lo, .long (L k ix.toNatClampNeg) :: r, (sh, I, L), ce, sl)
      | _ => False)
    | _ => False
  | .iastore => match st with
    | .int x :: .int ix :: .ref k :: r => (match m_nth sh k with
      | some (.inl (.int, n)) => vp_in ix n ∧ P (nx, lo, r, (sh, m_up I k ix.toNatClampNeg x, L), ce, sl)
      | _ => False)
    | _ => False
  | .bastore => match st with
    | .int x :: .int ix :: .ref k :: r => (match m_nth sh k with
      | some (.inl (.byte, n)) => vp_in ix n ∧ P (nx, lo, r, (sh, m_up I k ix.toNatClampNeg (vp_nar .byte x), L), ce, sl)
      | some (.inl (.boolean, n)) => vp_in ix n ∧ P (nx, lo, r, (sh, m_up I k ix.toNatClampNeg (vp_nar .boolean x), L), ce, sl)
      | _ => False)
    | _ => False
  | .castore => match st with
    | .int x :: .int ix :: .ref k :: r => (match m_nth sh k with
      | some (.inl (.char, n)) => vp_in ix n ∧ P (nx, lo, r, (sh, m_up I k ix.toNatClampNeg (vp_nar .char x), L), ce, sl)
      | _ => False)
    | _ => False
  | .sastore => match st with
    | .int x :: .int ix :: .ref k :: r => (match m_nth sh k with
      | some (.inl (.short, n)) => vp_in ix n ∧ P (nx, lo, r, (sh, m_up I k ix.toNatClampNeg (vp_nar .short x), L), ce, sl)
      | _ => False)
    | _ => False
  | .lastore => match st with
    | .long x :: .int ix :: .ref k :: r => (match m_nth sh k with
      | some (.inl (.long, n)) => vp_in ix n ∧ P (nx, lo, r, (sh, I, m_upL L k ix.toNatClampNeg x), ce, sl)
      | _ => False)
    | _ => False
  | .invokevirtual _ => match m_pop (b % 16) st with
    | some (.ref k :: as, r) => (match m_nth sh k with
      | some (.inr (ci, _)) => (match Nat.beq ci (b / 16) && (Nat.beq (m_sg a) b && (Nat.ble (m_cat r) 8 && (Nat.ble (ce + (m_cost a).1) mc && Nat.ble (sl + (m_cost a).2) ms))) with
        | true => C a (.ref k :: as) (sh, I, L) (fun rv w => P (nx, lo, m_push rv r, w, ce + (m_cost a).1, sl + (m_cost a).2))
        | false => False)
      | _ => False)
    | _ => False
  | .invokestatic _ => match m_pop (b % 16) st with
    | some (as, r) => (match Nat.beq (m_sg a) (b + 256) && (Nat.ble (m_cat r) 8 && (Nat.ble (ce + (m_cost a).1) mc && Nat.ble (sl + (m_cost a).2) ms)) with
        | true => C a as (sh, I, L) (fun rv w => P (nx, lo, m_push rv r, w, ce + (m_cost a).1, sl + (m_cost a).2))
        | false => False)
    | _ => False
  | .invokespecial _ => match Nat.beq a 999 with
    | true => (match st with
      | .ref _ :: r => (match Nat.ble (m_cat r) 8 with | true => P (nx, lo, r, (sh, I, L), ce, sl) | false => False)
      | _ => False)
    | false => (match m_pop (b % 16) st with
      | some (.ref k :: as, r) => (match Nat.beq (m_sg a) (b + 512) && (Nat.ble (m_cat r) 8 && (Nat.ble (ce + (m_cost a).1) mc && Nat.ble (sl + (m_cost a).2) ms)) with
          | true => C a (.ref k :: as) (sh, I, L) (fun rv w => P (nx, lo, m_push rv r, w, ce + (m_cost a).1, sl + (m_cost a).2))
          | false => False)
      | _ => False)
  | .new _ => match Nat.blt sh.length 1000 && (Nat.ble (ce + 1) mc && Nat.ble (sl + m_NN a) ms) with
    | true => P (nx, lo, .ref sh.length :: st, (sh ++ [.inr (a, m_nf a 0 (m_NN a))], va_up I sh.length (fun _ => 0), va_up L sh.length (fun _ => 0)), ce + 1, sl + m_NN a)
    | false => False
  | .newarray ty => match st with
    | .int n :: r => (match m_t6 (m_aty ty) && (Nat.blt sh.length 1000 && (Nat.ble (ce + 1) mc && (Nat.ble (sl + a) ms && Nat.ble a 100000))) with
      | true => (¬ n < 0 ∧ n.toNatClampNeg = a) ∧ P (nx, lo, .ref sh.length :: r, (sh ++ [.inl (m_aty ty, a)], va_up I sh.length (fun _ => 0), va_up L sh.length (fun _ => 0)), ce + 1, sl + a)
      | false => False)
    | _ => False
  | .ireturn => match st with
    | [.int x] => (match rt with
      | some .int => (match Nat.beq ce mc && Nat.beq sl ms with | true => Q (some (.int x)) (sh, I, L) | false => False)
      | some ty => (match Nat.beq ce mc && Nat.beq sl ms with | true => narrow ty (.int x) = .int x ∧ Q (some (.int x)) (sh, I, L) | false => False)
      | none => False)
    | _ => False
  | .lreturn => match st with
    | [.long x] => (match rt with
      | some .long => (match Nat.beq ce mc && Nat.beq sl ms with | true => Q (some (.long x)) (sh, I, L) | false => False)
      | _ => False)
    | _ => False
  | .return_ => match st with
    | [] => (match rt with
      | none => (match Nat.beq ce mc && Nat.beq sl ms with | true => Q none (sh, I, L) | false => False)
      | _ => False)
    | _ => False
  | _ => False
def m_F (XL : Nat) (XS : Nat → Int32) (C : mC) (cd : mL) (rt : Option FieldType) (kd mc ms : Nat) (Q : mK) (P : mT → Prop) : mT → Prop
  | (pc, lo, st, (sh, I, L), ce, sl) => match m_at cd pc with
    | some (_, i, nx, a, b, v, sw) => m_G XL XS C rt kd mc ms Q P i nx a b v sw lo st sh I L ce sl
    | none => False
/-- the least set that is closed under the step -/
def m_WP (XL : Nat) (XS : Nat → Int32) (C : mC) (cd : mL) (rt : Option FieldType) (kd mc ms : Nat) (Q : mK) (t : mT) : Prop :=
  ∀ P : mT → Prop, (∀ t, m_F XL XS C cd rt kd mc ms Q P t → P t) → P t
