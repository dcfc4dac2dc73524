/-! THE SMALL MACHINE: an interpreter of the resolved program over a heap of numbered cells. A ref is a cell's number; 999999 is the law's script. -/
abbrev LSt : Type := List (Nat × Value)
abbrev HS : Type := (Nat → va_E) × Nat × Nat
def lget : LSt → Nat → Option Value
  | [], _ => none
  | (j, v) :: r, i => if j = i then some v else lget r i
def lput1 (ls : LSt) (i : Nat) (v : Value) : LSt := (i, v) :: ls.filter (fun q => !(q.1 == i) && !(q.1 + 1 == i && q.2.category == 2))
def lput2 (ls : LSt) (i : Nat) (v : Value) : LSt := (i, v) :: ls.filter (fun q => !(q.1 == i) && (!(q.1 == i + 1) && !(q.1 + 1 == i && q.2.category == 2)))
def vok (ci k : Nat) (v : Value) : Bool := match v with
  | .int _ => fI ci k
  | .ref _ => !fI ci k
  | _ => false
def inb (i : Int32) (n : Nat) : Bool := decide (0 ≤ i.toInt) && decide (i.toInt < n)
def kIv (j : Nat) : Int32 := (kcI.getD j (0, 0, 0)).2.2
def kLv (j : Nat) : Int64 := (kcL.getD j (0, 0, 0)).2.2
/-- one step that isn't a jump, a return or a call -/
def stp (scr : Option (Nat × (Nat → Int32))) (i : Instr) (nL : Nat) (ls : LSt) (st : List Value) (h : HS) : Option (LSt × List Value × HS) :=
  match i with
  | .iconst n => some (ls, .int (Int32.ofInt n) :: st, h)
  | .lconst n => some (ls, .long (Int64.ofNat (n : Nat)) :: st, h)
  | .ldc j => some (ls, .int (kIv j) :: st, h)
  | .ldc2_w j => some (ls, .long (kLv j) :: st, h)
  | .iload k => match lget ls k with
    | some (.int v) => some (ls, .int v :: st, h)
    | _ => none
  | .lload k => match lget ls k with
    | some (.long v) => some (ls, .long v :: st, h)
    | _ => none
  | .aload k => match lget ls k with
    | some (.ref v) => some (ls, .ref v :: st, h)
    | _ => none
  | .istore k => match st with
    | .int v :: st => if k < nL then some (lput1 ls k (.int v), st, h) else none
    | _ => none
  | .astore k => match st with
    | .ref v :: st => if k < nL then some (lput1 ls k (.ref v), st, h) else none
    | _ => none
  | .lstore k => match st with
    | .long v :: st => if k + 1 < nL then some (lput2 ls k (.long v), st, h) else none
    | _ => none
  | .iinc k n => match lget ls k with
    | some (.int v) => if k < nL then some (lput1 ls k (.int (v + Int32.ofInt n)), st, h) else none
    | _ => none
  | .iadd => match st with
    | .int y :: .int x :: st => some (ls, .int (x + y) :: st, h)
    | _ => none
  | .isub => match st with
    | .int y :: .int x :: st => some (ls, .int (x - y) :: st, h)
    | _ => none
  | .imul => match st with
    | .int y :: .int x :: st => some (ls, .int (x * y) :: st, h)
    | _ => none
  | .iand => match st with
    | .int y :: .int x :: st => some (ls, .int (x &&& y) :: st, h)
    | _ => none
  | .ior => match st with
    | .int y :: .int x :: st => some (ls, .int (x ||| y) :: st, h)
    | _ => none
  | .ixor => match st with
    | .int y :: .int x :: st => some (ls, .int (x ^^^ y) :: st, h)
    | _ => none
  | .idiv => match st with
    | .int y :: .int x :: st => if y = 0 then none else some (ls, .int (x / y) :: st, h)
    | _ => none
  | .irem => match st with
    | .int y :: .int x :: st => if y = 0 then none else some (ls, .int (x - x / y * y) :: st, h)
    | _ => none
  | .ineg => match st with
    | .int x :: st => some (ls, .int (-x) :: st, h)
    | _ => none
  | .ishl => match st with
    | .int y :: .int x :: st => some (ls, .int (x <<< (y &&& 31)) :: st, h)
    | _ => none
  | .ishr => match st with
    | .int y :: .int x :: st => some (ls, .int (x >>> (y &&& 31)) :: st, h)
    | _ => none
  | .iushr => match st with
    | .int y :: .int x :: st => some (ls, .int (x.toUInt32 >>> (y.toUInt32 &&& Int32.toUInt32 31)).toInt32 :: st, h)
    | _ => none
  | .i2l => match st with
    | .int x :: st => some (ls, .long x.toInt64 :: st, h)
    | _ => none
  | .i2b => match st with
    | .int x :: st => some (ls, .int x.toInt8.toInt32 :: st, h)
    | _ => none
  | .i2s => match st with
    | .int x :: st => some (ls, .int x.toInt16.toInt32 :: st, h)
    | _ => none
  | .ladd => match st with
    | .long y :: .long x :: st => some (ls, .long (x + y) :: st, h)
    | _ => none
  | .lmul => match st with
    | .long y :: .long x :: st => some (ls, .long (x * y) :: st, h)
    | _ => none
  | .lcmp => match st with
    | .long y :: .long x :: st => some (ls, .int (lg_cmp x y) :: st, h)
    | _ => none
  | .dup => match st with
    | .int x :: st => some (ls, .int x :: .int x :: st, h)
    | .ref x :: st => some (ls, .ref x :: .ref x :: st, h)
    | _ => none
  | .pop => match st with
    | .int _ :: st => some (ls, st, h)
    | _ => none
  | .dup2 => match st with
    | .int y :: .ref x :: st => some (ls, .int y :: .ref x :: .int y :: .ref x :: st, h)
    | _ => none
  | .getfield e => match st with
    | .ref a :: st => match decide (a < h.2.1), h.1 a with
      | true, .inr (ci, fs) => if ci = e / 100 % 100 then match fs[e % 100]? with
          | some v => some (ls, v :: st, h)
          | none => none
        else none
      | _, _ => none
    | _ => none
  | .putfield e => match st with
    | v :: .ref a :: st => match decide (a < h.2.1), h.1 a with
      | true, .inr (ci, fs) => if ci = e / 100 % 100 ∧ e % 100 < fs.length ∧ vok ci (e % 100) v = true then some (ls, st, va_up h.1 a (.inr (ci, fs.set (e % 100) v)), h.2) else none
      | _, _ => none
    | _ => none
  | .iaload => match st with
    | .int j :: .ref a :: st => if a = 999999 then match scr with
        | some (n, f) => if inb j n = true then some (ls, .int (f j.toNatClampNeg) :: st, h) else none
        | none => none
      else match decide (a < h.2.1), h.1 a with
      | true, .inl (0, n, .inl f) => if inb j n = true then some (ls, .int (f j.toNatClampNeg) :: st, h) else none
      | _, _ => none
    | _ => none
  | .iastore => match st with
    | .int x :: .int j :: .ref a :: st => match decide (a < h.2.1), h.1 a with
      | true, .inl (0, n, .inl f) => if inb j n = true then some (ls, st, va_up h.1 a (.inl (0, n, .inl (upd f j.toNatClampNeg x))), h.2) else none
      | _, _ => none
    | _ => none
  | .aaload => match st with
    | .int j :: .ref a :: st => match decide (a < h.2.1), h.1 a with
      | true, .inl (t, n, .inr (.inr (.inr (.inr f)))) => if inb j n = true ∧ (t = 1 ∨ t = 2) then match f j.toNatClampNeg with
          | some b => some (ls, .ref b :: st, h)
          | none => none
        else none
      | _, _ => none
    | _ => none
  | .aastore => match st with
    | .ref b :: .int j :: .ref a :: st => match decide (a < h.2.1), h.1 a, decide (b < h.2.1), h.1 b with
      | true, .inl (t, n, .inr (.inr (.inr (.inr f)))), true, .inr (ci, _) => if inb j n = true ∧ ((t = 1 ∧ ci = 6) ∨ (t = 2 ∧ ci = 4)) then some (ls, st, va_up h.1 a (.inl (t, n, .inr (.inr (.inr (.inr (va_up f j.toNatClampNeg (some b))))))), h.2) else none
      | _, _, _, _ => none
    | _ => none
  | .arraylength => match st with
    | .ref a :: st => if a = 999999 then match scr with
        | some (n, _) => some (ls, .int (Int32.ofNat n) :: st, h)
        | none => none
      else none
    | _ => none
  | .new e => if h.2.1 < 999999 then some (ls, .ref h.2.1 :: st, va_up h.1 h.2.1 (.inr (e % 100, dfl (e % 100))), h.2.1 + 1, h.2.2 + fN (e % 100)) else none
  | .newarray .int => match st with
    | .int n :: st => if inb n 100000 = true ∧ h.2.1 < 999999 then some (ls, .ref h.2.1 :: st, va_up h.1 h.2.1 (.inl (0, n.toNatClampNeg, .inl (fun _ => 0))), h.2.1 + 1, h.2.2 + n.toNatClampNeg) else none
    | _ => none
  | .anewarray e => match st with
    | .int n :: st => if inb n 100000 = true ∧ h.2.1 < 999999 then some (ls, .ref h.2.1 :: st, va_up h.1 h.2.1 (.inl (if e % 100 = 6 then 1 else 2, n.toNatClampNeg, .inr (.inr (.inr (.inr (fun _ => none)))))), h.2.1 + 1, h.2.2 + n.toNatClampNeg) else none
    | _ => none
  | _ => none
/-- the calls of the machine's own -/
def own5 (k : Nat) (st : List Value) (h : HS) : Option (List Value × HS) :=
  if k = 500 then match st with
    | .ref _ :: st => if (st.map fun v => v.category).sum ≤ 8 then some (st, h) else none
    | _ => none
  else if k = 501 then match st with
    | .int n :: .int dp :: .ref b :: .int sp :: .ref a :: st => match decide (a < h.2.1), h.1 a, decide (b < h.2.1), h.1 b with
      | true, .inl (0, n0, .inl f), true, .inl (0, n1, .inl g) => if 0 ≤ sp.toInt ∧ 0 ≤ dp.toInt ∧ 0 ≤ n.toInt ∧ sp.toInt + n.toInt ≤ n0 ∧ dp.toInt + n.toInt ≤ n1 ∧ (st.map fun v => v.category).sum ≤ 8 then some (st, va_up h.1 b (.inl (0, n1, .inl (va_cpy f g sp.toNatClampNeg dp.toNatClampNeg n.toNatClampNeg))), h.2) else none
      | _, _, _, _ => none
    | _ => none
  else if k = 502 then match st with
    | .int y :: .int x :: st => if (st.map fun v => v.category).sum ≤ 8 then some (.int (if y < x then y else x) :: st, h) else none
    | _ => none
  else if k = 503 then match st with
    | .int y :: .int x :: st => if (st.map fun v => v.category).sum ≤ 8 then some (.int (if x < y then y else x) :: st, h) else none
    | _ => none
  else if k = 504 then match st with
    | .int x :: st => if (st.map fun v => v.category).sum ≤ 8 then some (.int (if 0 ≤ x then x else 0 - x) :: st, h) else none
    | _ => none
  else none
def cnd (c : ClassFile.Cond) (x y : Int32) : Bool := match c with
  | .eq => decide (x = y)
  | .ne => decide (¬ x = y)
  | .lt => decide (x < y)
  | .ge => decide (y ≤ x)
  | .gt => decide (y < x)
  | .le => decide (x ≤ y)
def lkp (ps : List (Nat × Instr × Nat)) (pc : Nat) : Option (Instr × Nat) := match ps with
  | [] => none
  | (q, i, n) :: r => bif Nat.beq q pc then some (i, n) else lkp r pc
def ins (m pc : Nat) : Option (Instr × Nat) := lkp (prL.getD m []) pc
def swl (ps : List (Int × Int)) (d : Int) (x : Int) : Int := match ps with
  | [] => d
  | (a, t) :: r => if a = x then t else swl r d x
/-- the receiver is an object of the method's class -/
def rcv (k : Nat) (as : List Value) (h : HS) : Bool := match as with
  | .ref a :: _ => decide (a < h.2.1) && (match h.1 a with
    | .inr (ci, _) => decide (ci = mC.getD k 99)
    | _ => false)
  | _ => false
def retZ (m : Nat) (v : Int32) : Bool := match MR m with
  | some .boolean => decide (v = 0) || decide (v = 1)
  | some .int => true
  | _ => false
def run : Nat → Nat → Option (Nat × (Nat → Int32)) → Nat → Nat → LSt → List Value → HS → Option (Option Value × HS)
  | 0, _, _, _, _, _, _, _ => none
  | f + 1, d, scr, m, pc, ls, st, h => match ins m pc with
    | none => none
    | some (i, np) =>
      let call : Nat → Nat → Bool → Option (Option Value × HS) := fun k na rc => match d with
        | 0 => none
        | d + 1 => if na ≤ st.length ∧ k < nMeth ∧ ((st.drop na).map fun v => v.category).sum ≤ 8 ∧ (((st.take na).reverse).map fun v => v.category).sum ≤ ML k ∧ (rc = true → rcv k (st.take na).reverse h = true) then
            match run f d none k 0 (lv_args 0 (st.take na).reverse) [] h with
            | some (r, h') => run f (d + 1) scr m np ls (r.toList ++ st.drop na) h'
            | none => none
          else none
      match i with
      | .ireturn => match st with
        | [.int v] => if retZ m v = true then some (some (.int v), h) else none
        | _ => none
      | .lreturn => match st with
        | [.long v] => if MR m = some .long then some (some (.long v), h) else none
        | _ => none
      | .return_ => match st with
        | [] => if MR m = none then some (none, h) else none
        | _ => none
      | .goto t => run f d scr m t.toNat ls st h
      | .ifCond c t => match st with
        | .int x :: st => if cnd c x 0 = true then run f d scr m t.toNat ls st h else run f d scr m np ls st h
        | _ => none
      | .if_icmp c t => match st with
        | .int y :: .int x :: st => if cnd c x y = true then run f d scr m t.toNat ls st h else run f d scr m np ls st h
        | _ => none
      | .tableswitch df lo hi os => match st with
        | .int x :: st => if x.toInt < lo ∨ hi < x.toInt then run f d scr m df.toNat ls st h else match os.toList[(x.toInt - lo).toNat]? with
          | some t => run f d scr m t.toNat ls st h
          | none => none
        | _ => none
      | .lookupswitch df ps => match st with
        | .int x :: st => run f d scr m (swl ps.toList df x.toInt).toNat ls st h
        | _ => none
      | .invokevirtual e => call (e % 1000) (MP (e % 1000) + 1) true
      | .invokespecial e => if e % 1000 < 500 then call (e % 1000) (MP (e % 1000) + 1) true else if d = 0 then none else match own5 (e % 1000) st h with
        | some (st', h') => run f d scr m np ls st' h'
        | none => none
      | .invokestatic e => if e % 1000 < 500 then call (e % 1000) (MP (e % 1000)) false else if d = 0 then none else match own5 (e % 1000) st h with
        | some (st', h') => run f d scr m np ls st' h'
        | none => none
      | i => match stp scr i (ML m) ls st h with
        | some (ls', st', h') => run f d scr m np ls' st' h'
        | none => none
/-- how the resolved program stands to the bytes -/
def ckF (o x e : Nat) : Bool := if e / 10000000 = 0 then decide (flk[e / 10000 % 1000]? = some (o, x, e / 100 % 100, e % 100)) else decide (nfl[e / 10000 % 1000]? = some (o, x, e / 100 % 100, e % 100))
def ckM (o x e : Nat) : Bool := if e / 1000000 = 0 then decide (mlk[e / 1000 % 1000]? = some (o, x, e % 1000)) else decide (nml[e / 1000 % 1000]? = some (o, x, e % 1000))
def isInit (k : Nat) : Bool := (mS.getD k ("", "")).1 == "<init>"
def chk (m pc : Nat) (o r : Instr) : Bool := match o, r with
  | .iconst a, .iconst b => decide (a = b)
  | .bipush a, .iconst b => decide ((Int8.ofInt a).toInt32 = Int32.ofInt b)
  | .sipush a, .iconst b => decide ((Int16.ofInt a).toInt32 = Int32.ofInt b)
  | .lconst a, .lconst b => decide (a = b)
  | .ldc x, .ldc j => decide ((kcI[j]?).map (fun q => (q.1, q.2.1)) = some (mC.getD m 99, x))
  | .ldc_w x, .ldc j => decide ((kcI[j]?).map (fun q => (q.1, q.2.1)) = some (mC.getD m 99, x))
  | .ldc2_w x, .ldc2_w j => decide ((kcL[j]?).map (fun q => (q.1, q.2.1)) = some (mC.getD m 99, x))
  | .iload a, .iload b => decide (a = b)
  | .iload_n a, .iload b => decide ((a : Nat) = b)
  | .lload a, .lload b => decide (a = b)
  | .lload_n a, .lload b => decide ((a : Nat) = b)
  | .aload a, .aload b => decide (a = b)
  | .aload_n a, .aload b => decide ((a : Nat) = b)
  | .istore a, .istore b => decide (a = b)
  | .istore_n a, .istore b => decide ((a : Nat) = b)
  | .lstore a, .lstore b => decide (a = b)
  | .lstore_n a, .lstore b => decide ((a : Nat) = b)
  | .astore a, .astore b => decide (a = b)
  | .astore_n a, .astore b => decide ((a : Nat) = b)
  | .iinc a x, .iinc b y => decide (a = b) && decide (x = y)
  | .iadd, .iadd => true
  | .isub, .isub => true
  | .imul, .imul => true
  | .iand, .iand => true
  | .ior, .ior => true
  | .ixor, .ixor => true
  | .idiv, .idiv => true
  | .irem, .irem => true
  | .ineg, .ineg => true
  | .ishl, .ishl => true
  | .ishr, .ishr => true
  | .iushr, .iushr => true
  | .i2l, .i2l => true
  | .i2b, .i2b => true
  | .i2s, .i2s => true
  | .ladd, .ladd => true
  | .lmul, .lmul => true
  | .lcmp, .lcmp => true
  | .dup, .dup => true
  | .pop, .pop => true
  | .dup2, .dup2 => true
  | .getfield x, .getfield e => ckF (mC.getD m 99) x e
  | .putfield x, .putfield e => ckF (mC.getD m 99) x e && (!(fT (e / 100 % 100) (e % 100)).2.2.2 || (isInit m && decide (e / 10000000 = 0) && decide ((fT (e / 100 % 100) (e % 100)).1 = cn (mC.getD m 99))))
  | .iaload, .iaload => true
  | .iastore, .iastore => true
  | .aaload, .aaload => true
  | .aastore, .aastore => true
  | .arraylength, .arraylength => true
  | .new x, .new e => decide (kcl[e / 100]? = some (mC.getD m 99, x, e % 100)) && decide (e % 100 < 11)
  | .newarray .int, .newarray .int => true
  | .anewarray x, .anewarray e => decide (kcl[e / 100]? = some (mC.getD m 99, x, e % 100)) && (decide (e % 100 = 6) || decide (e % 100 = 4))
  | .ireturn, .ireturn => true
  | .lreturn, .lreturn => true
  | .return_, .return_ => true
  | .goto a, .goto t => decide ((pc : Int) + a = t) && decide (0 ≤ t)
  | .ifCond c a, .ifCond c' t => decide (c = c') && decide ((pc : Int) + a = t) && decide (0 ≤ t)
  | .if_icmp c a, .if_icmp c' t => decide (c = c') && decide ((pc : Int) + a = t) && decide (0 ≤ t)
  | .tableswitch a lo hi os, .tableswitch t lo' hi' ts => decide (lo = lo') && decide (hi = hi') && decide ((pc : Int) + a = t) && decide (0 ≤ t) && decide (os.toList.map (fun o => (pc : Int) + o) = ts.toList) && ts.toList.all (fun t => decide (0 ≤ t))
  | .lookupswitch a ps, .lookupswitch t qs => decide ((pc : Int) + a = t) && decide (0 ≤ t) && decide (ps.toList.map (fun q => (q.1, (pc : Int) + q.2)) = qs.toList) && qs.toList.all (fun q => decide (0 ≤ q.2)) && (ps.toList.zip (ps.toList.drop 1)).all (fun (a, next) => a.1 < next.1)
  | .invokevirtual x, .invokevirtual e => ckM (mC.getD m 99) x e && !MX (e % 1000) && !isInit (e % 1000) && decide (e % 1000 < nMeth)
  | .invokespecial x, .invokespecial e => ckM (mC.getD m 99) x e && (decide (e = e % 1000000 ∧ e % 1000 = 500) || (!MX (e % 1000) && isInit (e % 1000) && decide (e % 1000 < nMeth)))
  | .invokestatic x, .invokestatic e => ckM (mC.getD m 99) x e && ((decide (e < 1000000) && decide (501 ≤ e % 1000)) || (MX (e % 1000) && decide (e % 1000 < nMeth)))
  | _, _ => false
def ilen : Instr → Nat
  | .bipush _ => 2
  | .iload _ => 2
  | .lload _ => 2
  | .aload _ => 2
  | .istore _ => 2
  | .lstore _ => 2
  | .astore _ => 2
  | .ldc _ => 2
  | .newarray _ => 2
  | .sipush _ => 3
  | .ldc_w _ => 3
  | .ldc2_w _ => 3
  | .iinc _ _ => 3
  | .getfield _ => 3
  | .putfield _ => 3
  | .invokevirtual _ => 3
  | .invokespecial _ => 3
  | .invokestatic _ => 3
  | .new _ => 3
  | .anewarray _ => 3
  | .goto _ => 3
  | .ifCond _ _ => 3
  | .if_icmp _ _ => 3
  | _ => 1
def isw : Instr → Bool
  | .tableswitch _ _ _ _ => true
  | .lookupswitch _ _ => true
  | _ => false
def ckE (m : Nat) (q : Nat × Instr × Nat) : Bool := match decode (MB m) q.1 with
  | .ok (o, len) => decide (q.1 + len = q.2.2) && (isw o || decide (len = ilen o)) && chk m q.1 o q.2.1
  | .error _ => false
