/-! THE PURE MACHINE: rows of instructions over a heap of regions; addresses are 1024 * region + place -/
abbrev xL : Type := List (Option Value)
abbrev xH : Type := List (List va_E)
/-- pc, instruction, next pc, number, pairs, places of words, constant -/
abbrev xRow : Type := Nat × Instr × Nat × Nat × List (Nat × Nat) × List Nat × Value
/-- name, code, locals, answer, rows -/
abbrev xM : Type := MethodName × ByteArray × Nat × Option FieldType × List xRow
abbrev xS : Type := Nat × xL × List Value × xH
abbrev xO : Type := xS ⊕ (Option Value) ⊕ (Nat × List Value × List Value × Nat)
def xrow : List xRow → Nat → Option (Instr × Nat × Nat × List (Nat × Nat) × List Nat × Value)
  | [], _ => none
  | q :: l, i => if q.1 = i then some q.2 else xrow l i
def xks : List (Nat × Nat) → Nat → Option Nat
  | [], _ => none
  | q :: l, i => if q.1 = i then some q.2 else xks l i
def xrb : Nat → Nat
  | 0 => 0 | 1 => 1 | 2 => 18 | 3 => 50 | 4 => 95 | 5 => 100 | 6 => 104 | 7 => 112 | 8 => 144 | _ => 160
def xcap : Nat → Nat
  | 0 => 1 | 1 => 17 | 2 => 32 | 3 => 45 | 4 => 5 | 5 => 4 | 6 => 8 | 7 => 32 | 8 => 16 | _ => 0
def xget (hp : xH) (a : Nat) : Option va_E := match hp[a / 1024]? with
  | some r => r[a % 1024]?
  | none => none
def xset (hp : xH) (a : Nat) (e : va_E) : xH := match hp[a / 1024]? with
  | some r => hp.set (a / 1024) (r.set (a % 1024) e)
  | none => hp
/-- how many cells there are -/
def xtot (hp : xH) : Nat := ((hp.take 9).map List.length).sum
/-- the region in which the cell number t lies -/
def xreg (t : Nat) : Nat := if t < 1 then 0 else if t < 18 then 1 else if t < 50 then 2 else if t < 95 then 3 else if t < 100 then 4 else if t < 104 then 5 else if t < 112 then 6 else if t < 144 then 7 else 8
/-- the address of the next cell -/
def xfr (t : Nat) : Nat := 1024 * xreg t + (t - xrb (xreg t))
def xpush (hp : xH) (e : va_E) : xH := match hp[xreg (xtot hp)]? with
  | some r => hp.set (xreg (xtot hp)) (r ++ [e])
  | none => hp
def xpushN (hp : xH) (e : va_E) : Nat → xH
  | 0 => hp
  | n + 1 => xpush (xpushN hp e n) e
def xnone (lv : xL) (i : Nat) : xL := match i with
  | 0 => lv
  | j + 1 => match lv[j]? with
    | some (some (.long _)) => lv.set j none
    | some (some (.double _)) => lv.set j none
    | _ => lv
def xst1 (lv : xL) (i : Nat) (v : Value) : xL := (xnone lv i).set i (some v)
def xst2 (lv : xL) (i : Nat) (v : Value) : xL := ((xnone lv i).set i (some v)).set (i + 1) none
def xslots : List Value → xL
  | [] => []
  | .long v :: l => some (.long v) :: none :: xslots l
  | .double v :: l => some (.double v) :: none :: xslots l
  | v :: l => some v :: xslots l
/-- the locals with which a method begins -/
def xent (nL : Nat) (as : List Value) : xL := xslots as ++ List.replicate (nL - (xslots as).length) none
def xcmp (c : ClassFile.Cond) (x y : Int32) : Bool := match c with
  | .eq => decide (x = y)
  | .ne => decide (x ≠ y)
  | .lt => decide (x < y)
  | .ge => decide (y ≤ x)
  | .gt => decide (y < x)
  | .le => decide (x ≤ y)
def xsw : List (Nat × Nat) → Int32 → Nat → Nat
  | [], _, d => d
  | q :: l, x, d => if x = Int32.ofNat q.1 then q.2 else xsw l x d
def xfit (ty : FieldType) (v : Value) : Bool := match ty, v with
  | .int, .int _ => true
  | .boolean, .int x => decide (x = 0 ∨ x = 1)
  | .long, .long _ => true
  | .object _, .ref _ => true
  | .object _, .null => true
  | .array _, .ref _ => true
  | .array _, .null => true
  | _, _ => false
def xty (ci k : Nat) : FieldType := match ci with
  | 0 => tyX0 k | 1 => tyX1 k | 2 => tyX2 k | 3 => tyX3 k | 4 => tyX4 k | 5 => tyX5 k | 6 => tyX6 k | 7 => tyX7 k | 8 => tyX8 k | 9 => tyX9 k | 10 => tyX10 k | 11 => tyX11 k | _ => tyX12 k
def xnf : Nat → Nat
  | 0 => 6 | 1 => 6 | 2 => 12 | 3 => 6 | 4 => 15 | 5 => 8 | 6 => 3 | 7 => 4 | 8 => 6 | 9 => 8 | 10 => 1 | 11 => 7 | _ => 43
def xdv (ty : FieldType) : Value := match ty with
  | .int => .int 0 | .boolean => .int 0 | .long => .long 0 | _ => .null
def xdf (ci : Nat) : List Value := (List.range (xnf ci)).map (fun k => xdv (xty ci k))
def xrf (o : Option Nat) : Value := match o with
  | some a => .ref a
  | none => .null
def xz (a : Nat) (N : Nat) : vp_A := if a = 1 then (N, .inr (.inl (fun _ => 0))) else (N, .inl (fun _ => 0))
def xnx (pc : Nat) (lv : xL) (st : List Value) (hp : xH) : Option xO := some (.inl (pc, lv, st, hp))
def xb2 (st : List Value) (f : Int32 → Int32 → Int32) (nx : Nat) (lv : xL) (hp : xH) : Option xO := match st with
  | .int y :: .int x :: r => xnx nx lv (.int (f x y) :: r) hp
  | _ => none
def xl2 (st : List Value) (f : Int64 → Int64 → Int64) (nx : Nat) (lv : xL) (hp : xH) : Option xO := match st with
  | .long y :: .long x :: r => xnx nx lv (.long (f x y) :: r) hp
  | _ => none
def xcall (i : Nat) (as rest : List Value) (nx : Nat) : Option xO := if (rest.map fun v => v.category).sum ≤ 8 then some (.inr (.inr (i, as, rest, nx))) else none
/-- one instruction -/
def x2 (ins : Instr) (nx a : Nat) (ks : List (Nat × Nat)) (v : Value) (lv : xL) (st : List Value) (hp : xH) : Option xO := match ins with
  | .iconst _ => xnx nx lv (v :: st) hp
  | .bipush _ => xnx nx lv (v :: st) hp
  | .sipush _ => xnx nx lv (v :: st) hp
  | .lconst _ => xnx nx lv (v :: st) hp
  | .ldc _ => xnx nx lv (v :: st) hp
  | .ldc_w _ => xnx nx lv (v :: st) hp
  | .ldc2_w _ => xnx nx lv (v :: st) hp
  | .aconst_null => xnx nx lv (.null :: st) hp
  | .iload _ => match lv[a]? with | some (some (.int x)) => xnx nx lv (.int x :: st) hp | _ => none
  | .iload_n _ => match lv[a]? with | some (some (.int x)) => xnx nx lv (.int x :: st) hp | _ => none
  | .lload _ => match lv[a]? with | some (some (.long x)) => xnx nx lv (.long x :: st) hp | _ => none
  | .lload_n _ => match lv[a]? with | some (some (.long x)) => xnx nx lv (.long x :: st) hp | _ => none
  | .aload _ => match lv[a]? with | some (some (.ref x)) => xnx nx lv (.ref x :: st) hp | some (some .null) => xnx nx lv (.null :: st) hp | _ => none
  | .aload_n _ => match lv[a]? with | some (some (.ref x)) => xnx nx lv (.ref x :: st) hp | some (some .null) => xnx nx lv (.null :: st) hp | _ => none
  | .istore _ => match st with | .int x :: r => if a < lv.length then xnx nx (xst1 lv a (.int x)) r hp else none | _ => none
  | .istore_n _ => match st with | .int x :: r => if a < lv.length then xnx nx (xst1 lv a (.int x)) r hp else none | _ => none
  | .lstore _ => match st with | .long x :: r => if a + 1 < lv.length then xnx nx (xst2 lv a (.long x)) r hp else none | _ => none
  | .lstore_n _ => match st with | .long x :: r => if a + 1 < lv.length then xnx nx (xst2 lv a (.long x)) r hp else none | _ => none
  | .astore _ => match st with | .ref x :: r => if a < lv.length then xnx nx (xst1 lv a (.ref x)) r hp else none | .null :: r => if a < lv.length then xnx nx (xst1 lv a .null) r hp else none | _ => none
  | .astore_n _ => match st with | .ref x :: r => if a < lv.length then xnx nx (xst1 lv a (.ref x)) r hp else none | .null :: r => if a < lv.length then xnx nx (xst1 lv a .null) r hp else none | _ => none
  | .iinc _ _ => match lv[a]?, v with | some (some (.int x)), .int c => xnx nx (xst1 lv a (.int (x + c))) st hp | _, _ => none
  | .iadd => xb2 st (fun x y => x + y) nx lv hp
  | .isub => xb2 st (fun x y => x - y) nx lv hp
  | .imul => xb2 st (fun x y => x * y) nx lv hp
  | .iand => xb2 st (fun x y => x &&& y) nx lv hp
  | .ior => xb2 st (fun x y => x ||| y) nx lv hp
  | .ixor => xb2 st (fun x y => x ^^^ y) nx lv hp
  | .ishl => xb2 st (fun x y => x <<< (y &&& 31)) nx lv hp
  | .ishr => xb2 st (fun x y => x >>> (y &&& 31)) nx lv hp
  | .iushr => xb2 st (fun x y => (x.toUInt32 >>> (y.toUInt32 &&& Int32.toUInt32 31)).toInt32) nx lv hp
  | .idiv => match st with | .int y :: .int x :: r => if y = 0 then none else xnx nx lv (.int (x / y) :: r) hp | _ => none
  | .irem => match st with | .int y :: .int x :: r => if y = 0 then none else xnx nx lv (.int (x - x / y * y) :: r) hp | _ => none
  | .ineg => match st with | .int x :: r => xnx nx lv (.int (-x) :: r) hp | _ => none
  | .ladd => xl2 st (fun x y => x + y) nx lv hp
  | .lsub => xl2 st (fun x y => x - y) nx lv hp
  | .lmul => xl2 st (fun x y => x * y) nx lv hp
  | .ldiv => match st with | .long y :: .long x :: r => if y = 0 then none else xnx nx lv (.long (x / y) :: r) hp | _ => none
  | .lrem => match st with | .long y :: .long x :: r => if y = 0 then none else xnx nx lv (.long (x - x / y * y) :: r) hp | _ => none
  | .lneg => match st with | .long x :: r => xnx nx lv (.long (-x) :: r) hp | _ => none
  | .lshl => match st with | .int y :: .long x :: r => xnx nx lv (.long (x <<< (y.toInt64 &&& 63)) :: r) hp | _ => none
  | .i2l => match st with | .int x :: r => xnx nx lv (.long x.toInt64 :: r) hp | _ => none
  | .l2i => match st with | .long x :: r => xnx nx lv (.int x.toInt32 :: r) hp | _ => none
  | .i2b => match st with | .int x :: r => xnx nx lv (.int x.toInt8.toInt32 :: r) hp | _ => none
  | .i2s => match st with | .int x :: r => xnx nx lv (.int x.toInt16.toInt32 :: r) hp | _ => none
  | .lcmp => match st with | .long y :: .long x :: r => xnx nx lv (.int (lg_cmp x y) :: r) hp | _ => none
  | .ifCond c _ => match st with | .int x :: r => xnx (bif xcmp c x 0 then a else nx) lv r hp | _ => none
  | .if_icmp c _ => match st with | .int y :: .int x :: r => xnx (bif xcmp c x y then a else nx) lv r hp | _ => none
  | .goto _ => xnx a lv st hp
  | .ifnull _ => match st with | .ref _ :: r => xnx nx lv r hp | .null :: r => xnx a lv r hp | _ => none
  | .ifnonnull _ => match st with | .ref _ :: r => xnx a lv r hp | .null :: r => xnx nx lv r hp | _ => none
  | .dup => match st with | .int x :: r => xnx nx lv (.int x :: .int x :: r) hp | .ref x :: r => xnx nx lv (.ref x :: .ref x :: r) hp | _ => none
  | .dup2 => match st with | .long x :: r => xnx nx lv (.long x :: .long x :: r) hp | .int y :: .ref x :: r => xnx nx lv (.int y :: .ref x :: .int y :: .ref x :: r) hp | _ => none
  | .pop => match st with | .int _ :: r => xnx nx lv r hp | _ => none
  | .getfield _ => match st with
    | .ref o :: r => match xget hp o with
      | some (.inr (ci, fs)) => match xks ks ci with
        | some k => match fs[k]? with
          | some w => xnx nx lv (w :: r) hp
          | none => none
        | none => none
      | _ => none
    | _ => none
  | .putfield _ => match st with
    | w :: .ref o :: r => match xget hp o with
      | some (.inr (ci, fs)) => match xks ks ci with
        | some k => if k < fs.length ∧ o < 9216 ∧ xfit (xty ci k) w = true then xnx nx lv r (xset hp o (.inr (ci, fs.set k w))) else none
        | none => none
      | _ => none
    | _ => none
  | .getstatic _ => xnx nx lv (.ref a :: st) hp
  | .iaload => match st with
    | .int i :: .ref o :: r => match xget hp o with
      | some (.inl (0, N, .inl f)) => if i < 0 ∨ N ≤ i.toNatClampNeg then none else xnx nx lv (.int (f i.toNatClampNeg) :: r) hp
      | _ => none
    | _ => none
  | .baload => match st with
    | .int i :: .ref o :: r => match xget hp o with
      | some (.inl (2, N, .inl f)) => if i < 0 ∨ N ≤ i.toNatClampNeg then none else xnx nx lv (.int (f i.toNatClampNeg) :: r) hp
      | _ => none
    | _ => none
  | .laload => match st with
    | .int i :: .ref o :: r => match xget hp o with
      | some (.inl (1, N, .inr (.inl f))) => if i < 0 ∨ N ≤ i.toNatClampNeg then none else xnx nx lv (.long (f i.toNatClampNeg) :: r) hp
      | _ => none
    | _ => none
  | .aaload => match st with
    | .int i :: .ref o :: r => match xget hp o with
      | some (.inl (c, N, .inr (.inr (.inr (.inr f))))) => if i < 0 ∨ N ≤ i.toNatClampNeg ∨ c < 3 ∨ 5 < c then none else xnx nx lv (xrf (f i.toNatClampNeg) :: r) hp
      | _ => none
    | _ => none
  | .iastore => match st with
    | .int w :: .int i :: .ref o :: r => match xget hp o with
      | some (.inl (0, N, .inl f)) => if i < 0 ∨ N ≤ i.toNatClampNeg ∨ 9216 ≤ o then none else xnx nx lv r (xset hp o (.inl (0, N, .inl (upd f i.toNatClampNeg w))))
      | _ => none
    | _ => none
  | .bastore => match st with
    | .int w :: .int i :: .ref o :: r => match xget hp o with
      | some (.inl (2, N, .inl f)) => if i < 0 ∨ N ≤ i.toNatClampNeg ∨ 9216 ≤ o ∨ ¬ (w = 0 ∨ w = 1) then none else xnx nx lv r (xset hp o (.inl (2, N, .inl (upd f i.toNatClampNeg w))))
      | _ => none
    | _ => none
  | .lastore => match st with
    | .long w :: .int i :: .ref o :: r => match xget hp o with
      | some (.inl (1, N, .inr (.inl f))) => if i < 0 ∨ N ≤ i.toNatClampNeg ∨ 9216 ≤ o then none else xnx nx lv r (xset hp o (.inl (1, N, .inr (.inl (vp_updL f i.toNatClampNeg w)))))
      | _ => none
    | _ => none
  | .aastore => match st with
    | .ref w :: .int i :: .ref o :: r => match xget hp o, xget hp w with
      | some (.inl (4, N, .inr (.inr (.inr (.inr f))))), some (.inl (1, _)) => if i < 0 ∨ N ≤ i.toNatClampNeg ∨ 9216 ≤ o ∨ 9216 ≤ w then none else xnx nx lv r (xset hp o (.inl (4, N, .inr (.inr (.inr (.inr (va_up f i.toNatClampNeg (some w))))))))
      | some (.inl (5, N, .inr (.inr (.inr (.inr f))))), some (.inr (ci, _)) => if i < 0 ∨ N ≤ i.toNatClampNeg ∨ 9216 ≤ o ∨ 9216 ≤ w ∨ ¬ (ci = 0 ∨ ci = 1 ∨ ci = 3) then none else xnx nx lv r (xset hp o (.inl (5, N, .inr (.inr (.inr (.inr (va_up f i.toNatClampNeg (some w))))))))
      | _, _ => none
    | _ => none
  | .arraylength => match st with
    | .ref o :: r => match xget hp o with
      | some (.inl (c, N, _)) => if 5 < c then none else xnx nx lv (.int (Int32.ofNat N) :: r) hp
      | _ => none
    | _ => none
  | .new _ => if xtot hp < 160 then xnx nx lv (.ref (xfr (xtot hp)) :: st) (xpush hp (.inr (a, xdf a))) else none
  | .newarray _ => match st with
    | .int n :: r => if n < 0 ∨ 1024 ≤ n.toNatClampNeg ∨ 160 ≤ xtot hp then none else xnx nx lv (.ref (xfr (xtot hp)) :: r) (xpush hp (.inl (a, xz a n.toNatClampNeg)))
    | _ => none
  | .anewarray _ => match st with
    | .int n :: r => if n < 0 ∨ 1024 ≤ n.toNatClampNeg ∨ 160 ≤ xtot hp then none else xnx nx lv (.ref (xfr (xtot hp)) :: r) (xpush hp (.inl (a, n.toNatClampNeg, .inr (.inr (.inr (.inr (fun _ => none)))))))
    | _ => none
  | .multianewarray _ _ => match st with
    | .int k :: .int n :: r => if n < 0 ∨ 1024 ≤ n.toNatClampNeg ∨ k < 0 ∨ 1024 ≤ k.toNatClampNeg ∨ 160 ≤ xtot hp + n.toNatClampNeg then none else xnx nx lv (.ref (xfr (xtot hp)) :: r) (xpushN (xpush hp (.inl (a, n.toNatClampNeg, .inr (.inr (.inr (.inr (fun i => if i < n.toNatClampNeg then some (xfr (xtot hp + 1 + i)) else none))))))) (.inl (a - 3, xz (a - 3) k.toNatClampNeg)) n.toNatClampNeg)
    | _ => none
  | .instanceof _ => match st with
    | .ref o :: r => match xget hp o with
      | some (.inr (ci, _)) => match xks ks ci with
        | some 0 => xnx nx lv (.int 0 :: r) hp
        | some 1 => xnx nx lv (.int 1 :: r) hp
        | _ => none
      | _ => none
    | _ => none
  | .tableswitch _ _ _ _ => match st with | .int x :: r => xnx (xsw ks x a) lv r hp | _ => none
  | .lookupswitch _ _ => match st with | .int x :: r => xnx (xsw ks x a) lv r hp | _ => none
  | .ireturn => match st with | [.int x] => if a = 1 ∧ ¬ (x = 0 ∨ x = 1) then none else some (.inr (.inl (some (.int x)))) | _ => none
  | .lreturn => match st with | [.long x] => some (.inr (.inl (some (.long x)))) | _ => none
  | .areturn => match st with | [.ref x] => some (.inr (.inl (some (.ref x)))) | [.null] => some (.inr (.inl (some .null))) | _ => none
  | .return_ => match st with | [] => some (.inr (.inl none)) | _ => none
  | .invokestatic _ => match v with
    | .retAddr n => if n ≤ st.length then xcall a (st.take n).reverse (st.drop n) nx else none
    | _ => none
  | .invokevirtual _ => match v with
    | .retAddr n => match st[n]? with
      | some (.ref o) => match xget hp o with
        | some (.inr (ci, _)) => match xks ks ci with
          | some i => xcall i (.ref o :: (st.take n).reverse) (st.drop (n + 1)) nx
          | none => none
        | _ => none
      | _ => none
    | _ => none
  | .invokespecial _ => match v with
    | .retAddr n => match st[n]? with
      | some (.ref o) => match ks with
        | [] => xcall a (.ref o :: (st.take n).reverse) (st.drop (n + 1)) nx
        | _ => match xget hp o with
          | some (.inr (ci, _)) => match xks ks ci with
            | some i => xcall i (.ref o :: (st.take n).reverse) (st.drop (n + 1)) nx
            | none => none
          | _ => none
      | _ => none
    | _ => match st with
      | .ref _ :: r => if (r.map fun v => v.category).sum ≤ 8 then xnx nx lv r hp else none
      | _ => none
  | _ => none
def x1 (rows : List xRow) (pc : Nat) (lv : xL) (st : List Value) (hp : xH) : Option xO := match xrow rows pc with
  | some (ins, nx, a, ks, _, v) => x2 ins nx a ks v lv st hp
  | none => none
/-- with fuel f, calls d deep at most -/
def xI (E : List xM) : Nat → Nat → List xRow → Nat → xL → List Value → xH → Option (Option Value × xH)
  | 0, _, _, _, _, _, _ => none
  | f + 1, d, rows, pc, lv, st, hp => match x1 rows pc lv st hp with
    | some (.inl (pc', lv', st', hp')) => xI E f d rows pc' lv' st' hp'
    | some (.inr (.inl r)) => some (r, hp)
    | some (.inr (.inr (i, as, rest, nx))) => match d, E[i]? with
      | d' + 1, some M => if (xslots as).length ≤ M.2.2.1 then match xI E f d' M.2.2.2.2 0 (xent M.2.2.1 as) [] hp with
        | some (r, hp') => xI E f (d' + 1) rows nx lv (r.toList ++ rest) hp'
        | none => none else none
      | _, _ => none
    | none => none
/-- few instructions, none of them a call or an end -/
def xN (rows : List xRow) : Nat → xS → Option xS
  | 0, s => some s
  | n + 1, (pc, lv, st, hp) => match x1 rows pc lv st hp with
    | some (.inl s') => xN rows n s'
    | _ => none
