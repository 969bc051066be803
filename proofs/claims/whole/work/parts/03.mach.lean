/-! THE SHORT MACHINE: numbers are integers, references are cells' numbers; a step is a Prop (what must hold for the rest) -/
abbrev AV : Type := Int ⊕ (Int ⊕ Nat)
def vI (z : Int) : AV := .inl z
def vL (z : Int) : AV := .inr (.inl z)
def vR (k : Nat) : AV := .inr (.inr k)
abbrev AH : Type := Nat → Nat → Int
abbrev LcT : Type := List (Option AV)
def w32 (z : Int) : Int := (Int32.ofInt z).toInt
def w64 (z : Int) : Int := (Int64.ofInt z).toInt
def w8 (z : Int) : Int := (Int32.ofInt z).toInt8.toInt
def w16 (z : Int) : Int := (Int32.ofInt z).toInt16.toInt
def d32 (a b : Int) : Int := (Int32.ofInt a / Int32.ofInt b).toInt
def m32 (a b : Int) : Int := (Int32.ofInt a - Int32.ofInt a / Int32.ofInt b * Int32.ofInt b).toInt
def and32 (a b : Int) : Int := (Int32.ofInt a &&& Int32.ofInt b).toInt
def or32 (a b : Int) : Int := (Int32.ofInt a ||| Int32.ofInt b).toInt
def xor32 (a b : Int) : Int := (Int32.ofInt a ^^^ Int32.ofInt b).toInt
def shl32 (a b : Int) : Int := (Int32.ofInt a <<< (Int32.ofInt b &&& 31)).toInt
def shr32 (a b : Int) : Int := (Int32.ofInt a >>> (Int32.ofInt b &&& 31)).toInt
def ushr32 (a b : Int) : Int := ((Int32.ofInt a).toUInt32 >>> ((Int32.ofInt b).toUInt32 &&& Int32.toUInt32 31)).toInt32.toInt
def and64 (a b : Int) : Int := (Int64.ofInt a &&& Int64.ofInt b).toInt
def shr64 (a b : Int) : Int := (Int64.ofInt a >>> ((Int32.ofInt b).toInt64 &&& 63)).toInt
def ushr64 (a b : Int) : Int := ((Int64.ofInt a).toUInt64 >>> ((Int32.ofInt b).toInt64.toUInt64 &&& Int64.toUInt64 63)).toInt64.toInt
def l2i32 (a : Int) : Int := (Int64.ofInt a).toInt32.toInt
def cmp64 (a b : Int) : Int := if a > b then 1 else if a = b then 0 else -1
/-- one slot of one cell becomes v -/
def hu (h : AH) (k i : Nat) (v : Int) : AH := fun k' i' => if k' = k ∧ i' = i then v else h k' i'
/-- arraycopy -/
def hcpy (h : AH) (k0 k1 sp dp n : Nat) : AH := fun k i => if k = k1 ∧ dp ≤ i ∧ i < dp + n then h k0 (sp + (i - dp)) else h k i
def sh (k : Nat) : Nat × Nat × List Nat := if k = 2000 then (7, 6, []) else shl.getD k (9, 0, [])
def aboveF : Nat → Int := fun i => ([-1, 0, 0, 2, 1, 0] : List Int).getD i 0
def fv (h : AH) (k j c : Nat) : AV := match c with
  | 0 => vI (h k j)
  | 1 => vL (h k j)
  | 2 => vI (h k j)
  | t + 3 => vR t
def lget (ls : LcT) (i : Nat) : Option AV := match ls[i]? with
  | some (some v) => some v
  | _ => none
def stOK (ls : LcT) (i : Nat) : Bool := match i with
  | 0 => true
  | j + 1 => match ls[j]? with
    | some (some (.inr (.inl _))) => false
    | _ => true
def onI (st : List AV) (F : Int → List AV → Prop) : Prop := match st with
  | .inl a :: r => F a r
  | _ => False
def onL (st : List AV) (F : Int → List AV → Prop) : Prop := match st with
  | .inr (.inl a) :: r => F a r
  | _ => False
def onR (st : List AV) (F : Nat → List AV → Prop) : Prop := match st with
  | .inr (.inr a) :: r => F a r
  | _ => False
def swT (K : Int → Prop) (a lo : Int) : List Int → Prop
  | [] => True
  | t :: ts => (a = lo → K t) ∧ swT K a (lo + 1) ts
def lkT (K : Int → Prop) (a dflt : Int) : List Int → Prop
  | [] => K dflt
  | [_] => K dflt
  | k :: t :: r => (a = k → K t) ∧ (¬ a = k → lkT K a dflt r)
/-- a step; N: what must hold behind it, K: at a place jumped to, CR: a call, Q: an end -/
def stp (CR : Nat → List AV → AH → (Option AV → AH → Prop) → Prop) (Q : Option AV → AH → Prop) (K : Nat → LcT → List AV → AH → Prop) (op : Nat) (x : Int) (ys : List Int) (ls : LcT) (st : List AV) (h : AH) (N : LcT → List AV → AH → Prop) : Prop :=
  match op with
  | 0 => N ls (vI x :: st) h
  | 1 => N ls (vL x :: st) h
  | 2 => N ls (vR x.toNat :: st) h
  | 3 => match lget ls x.toNat with
    | some (.inl z) => N ls (vI z :: st) h
    | _ => False
  | 4 => match lget ls x.toNat with
    | some (.inr (.inl z)) => N ls (vL z :: st) h
    | _ => False
  | 5 => match lget ls x.toNat with
    | some (.inr (.inr z)) => N ls (vR z :: st) h
    | _ => False
  | 6 => onI st fun z r => (stOK ls x.toNat = true ∧ x.toNat < ls.length) ∧ N (ls.set x.toNat (some (vI z))) r h
  | 7 => onL st fun z r => (stOK ls x.toNat = true ∧ x.toNat + 1 < ls.length) ∧ N ((ls.set x.toNat (some (vL z))).set (x.toNat + 1) none) r h
  | 8 => onR st fun z r => (stOK ls x.toNat = true ∧ x.toNat < ls.length) ∧ N (ls.set x.toNat (some (vR z))) r h
  | 9 => match lget ls x.toNat with
    | some (.inl z) => N (ls.set x.toNat (some (vI (w32 (z + ys.headD 0))))) st h
    | _ => False
  | 10 => onI st fun b r => onI r fun a r => N ls (vI (w32 (a + b)) :: r) h
  | 11 => onI st fun b r => onI r fun a r => N ls (vI (w32 (a - b)) :: r) h
  | 12 => onI st fun b r => onI r fun a r => N ls (vI (w32 (a * b)) :: r) h
  | 13 => onI st fun b r => onI r fun a r => b ≠ 0 ∧ N ls (vI (d32 a b) :: r) h
  | 14 => onI st fun b r => onI r fun a r => b ≠ 0 ∧ N ls (vI (m32 a b) :: r) h
  | 15 => onI st fun b r => onI r fun a r => N ls (vI (and32 a b) :: r) h
  | 16 => onI st fun b r => onI r fun a r => N ls (vI (or32 a b) :: r) h
  | 17 => onI st fun b r => onI r fun a r => N ls (vI (xor32 a b) :: r) h
  | 18 => onI st fun b r => onI r fun a r => N ls (vI (shl32 a b) :: r) h
  | 19 => onI st fun b r => onI r fun a r => N ls (vI (shr32 a b) :: r) h
  | 20 => onI st fun b r => onI r fun a r => N ls (vI (ushr32 a b) :: r) h
  | 21 => onL st fun b r => onL r fun a r => N ls (vL (w64 (a + b)) :: r) h
  | 22 => onL st fun b r => onL r fun a r => N ls (vL (w64 (a - b)) :: r) h
  | 23 => onL st fun b r => onL r fun a r => N ls (vL (w64 (a * b)) :: r) h
  | 24 => onL st fun b r => onL r fun a r => N ls (vL (and64 a b) :: r) h
  | 25 => onI st fun b r => onL r fun a r => N ls (vL (shr64 a b) :: r) h
  | 26 => onI st fun b r => onL r fun a r => N ls (vL (ushr64 a b) :: r) h
  | 27 => onL st fun b r => onL r fun a r => N ls (vI (cmp64 a b) :: r) h
  | 28 => onI st fun a r => N ls (vL a :: r) h
  | 29 => onL st fun a r => N ls (vI (l2i32 a) :: r) h
  | 30 => onI st fun a r => N ls (vI (w8 a) :: r) h
  | 31 => onI st fun a r => N ls (vI (w16 a) :: r) h
  | 32 => match st with
    | .inr (.inl _) :: _ => False
    | v :: r => N ls (v :: v :: r) h
    | _ => False
  | 33 => match st with
    | .inl a :: .inr (.inr b) :: r => N ls (vI a :: vR b :: vI a :: vR b :: r) h
    | _ => False
  | 36 => K x.toNat ls st h
  | 99 => K x.toNat ls st h
  | 37 => onI st fun a r => ((a < ys.headD 0 ∨ ys.headD 0 + (ys.length - 1 : Nat) ≤ a) → K x.toNat ls r h) ∧ swT (fun t => K t.toNat ls r h) a (ys.headD 0) ys.tail
  | 38 => onI st fun a r => lkT (fun t => K t.toNat ls r h) a x ys
  | 39 => onR st fun k r => ((sh k).1 = 0 ∧ (sh k).2.1 = x.toNat) ∧ N ls (fv h k (ys.headD 0).toNat ((sh k).2.2.getD (ys.headD 0).toNat 0) :: r) h
  | 40 => match st with
    | v :: .inr (.inr k) :: r => ((sh k).1 = 0 ∧ (sh k).2.1 = x.toNat) ∧ match (sh k).2.2.getD (ys.headD 0).toNat 9, v with
      | 0, .inl z => N ls r (hu h k (ys.headD 0).toNat z)
      | 1, .inr (.inl z) => N ls r (hu h k (ys.headD 0).toNat z)
      | 2, .inl z => (z = 0 ∨ z = 1) ∧ N ls r (hu h k (ys.headD 0).toNat z)
      | _, _ => False
    | _ => False
  | 41 => onI st fun j r => onR r fun k r => ((sh k).1 = 1 ∧ (0 ≤ j ∧ j < (sh k).2.1) ∧ N ls (vI (h k j.toNat) :: r) h) ∨ ((sh k).1 = 7 ∧ (0 ≤ j ∧ j < 6) ∧ k = 2000 ∧ N ls (vI (aboveF j.toNat) :: r) h)
  | 42 => onI st fun z r => onI r fun j r => onR r fun k r => (sh k).1 = 1 ∧ (0 ≤ j ∧ j < (sh k).2.1) ∧ N ls r (hu h k j.toNat z)
  | 43 => onI st fun j r => onR r fun k r => (sh k).1 = 2 ∧ (0 ≤ j ∧ j < (sh k).2.1) ∧ N ls (vI (h k j.toNat) :: r) h
  | 44 => onI st fun z r => onI r fun j r => onR r fun k r => (sh k).1 = 2 ∧ (0 ≤ j ∧ j < (sh k).2.1) ∧ N ls r (hu h k j.toNat (w8 z))
  | 45 => onI st fun j r => onR r fun k r => (sh k).1 = 3 ∧ (0 ≤ j ∧ j < (sh k).2.1) ∧ N ls (vL (h k j.toNat) :: r) h
  | 46 => onL st fun z r => onI r fun j r => onR r fun k r => (sh k).1 = 3 ∧ (0 ≤ j ∧ j < (sh k).2.1) ∧ N ls r (hu h k j.toNat z)
  | 47 => onI st fun j r => onR r fun k r => (4 ≤ (sh k).1 ∧ (sh k).1 ≤ 6) ∧ (0 ≤ j ∧ j < (sh k).2.1) ∧ N ls (vR ((sh k).2.2.getD 0 0 + (sh k).2.2.getD 1 0 * j.toNat) :: r) h
  | 48 => (st.length ≤ 4 + (ys.headD 0).toNat ∧ (ys.headD 0).toNat ≤ st.length) ∧ ∃ P, CR x.toNat (st.take (ys.headD 0).toNat).reverse h P ∧ ∀ r h', P r h' → N ls (r.toList ++ st.drop (ys.headD 0).toNat) h'
  | 49 => (st.length ≤ 5 + (ys.headD 0).toNat ∧ (ys.headD 0).toNat + 1 ≤ st.length) ∧ onR (st.drop (ys.headD 0).toNat) fun k r => ((sh k).1 = 0 ∧ (sh k).2.1 = (ys.getD 1 0).toNat) ∧ ∃ P, CR x.toNat (vR k :: (st.take (ys.headD 0).toNat).reverse) h P ∧ ∀ r' h', P r' h' → N ls (r'.toList ++ r) h'
  | 50 => (st.length ≤ 5 + (ys.headD 0).toNat ∧ (ys.headD 0).toNat + 1 ≤ st.length) ∧ onR (st.drop (ys.headD 0).toNat) fun k r => (1000 ≤ k ∧ k < 1012) ∧ ∃ P, CR x.toNat (vR k :: (st.take (ys.headD 0).toNat).reverse) h P ∧ ∀ r' h', P r' h' → N ls (r'.toList ++ r) h'
  | 51 => onI st fun n r => onI r fun dp r => onR r fun k1 r => onI r fun sp r => onR r fun k0 r => ((sh k0).1 = 1 ∧ (sh k1).1 = 1 ∧ r.length ≤ 4) ∧ (0 ≤ sp ∧ 0 ≤ dp ∧ 0 ≤ n ∧ sp + n ≤ (sh k0).2.1 ∧ dp + n ≤ (sh k1).2.1) ∧ N ls r (hcpy h k0 k1 sp.toNat dp.toNat n.toNat)
  | 55 => onI st fun b r => onI r fun a r => r.length ≤ 8 ∧ N ls (vI (max a b) :: r) h
  | 56 => onI st fun b r => onI r fun a r => r.length ≤ 8 ∧ N ls (vI (min a b) :: r) h
  | 52 => match st with
    | [.inl z] => Q (some (vI z)) h
    | _ => False
  | 53 => match st with
    | [.inl z] => (z = 0 ∨ z = 1) ∧ Q (some (vI z)) h
    | _ => False
  | 54 => match st with
    | [] => Q none h
    | _ => False
  | 60 => onI st fun a r => (a = 0 → K x.toNat ls r h) ∧ (¬ a = 0 → N ls r h)
  | 61 => onI st fun a r => (¬ a = 0 → K x.toNat ls r h) ∧ (a = 0 → N ls r h)
  | 62 => onI st fun a r => (a < 0 → K x.toNat ls r h) ∧ (¬ a < 0 → N ls r h)
  | 63 => onI st fun a r => (¬ a < 0 → K x.toNat ls r h) ∧ (a < 0 → N ls r h)
  | 64 => onI st fun a r => (0 < a → K x.toNat ls r h) ∧ (¬ 0 < a → N ls r h)
  | 65 => onI st fun a r => (¬ 0 < a → K x.toNat ls r h) ∧ (0 < a → N ls r h)
  | 70 => onI st fun b r => onI r fun a r => (a = b → K x.toNat ls r h) ∧ (¬ a = b → N ls r h)
  | 71 => onI st fun b r => onI r fun a r => (¬ a = b → K x.toNat ls r h) ∧ (a = b → N ls r h)
  | 72 => onI st fun b r => onI r fun a r => (a < b → K x.toNat ls r h) ∧ (¬ a < b → N ls r h)
  | 73 => onI st fun b r => onI r fun a r => (¬ a < b → K x.toNat ls r h) ∧ (a < b → N ls r h)
  | 74 => onI st fun b r => onI r fun a r => (b < a → K x.toNat ls r h) ∧ (¬ b < a → N ls r h)
  | 75 => onI st fun b r => onI r fun a r => (¬ b < a → K x.toNat ls r h) ∧ (b < a → N ls r h)
  | _ => False
def run1 (CR : Nat → List AV → AH → (Option AV → AH → Prop) → Prop) (Q : Option AV → AH → Prop) (K : Nat → LcT → List AV → AH → Prop) : List AE → LcT → List AV → AH → Prop
  | [] => fun _ _ _ => False
  | c :: cs => fun ls st h => stp CR Q K c.2.1 c.2.2.1 c.2.2.2 ls st h (run1 CR Q K cs)
def dropTo (n : Nat) : List AE → List AE
  | [] => []
  | e :: es => if e.1 = n then e :: es else dropTo n es
/-- the short form of an instruction -/
def fldAt (own i : Nat) : Option (Nat × Nat) := (fldT.find? (fun e => e.1 == own && e.2.1 == i)).map (fun e => (e.2.2.1, e.2.2.2.1))
def mthAt (own i : Nat) : Option Nat := (mthT.find? (fun e => e.1 == own && e.2.1 == i)).map (fun e => e.2.2.1)
def cstAt (own i : Nat) : Option Int := (cstT.find? (fun e => e.1 == own && e.2.1 == i)).map (fun e => e.2.2)
def cslAt (own i : Nat) : Option Int := (cslT.find? (fun e => e.1 == own && e.2.1 == i)).map (fun e => e.2.2)
def mrec (i : Nat) : Mrec := mtab.getD i (0, yX1_takes, cX1_takes, 0, none, [])
def vwOf (own : Nat) : Nat := ([0, 99, 1, 2, 3, 4, 5, 6, 7, 99, 99, 99, 99] : List Nat).getD own 99
def ccode : Jvm.ClassFile.Cond → Nat
  | .eq => 0
  | .ne => 1
  | .lt => 2
  | .ge => 3
  | .gt => 4
  | .le => 5
def npar (y : MethodName) : Option Nat := (parseMethodDescriptor y.desc).map (fun d => d.parameters.length)
def enc (own : Nat) (rk : Option FieldType) (pc : Nat) : Instr → Option (Nat × Int × List Int)
  | .iconst n => if -128 ≤ n ∧ n ≤ 127 then some (0, n, []) else none
  | .bipush n => if -128 ≤ n ∧ n ≤ 127 then some (0, n, []) else none
  | .sipush n => if -32768 ≤ n ∧ n ≤ 32767 then some (0, n, []) else none
  | .ldc i => if own = 5 ∧ i ∈ strI then some (2, 1000 + (strI.idxOf i : Int), []) else (cstAt own i).map (fun v => (0, v, []))
  | .ldc_w i => (cstAt own i).map (fun v => (0, v, []))
  | .ldc2_w i => (cslAt own i).map (fun v => (1, v, []))
  | .lconst n => some (1, n.val, [])
  | .iload i => some (3, i, [])
  | .iload_n i => some (3, i.val, [])
  | .lload i => some (4, i, [])
  | .lload_n i => some (4, i.val, [])
  | .aload i => some (5, i, [])
  | .aload_n i => some (5, i.val, [])
  | .istore i => some (6, i, [])
  | .istore_n i => some (6, i.val, [])
  | .lstore i => some (7, i, [])
  | .lstore_n i => some (7, i.val, [])
  | .astore i => some (8, i, [])
  | .astore_n i => some (8, i.val, [])
  | .iinc i n => some (9, i, [n])
  | .iadd => some (10, 0, [])
  | .isub => some (11, 0, [])
  | .imul => some (12, 0, [])
  | .idiv => some (13, 0, [])
  | .irem => some (14, 0, [])
  | .iand => some (15, 0, [])
  | .ior => some (16, 0, [])
  | .ixor => some (17, 0, [])
  | .ishl => some (18, 0, [])
  | .ishr => some (19, 0, [])
  | .iushr => some (20, 0, [])
  | .ladd => some (21, 0, [])
  | .lsub => some (22, 0, [])
  | .lmul => some (23, 0, [])
  | .land => some (24, 0, [])
  | .lshr => some (25, 0, [])
  | .lushr => some (26, 0, [])
  | .lcmp => some (27, 0, [])
  | .i2l => some (28, 0, [])
  | .l2i => some (29, 0, [])
  | .i2b => some (30, 0, [])
  | .i2s => some (31, 0, [])
  | .dup => some (32, 0, [])
  | .dup2 => some (33, 0, [])
  | .goto o => if 0 ≤ (pc : Int) + o then some (36, pc + o, []) else none
  | .tableswitch d lo hi os => if 0 ≤ (pc : Int) + d ∧ os.toList.all (fun o => decide (0 ≤ (pc : Int) + o)) = true ∧ hi = lo + os.size - 1 then some (37, pc + d, lo :: os.toList.map (fun o => pc + o)) else none
  | .lookupswitch d ps => if 0 ≤ (pc : Int) + d ∧ ps.toList.all (fun o => decide (0 ≤ (pc : Int) + o.2)) = true ∧ (ps.toList.zip (ps.toList.drop 1)).all (fun (a, next) => a.1 < next.1) = true then some (38, pc + d, ps.toList.flatMap (fun o => [o.1, pc + o.2])) else none
  | .getfield i => (fldAt own i).map (fun f => (39, (f.1 : Int), [(f.2 : Int)]))
  | .putfield i => (fldAt own i).map (fun f => (40, (f.1 : Int), [(f.2 : Int)]))
  | .getstatic i => if own = 1 ∧ i = abvI then some (2, 2000, []) else none
  | .iaload => some (41, 0, [])
  | .iastore => some (42, 0, [])
  | .baload => some (43, 0, [])
  | .bastore => some (44, 0, [])
  | .laload => some (45, 0, [])
  | .lastore => some (46, 0, [])
  | .aaload => some (47, 0, [])
  | .invokestatic i => if own = 6 ∧ i = acpyI then some (51, 0, []) else if (own, i, true) ∈ mmxT then some (55, 0, []) else if (own, i, false) ∈ mmxT then some (56, 0, []) else (mthAt own i).bind (fun m => (npar (mrec m).2.1).map (fun n => (48, (m : Int), [(n : Int)])))
  | .invokevirtual i => (mthAt own i).bind (fun m => (npar (mrec m).2.1).map (fun n => if (mrec m).1 = 11 then (50, (m : Int), [(n : Int)]) else (49, (m : Int), [(n : Int), (vwOf (mrec m).1 : Int)])))
  | .ireturn => if rk = some .int then some (52, 0, []) else if rk = some .boolean then some (53, 0, []) else none
  | .return_ => if rk = none then some (54, 0, []) else none
  | .ifCond c o => if 0 ≤ (pc : Int) + o then some (60 + ccode c, pc + o, []) else none
  | .if_icmp c o => if 0 ≤ (pc : Int) + o then some (70 + ccode c, pc + o, []) else none
  | _ => none
def lenOK : Instr → Nat → Bool
  | .tableswitch _ _ _ _, _ => true
  | .lookupswitch _ _, _ => true
  | .bipush _, n => n == 2
  | .ldc _, n => n == 2
  | .iload _, n => n == 2
  | .lload _, n => n == 2
  | .aload _, n => n == 2
  | .istore _, n => n == 2
  | .lstore _, n => n == 2
  | .astore _, n => n == 2
  | .sipush _, n => n == 3
  | .ldc_w _, n => n == 3
  | .ldc2_w _, n => n == 3
  | .iinc _ _, n => n == 3
  | .goto _, n => n == 3
  | .getfield _, n => n == 3
  | .putfield _, n => n == 3
  | .getstatic _, n => n == 3
  | .invokestatic _, n => n == 3
  | .invokevirtual _, n => n == 3
  | .ifCond _ _, n => n == 3
  | .if_icmp _ _, n => n == 3
  | _, n => n == 1
/-- each entry is the short form of what stands there, and the next entry is the next instruction -/
def okN (n : Nat) : List AE → Bool
  | [] => true
  | e :: _ => if e.2.1 = 99 then decide (e.2.2.1 = (n : Int)) else decide (e.1 = n)
def okC (own : Nat) (b : ByteArray) (rk : Option FieldType) : List AE → Bool
  | [] => true
  | e :: es => (if e.2.1 = 99 then decide (0 ≤ e.2.2.1) else (match decode b e.1 with
    | .ok (i, n) => decide (enc own rk e.1 i = some e.2) && lenOK i n && okN (e.1 + n) es
    | _ => false)) && okC own b rk es
def okM (i : Nat) : Bool := okC (mrec i).1 (mrec i).2.2.1 (mrec i).2.2.2.2.1 (mrec i).2.2.2.2.2 && decide ((mrec i).2.2.2.1 ≤ 20) && plainName (mrec i).2.1.cls && decide (clsN (mrec i).1 = (mrec i).2.1.cls)
