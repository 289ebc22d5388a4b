/-! THE NUMBER MACHINE: a pure machine over whole numbers that runs the resolved code of every method that makes no object. Objects are numbers (ids) of one fixed plan, references never change; memory holds numbers alone. -/
abbrev Mm : Type := Int → Int → Int
abbrev Vv : Type := Nat × Int
def up (m : Mm) (o k v : Int) : Mm := fun a b => if a = o ∧ b = k then v else m a b
def cpy (m : Mm) (s sp d dp n : Int) : Mm := fun a b => if a = d ∧ dp ≤ b ∧ b < dp + n then m s (sp + (b - dp)) else m a b
def w32 (x : Int) : Int := (Int32.ofInt x).toInt
def w64 (x : Int) : Int := (Int64.ofInt x).toInt
def idv (a b : Int) : Int := (Int32.ofInt a / Int32.ofInt b).toInt
def irm (a b : Int) : Int := (Int32.ofInt a - Int32.ofInt a / Int32.ofInt b * Int32.ofInt b).toInt
def ian (a b : Int) : Int := (Int32.ofInt a &&& Int32.ofInt b).toInt
def iro (a b : Int) : Int := (Int32.ofInt a ||| Int32.ofInt b).toInt
def ixo (a b : Int) : Int := (Int32.ofInt a ^^^ Int32.ofInt b).toInt
def isl (a b : Int) : Int := (Int32.ofInt a <<< (Int32.ofInt b &&& 31)).toInt
def isr (a b : Int) : Int := (Int32.ofInt a >>> (Int32.ofInt b &&& 31)).toInt
def ius (a b : Int) : Int := ((Int32.ofInt a).toUInt32 >>> ((Int32.ofInt b).toUInt32 &&& Int32.toUInt32 31)).toInt32.toInt
def ldv (a b : Int) : Int := (Int64.ofInt a / Int64.ofInt b).toInt
def lrm (a b : Int) : Int := (Int64.ofInt a - Int64.ofInt a / Int64.ofInt b * Int64.ofInt b).toInt
def lan (a b : Int) : Int := (Int64.ofInt a &&& Int64.ofInt b).toInt
def lro (a b : Int) : Int := (Int64.ofInt a ||| Int64.ofInt b).toInt
def lxo (a b : Int) : Int := (Int64.ofInt a ^^^ Int64.ofInt b).toInt
def lsl (a b : Int) : Int := (Int64.ofInt a <<< ((Int32.ofInt b).toInt64 &&& 63)).toInt
def lsr (a b : Int) : Int := (Int64.ofInt a >>> ((Int32.ofInt b).toInt64 &&& 63)).toInt
def lus (a b : Int) : Int := ((Int64.ofInt a).toUInt64 >>> ((Int32.ofInt b).toInt64.toUInt64 &&& Int64.toUInt64 63)).toInt64.toInt
def lcm (a b : Int) : Int := if a < b then -1 else if a = b then 0 else 1
def i2c (a : Int) : Int := ((Int32.ofInt a).toUInt32 % 65536).toInt32.toInt
/-- the two texts that the class holds as constants, byte by byte -/
def WORDSL : List Int := [102, 114, 111, 115, 116, 115, 32, 103, 111, 101, 115, 32, 99, 111, 119, 32, 103, 97, 116, 101, 32, 112, 108, 97, 110, 116, 32, 99, 117, 116, 32, 112, 114, 101, 115, 115, 32, 103, 111, 32, 104, 111, 117, 114, 32, 99, 101, 108, 108, 32, 97, 114, 111, 117, 110, 100, 32, 97, 108, 108, 32, 110, 117, 109, 98, 101, 114, 32, 119, 104, 111, 32, 119, 97, 121, 32, 116, 117, 114, 110, 32, 98, 121, 32, 102, 97, 114, 32, 111, 102, 32, 104, 101, 100, 103, 101, 32, 105, 102, 32, 116, 104, 101, 110, 32, 101, 108, 115, 101, 32, 101, 110, 100, 32, 111, 114, 32, 97, 110, 100, 32, 110, 111, 116, 32]
def SIGNSL : List Int := [60, 62, 61, 35, 43, 45, 42, 47, 40, 41, 59]
def wchar (i : Int) : Int := WORDSL.getD i.toNat 0
def idxOf : List Int → Int → Int → Int
  | [], _, _ => -1
  | x :: r, c, k => if x = c then k else idxOf r c (k + 1)
/-! kinds of values: 0 int, 1 long, 9 nothing known, 10 .. 18 objects of class 0 .. 8, 50 the script, 51 TRIED, 52 and 53 the two texts, from 100 on arrays: 100 + 8 n + (0 int, 1 long, 2 boolean, 3 Land, 4 Text) -/
def aty (t : Nat) : Nat := if t < 100 then 9 else (t - 100) % 8
def aln (t : Nat) : Int := ((t - 100) / 8 : Nat)
def FTL : List (List Nat) := [[13, 343, 0, 0, 0, 0, 0, 0, 0, 164, 164], [357], [156, 2500, 0], [1, 0, 140, 140, 0, 0, 0, 0, 340], [0, 0, 300], [2500, 0, 16, 2, 0, 0, 0, 0, 0, 0, 0, 0], [0, 292, 292, 292, 2500, 0, 2, 0, 0, 2, 0, 0], [10, 10, 11, 136, 16, 15, 12, 14, 13], [11828, 11828, 21892, 2660, 2500, 0, 0, 0, 0, 0, 0, 0, 1, 0, 0, 0, 1380, 0, 0, 2, 0, 156, 2741, 2742, 2, 0, 268, 300, 308, 308, 900, 300, 132, 420]]
def OFL : List (List Int) := [[1, 5, 0, 0, 0, 0, 0, 0, 0, 126, 127], [1], [1, 2, 0], [0, 0, 1, 2, 0, 0, 0, 0, 3], [0, 0, 1], [1, 0, 2, 0, 0, 0, 0, 0, 0, 0, 0, 0], [0, 1, 2, 3, 4, 0, 0, 0, 0, 0, 0, 0], [128, 256, 1, 3, 48, 80, 10, 13, 64], [1, 2, 3, 4, 5, 0, 0, 0, 0, 0, 0, 0, 0, 0, 0, 0, 6, 0, 0, 0, 0, 7, 8, 9, 0, 0, 10, 11, 12, 13, 14, 15, 16, 17]]
def FT (c k : Nat) : Nat := (FTL.getD c []).getD k 9
def OF (c k : Nat) : Int := (OFL.getD c []).getD k 0
def PA (t : Nat) (o i : Int) : Int := if t = 3 then o + 1 + 4 * i else o + 13 + 8 * i
def catV (v : Vv) : Nat := if v.1 = 1 then 2 else 1
def catS (l : List Vv) : Nat := (l.map catV).sum
abbrev Cf : Type := Nat × List Vv × List Vv × Mm
/-- a long whose second half is overwritten is lost -/
def cut1 (L : List Vv) (i : Nat) : List Vv := match i with
  | 0 => L
  | j + 1 => match L[j]? with
    | some (1, _) => L.set j (9, 0)
    | _ => L
def sto1 (L : List Vv) (i : Nat) (v : Vv) : List Vv := (cut1 L i).set i v
def sto2 (L : List Vv) (i : Nat) (v : Vv) : List Vv := ((cut1 L i).set i v).set (i + 1) (9, 0)
def cmpB (c : Jvm.ClassFile.Cond) (a b : Int) : Bool := match c with
  | .eq => decide (a = b)
  | .ne => decide (¬ a = b)
  | .lt => decide (a < b)
  | .ge => decide (b ≤ a)
  | .gt => decide (b < a)
  | .le => decide (a ≤ b)
def tsw (d : Int) : Int → List Int → Int → Int
  | _, [], _ => d
  | lo, t :: r, x => if x = lo then t else tsw d (lo + 1) r x
def lsw (d : Int) : List (Int × Int) → Int → Int
  | [], _ => d
  | q :: r, x => if x = q.1 then q.2 else lsw d r x
def bi2 (f : Int → Int → Int) (pc : Nat) (L st : List Vv) (m : Mm) : Option Cf := match st with
  | (0, b) :: (0, a) :: r => some (pc + 1, L, (0, f a b) :: r, m)
  | _ => none
def bl2 (f : Int → Int → Int) (pc : Nat) (L st : List Vv) (m : Mm) : Option Cf := match st with
  | (1, b) :: (1, a) :: r => some (pc + 1, L, (1, f a b) :: r, m)
  | _ => none
def bs2 (f : Int → Int → Int) (pc : Nat) (L st : List Vv) (m : Mm) : Option Cf := match st with
  | (0, b) :: (1, a) :: r => some (pc + 1, L, (1, f a b) :: r, m)
  | _ => none
def bd2 (f : Int → Int → Int) (pc : Nat) (L st : List Vv) (m : Mm) : Option Cf := match st with
  | (0, b) :: (0, a) :: r => if b = 0 then none else some (pc + 1, L, (0, f a b) :: r, m)
  | _ => none
def bq2 (f : Int → Int → Int) (pc : Nat) (L st : List Vv) (m : Mm) : Option Cf := match st with
  | (1, b) :: (1, a) :: r => if b = 0 then none else some (pc + 1, L, (1, f a b) :: r, m)
  | _ => none
/-- reading an array's cell -/
def ald (ty : Nat) (rt : Nat) (pc : Nat) (L st : List Vv) (m : Mm) : Option Cf := match st with
  | (0, i) :: (t, o) :: r => if aty t = ty then (if 0 ≤ i ∧ i < aln t then some (pc + 1, L, (rt, m o i) :: r, m) else none) else none
  | _ => none
def sld (pc : Nat) (L st : List Vv) (m : Mm) : Option Cf := match st with
  | (0, i) :: (t, o) :: r => if t = 50 then (if 0 ≤ i ∧ i < m 500 (-1) then some (pc + 1, L, (0, m 500 i) :: r, m) else none)
      else if t = 51 then (if 0 ≤ i ∧ i < 4 then some (pc + 1, L, (0, m 501 i) :: r, m) else none) else ald 0 0 pc L ((0, i) :: (t, o) :: r) m
  | _ => none
def rld (pc : Nat) (L st : List Vv) (m : Mm) : Option Cf := match st with
  | (0, i) :: (t, o) :: r => if aty t = 3 then (if 0 ≤ i ∧ i < aln t then some (pc + 1, L, (13, PA 3 o i) :: r, m) else none)
      else if aty t = 4 then (if 0 ≤ i ∧ i < aln t then some (pc + 1, L, (16, PA 4 o i) :: r, m) else none) else none
  | _ => none
def ast (ty : Nat) (vt : Nat) (pc : Nat) (L st : List Vv) (m : Mm) : Option Cf := match st with
  | (t0, v) :: (0, i) :: (t, o) :: r => if t0 = vt then if aty t = ty then (if 0 ≤ i ∧ i < aln t then some (pc + 1, L, r, up m o i v) else none) else none else none
  | _ => none
def bst (pc : Nat) (L st : List Vv) (m : Mm) : Option Cf := match st with
  | (0, v) :: (0, i) :: (t, o) :: r => if aty t = 2 then (if (v = 0 ∨ v = 1) ∧ 0 ≤ i ∧ i < aln t then some (pc + 1, L, r, up m o i v) else none) else none
  | _ => none
def gtf (c k : Nat) (pc : Nat) (L st : List Vv) (m : Mm) : Option Cf := match st with
  | (t, o) :: r => if t = c + 10 ∧ k < CN c then (if FT c k = 0 ∨ FT c k = 2 then some (pc + 1, L, (0, m o k) :: r, m) else if FT c k = 1 then some (pc + 1, L, (1, m o k) :: r, m) else some (pc + 1, L, (FT c k, o + OF c k) :: r, m)) else none
  | _ => none
def ptf (c k : Nat) (pc : Nat) (L st : List Vv) (m : Mm) : Option Cf := match st with
  | (t0, v) :: (t, o) :: r => if t = c + 10 ∧ k < CN c then (if FT c k = 0 ∧ t0 = 0 then some (pc + 1, L, r, up m o k v) else if FT c k = 1 ∧ t0 = 1 then some (pc + 1, L, r, up m o k v) else if FT c k = 2 ∧ t0 = 0 then (if v = 0 ∨ v = 1 then some (pc + 1, L, r, up m o k v) else none) else none) else none
  | _ => none
def acp (pc : Nat) (L st : List Vv) (m : Mm) : Option Cf := match st with
  | (0, n) :: (0, dp) :: (td, d) :: (0, sp) :: (ts, s) :: [] => if aty ts = 0 ∧ aty td = 0 then (if 0 ≤ n ∧ 0 ≤ sp ∧ 0 ≤ dp ∧ sp + n ≤ aln ts ∧ dp + n ≤ aln td then some (pc + 1, L, [], cpy m s sp d dp n) else none) else none
  | _ => none
/-- Math.max, min, abs of ints, max, min of longs -/
def mth (n pc : Nat) (L st : List Vv) (m : Mm) : Option Cf := match n, st with
  | 0, (0, b) :: (0, a) :: r => if catS r ≤ 8 then some (pc + 1, L, (0, max a b) :: r, m) else none
  | 1, (0, b) :: (0, a) :: r => if catS r ≤ 8 then some (pc + 1, L, (0, min a b) :: r, m) else none
  | 2, (0, a) :: r => if catS r ≤ 8 then some (pc + 1, L, (0, if 0 ≤ a then a else w32 (0 - a)) :: r, m) else none
  | 3, (1, b) :: (1, a) :: r => if catS r ≤ 8 then some (pc + 1, L, (1, max a b) :: r, m) else none
  | 4, (1, b) :: (1, a) :: r => if catS r ≤ 8 then some (pc + 1, L, (1, min a b) :: r, m) else none
  | _, _ => none
/-- a step that is no call and no return -/
def st1 (i : Instr) (pc : Nat) (L st : List Vv) (m : Mm) : Option Cf := match i with
  | .iconst v => some (pc + 1, L, (0, v) :: st, m)
  | .bipush v => some (pc + 1, L, (1, v) :: st, m)
  | .iload i => match L[i]? with
    | some (0, x) => some (pc + 1, L, (0, x) :: st, m)
    | _ => none
  | .lload i => match L[i]? with
    | some (1, x) => some (pc + 1, L, (1, x) :: st, m)
    | _ => none
  | .aload i => match L[i]? with
    | some (t, x) => if 10 ≤ t then some (pc + 1, L, (t, x) :: st, m) else none
    | _ => none
  | .istore i => match st with
    | (0, x) :: r => if i < L.length then some (pc + 1, sto1 L i (0, x), r, m) else none
    | _ => none
  | .lstore i => match st with
    | (1, x) :: r => if i + 1 < L.length then some (pc + 1, sto2 L i (1, x), r, m) else none
    | _ => none
  | .astore i => match st with
    | (t, x) :: r => if 10 ≤ t ∧ i < L.length then some (pc + 1, sto1 L i (t, x), r, m) else none
    | _ => none
  | .iinc i k => match L[i]? with
    | some (0, x) => some (pc + 1, sto1 L i (0, w32 (x + k)), st, m)
    | _ => none
  | .iadd => bi2 (fun a b => w32 (a + b)) pc L st m
  | .isub => bi2 (fun a b => w32 (a - b)) pc L st m
  | .imul => bi2 (fun a b => w32 (a * b)) pc L st m
  | .iand => bi2 ian pc L st m
  | .ior => bi2 iro pc L st m
  | .ixor => bi2 ixo pc L st m
  | .ishl => bi2 isl pc L st m
  | .ishr => bi2 isr pc L st m
  | .iushr => bi2 ius pc L st m
  | .idiv => bd2 idv pc L st m
  | .irem => bd2 irm pc L st m
  | .ineg => match st with
    | (0, a) :: r => some (pc + 1, L, (0, w32 (-a)) :: r, m)
    | _ => none
  | .ladd => bl2 (fun a b => w64 (a + b)) pc L st m
  | .lsub => bl2 (fun a b => w64 (a - b)) pc L st m
  | .lmul => bl2 (fun a b => w64 (a * b)) pc L st m
  | .land => bl2 lan pc L st m
  | .lor => bl2 lro pc L st m
  | .lxor => bl2 lxo pc L st m
  | .lshl => bs2 lsl pc L st m
  | .lshr => bs2 lsr pc L st m
  | .lushr => bs2 lus pc L st m
  | .ldiv => bq2 ldv pc L st m
  | .lrem => bq2 lrm pc L st m
  | .lneg => match st with
    | (1, a) :: r => some (pc + 1, L, (1, w64 (-a)) :: r, m)
    | _ => none
  | .lcmp => match st with
    | (1, b) :: (1, a) :: r => some (pc + 1, L, (0, lcm a b) :: r, m)
    | _ => none
  | .i2l => match st with
    | (0, a) :: r => some (pc + 1, L, (1, a) :: r, m)
    | _ => none
  | .l2i => match st with
    | (1, a) :: r => some (pc + 1, L, (0, w32 a) :: r, m)
    | _ => none
  | .i2c => match st with
    | (0, a) :: r => some (pc + 1, L, (0, i2c a) :: r, m)
    | _ => none
  | .dup => match st with
    | (t, a) :: r => if t = 1 ∨ t = 9 then none else some (pc + 1, L, (t, a) :: (t, a) :: r, m)
    | _ => none
  | .dup2 => match st with
    | (t, a) :: (u, b) :: r => if t = 1 ∨ t = 9 ∨ u = 1 ∨ u = 9 then none else some (pc + 1, L, (t, a) :: (u, b) :: (t, a) :: (u, b) :: r, m)
    | _ => none
  | .pop => match st with
    | (t, _) :: r => if t = 1 ∨ t = 9 then none else some (pc + 1, L, r, m)
    | _ => none
  | .goto t => some (t.toNat, L, st, m)
  | .if_icmp c t => match st with
    | (0, b) :: (0, a) :: r => some (if cmpB c a b = true then t.toNat else pc + 1, L, r, m)
    | _ => none
  | .ifCond c t => match st with
    | (0, a) :: r => some (if cmpB c a 0 = true then t.toNat else pc + 1, L, r, m)
    | _ => none
  | .tableswitch d lo _ ts => match st with
    | (0, x) :: r => some ((tsw d lo ts.toList x).toNat, L, r, m)
    | _ => none
  | .lookupswitch d ps => match st with
    | (0, x) :: r => some ((lsw d ps.toList x).toNat, L, r, m)
    | _ => none
  | .multianewarray c k => gtf c k pc L st m
  | .invokeinterface c k => ptf c k pc L st m
  | .iaload => sld pc L st m
  | .laload => ald 1 1 pc L st m
  | .baload => ald 2 0 pc L st m
  | .aaload => rld pc L st m
  | .iastore => ast 0 0 pc L st m
  | .lastore => ast 1 1 pc L st m
  | .bastore => bst pc L st m
  | .arraylength => match st with
    | (t, _) :: r => if t = 50 then some (pc + 1, L, (0, m 500 (-1)) :: r, m) else if aty t = 9 then none else some (pc + 1, L, (0, aln t) :: r, m)
    | _ => none
  | .getstatic _ => some (pc + 1, L, (51, 501) :: st, m)
  | .ret n => mth n pc L st m
  | .ldc t => if t = 52 ∨ t = 53 then some (pc + 1, L, (t, 0) :: st, m) else none
  | .invokedynamic n => if n = 0 then acp pc L st m else if n = 1 then (match st with
      | (52, _) :: [] => some (pc + 1, L, (0, 125) :: [], m)
      | (52, _) :: (0, x) :: [] => some (pc + 1, L, (0, 125) :: (0, x) :: [], m)
      | _ => none) else if n = 2 then (match st with
      | (0, i) :: (52, _) :: [] => if 0 ≤ i ∧ i < 125 then some (pc + 1, L, (0, wchar i) :: [], m) else none
      | _ => none) else (match st with
      | (0, x) :: (53, _) :: [] => if 0 ≤ x ∧ x < 65536 then some (pc + 1, L, (0, idxOf SIGNSL x 0) :: [], m) else none
      | _ => none)
  | _ => none
/-- a method: the kinds of its arguments, of its answer (0 int, 1 long, 2 boolean, 3 none, else a reference), how many locals, its code -/
abbrev MI : Type := List Nat × Nat × Nat × List Instr
def entL : List Vv → List Vv
  | [] => []
  | (t, x) :: r => if t = 1 then (t, x) :: (9, 0) :: entL r else (t, x) :: entL r
def ent (a : List Vv) (n : Nat) : List Vv := entL a ++ List.replicate (n - (entL a).length) (9, 0)
def ret1 (i : Instr) (rt : Nat) (st : List Vv) : Option (Option Vv) := match i with
  | .ireturn => match st with
    | [(0, v)] => if rt = 0 then some (some (0, v)) else if rt = 2 then (if v = 0 ∨ v = 1 then some (some (0, v)) else none) else none
    | _ => none
  | .lreturn => match st with
    | [(1, v)] => if rt = 1 then some (some (1, v)) else none
    | _ => none
  | .areturn => match st with
    | [(t, v)] => if rt = t ∧ 10 ≤ t then some (some (t, v)) else none
    | _ => none
  | .return_ => match st with
    | [] => if rt = 3 then some none else none
    | _ => none
  | _ => none
def ex (MT : List MI) : Nat → Nat → List Instr → Nat → Nat → List Vv → List Vv → Mm → Option (Option Vv × Mm)
  | 0, _, _, _, _, _, _, _ => none
  | n + 1, d, C, rt, pc, L, st, m =>
    match C[pc]? with
    | none => none
    | some i =>
      match i with
      | .invokestatic k =>
        match d, MT[k]? with
        | d' + 1, some M =>
          if ((st.take M.1.length).reverse.map (fun v => v.1)) = M.1 ∧ catS (st.drop M.1.length) ≤ 8 then
            match ex MT n d' M.2.2.2 M.2.1 0 (ent (st.take M.1.length).reverse M.2.2.1) [] m with
            | some (v, m') => ex MT n d C rt (pc + 1) L (v.toList ++ st.drop M.1.length) m'
            | none => none
          else none
        | _, _ => none
      | i =>
        match ret1 i rt st with
        | some v => some (v, m)
        | none =>
          match st1 i pc L st m with
          | some (pc', L', st', m') => ex MT n d C rt pc' L' st' m'
          | none => none
