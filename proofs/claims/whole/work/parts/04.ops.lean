/-! ===== instructions with what they link to: pc, instruction, length, two numbers, the place of its word in the tables, a value ===== -/
abbrev fc_I : Type := Nat × Instr × Nat × Nat × Nat × Nat × Value
/-- the kinds of a class's fields: 0 int, 1 long, 2 reference, 3 boolean -/
def fc_ft : Nat → List Nat
  | 0 => [2, 2, 2, 2, 2, 2, 2, 2, 2, 2, 0, 0, 0, 0, 0]
  | 1 => [2, 3, 3]
  | 2 => [2, 2, 0]
  | 3 => [2, 0, 0, 3]
  | 4 => [2, 2, 2, 2, 0, 0]
  | 5 => [2, 2, 2, 0]
  | 6 => [2, 2, 2, 0]
  | 7 => [0, 0, 2, 2, 2, 2, 2, 2, 2]
  | 8 => [2, 0, 0, 0, 0, 0, 1, 0]
  | 9 => [2, 2, 2]
  | 10 => [2, 2, 2, 2, 2, 2, 2, 2, 2, 2, 2, 1]
  | 11 => [0, 2, 0, 0, 2, 2, 2, 0, 0, 2, 2, 2, 2, 0, 2, 2, 2, 2, 0, 0, 0, 2, 2, 2, 2, 0, 2, 2, 2, 1]
  | _ => []
/-- links of private static methods that nest mates call: (class, entry, method) -/
def fc_N : List (String × Nat × MethodName) := [("FirstChimney$Tape", 15, yX10_isFrom), ("FirstChimney$LandReader", 100, yX10_isIn), ("FirstChimney$LandReader", 110, yX10_isFrom), ("FirstChimney$Ways", 39, yX10_isIn), ("FirstChimney$Script", 44, yX10_isFrom), ("FirstChimney$State", 96, yX10_isIn)]
/-- the constant texts: class, entry, text -/
def fc_tx : List (String × Nat × String) := [("FirstChimney$Tape", 58, "place   path    person  in      wakes   thing   worth   of      smoke   binds   minute  walk    give    vow     plain   bench   slow    mute    not     and     or      "), ("FirstChimney$Tape", 44, "()<=+-*;"), ("FirstChimney$LawReader", 49, "clock   price   crowd   judge   "), ("FirstChimney", 309, "no such kindling"), ("FirstChimney", 318, "no such rest")]
def fc_tg (pc : Nat) (off : Int) (a : Nat) : Bool := decide ((pc : Int) + off = (a : Int))
def fc_at (i : Nat) (w : Cond) : Bool := decide (lw_tbl[i]? = some w) && goodWord w
/-- a field's kind, by its type -/
def fc_fk : Option FieldType → Option Nat
  | some .int => some 0
  | some .long => some 1
  | some .boolean => some 3
  | some (.object _) => some 2
  | some (.array _) => some 2
  | _ => none
def fc_okf (y : fc_M) (i a b ps : Nat) : Bool := match vwCl[a]? with
  | some r => decide (b < r.2.2) && (decide (a < 20) && (decide ((fc_ft a)[b]? = fc_fk (parseFieldDescriptor (r.2.1 b).2.2.1)) && fc_at ps (.fieldLink y.1.cls i (r.2.1 b).1 (r.2.1 b).2.1 (r.2.1 b).2.2.1)))
  | none => false
/-- fields of a constant text: 30 its bytes, 31 its coder -/
def fc_okt (y : fc_M) (i a ps : Nat) : Bool := match a with
  | 30 => fc_at ps (.fieldLink y.1.cls i "java/lang/String" "value" "[B")
  | 31 => fc_at ps (.fieldLink y.1.cls i "java/lang/String" "coder" "B")
  | _ => false
def fc_okst (y : fc_M) (i a ps : Nat) : Bool := match a with
  | 0 => fc_at ps (.fieldLink y.1.cls i "java/lang/String" "COMPACT_STRINGS" "Z")
  | 1 => fc_at ps (.fieldLink y.1.cls i "jdk/internal/util/Preconditions" "SIOOBE_FORMATTER" "Ljava/util/function/BiFunction;")
  | _ => false
def fc_fin (a b : Nat) : Bool := match vwCl[a]? with
  | some r => (r.2.1 b).2.2.2
  | none => true
def fc_okv (y : fc_M) (i a b ps : Nat) (v : Value) : Bool := match fc_mtab[a]? with
  | some t => fc_at ps (.methodLink y.1.cls i t.1.1) && (t.2.2 == 0 && (t.2.1 + 1 == b && (match v with
    | .ref ci => (match vwCl[ci]? with
      | some r => decide (r.1 = t.1.1.cls) && decide (ci < 20)
      | none => false)
    | .null => decide (t.1.1.cls = "java/lang/String")
    | _ => false)))
  | none => false
def fc_oks (y : fc_M) (i a b ps : Nat) (v : Value) : Bool := match v with
  | .retAddr 0 => (match fc_mtab[a]? with
    | some t => fc_at ps (.methodLink y.1.cls i t.1.1) && (t.2.2 == 1 && t.2.1 == b)
    | none => false)
  | .retAddr 1 => (match fc_mtab[a]? with
    | some t => decide ((y.1.cls, i, t.1.1) ∈ fc_N) && (t.2.2 == 1 && t.2.1 == b)
    | none => false)
  | .retAddr 10 => fc_at ps (.methodLink y.1.cls i Lib.Math.max.name)
  | .retAddr 11 => fc_at ps (.methodLink y.1.cls i Lib.Math.min.name)
  | .retAddr 12 => fc_at ps (.methodLink y.1.cls i arraycopyName)
  | .retAddr 99 => true
  | _ => false
def fc_okc (y : fc_M) (i ps : Nat) (v : Value) : Bool := match v with
  | .int z => fc_at ps (.constant y.1.cls i z)
  | .float u => (match fc_tx[u.toNat]? with
    | some q => decide (q.1 = y.1.cls) && decide (q.2.1 = i)
    | none => false)
  | _ => false
def fc_okd (y : fc_M) (i ps : Nat) (v : Value) : Bool := match v with
  | .long z => fc_at ps (.constantLong y.1.cls i z)
  | _ => false
def fc_okl (y : fc_M) : fc_I → Bool
  | (pc, i, len, a, b, ps, v) => match i with
    | .iconst n => len == 1 && decide (v = .int (Int32.ofInt n))
    | .bipush n => len == 2 && decide (v = .int (Int8.ofInt n).toInt32)
    | .sipush n => len == 3 && decide (v = .int (Int16.ofInt n).toInt32)
    | .lconst n => len == 1 && decide (v = .long (Int64.ofNat (n : Nat)))
    | .ldc i => len == 2 && fc_okc y i ps v
    | .ldc_w i => len == 3 && fc_okc y i ps v
    | .ldc2_w i => len == 3 && fc_okd y i ps v
    | .getfield i => len == 3 && (if a < 20 then fc_okf y i a b ps else fc_okt y i a ps)
    | .getstatic i => len == 3 && fc_okst y i a ps
    | .putfield i => len == 3 && (fc_okf y i a b ps && !fc_fin a b)
    | .invokevirtual i => len == 3 && fc_okv y i a b ps v
    | .invokestatic i => len == 3 && fc_oks y i a b ps v
    | .if_icmp _ off => len == 3 && fc_tg pc off a
    | .ifCond _ off => len == 3 && fc_tg pc off a
    | .goto off => len == 3 && fc_tg pc off a
    | .iload _ => len == 2
    | .lload _ => len == 2
    | .aload _ => len == 2
    | .istore k => len == 2 && decide (k < y.2.2.1)
    | .lstore k => len == 2 && decide (k + 1 < y.2.2.1)
    | .astore k => len == 2 && decide (k < y.2.2.1)
    | .istore_n k => len == 1 && decide ((k : Nat) < y.2.2.1)
    | .lstore_n k => len == 1 && decide ((k : Nat) + 1 < y.2.2.1)
    | .astore_n k => len == 1 && decide ((k : Nat) < y.2.2.1)
    | .iinc k _ => len == 3 && decide (k < y.2.2.1)
    | .tableswitch d _ _ offs => decide (0 ≤ (pc : Int) + d) && offs.toList.all (fun o => decide (0 ≤ (pc : Int) + o))
    | .lookupswitch d ps => (ps.toList.zip (ps.toList.drop 1)).all (fun (a, next) => a.1 < next.1) && (decide (0 ≤ (pc : Int) + d) && ps.toList.all (fun o => decide (0 ≤ (pc : Int) + o.2)))
    | _ => len == 1
def fc_okb (y : fc_M) (x : fc_I) : Bool := decide (decode y.2.1 x.1 = .ok (x.2.1, x.2.2.1)) && fc_okl y x
def fc_chain : List fc_I → Bool
  | [] => true
  | [_] => true
  | x :: z :: L => decide (x.1 + x.2.2.1 = z.1) && fc_chain (z :: L)
/-- a method's code, with what it links to -/
def fc_code (y : fc_M) (L : List fc_I) : Bool := fc_chain L && L.all (fc_okb y)
