/-! ===== the walk of a method's code, as one proposition ===== -/
abbrev fc_Go : Type := List (Option Value) → List Value → fc_Mi → fc_Ml → fc_Mr → Prop
/-- an index, within n: the k-th place -/
def fc_ix (i : Int32) (n k : Nat) : Prop := vp_in i n ∧ i.toNatClampNeg = k
theorem fc_ix_nI {p n : Nat} (h : p < n) (hn : n < 2 ^ 31) : fc_ix (nI p) n p := ⟨vp_in_nI h hn, nI_clamp (by omega)⟩
theorem fc_ix_in {i : Int32} {n : Nat} (h : vp_in i n) : fc_ix i n i.toNatClampNeg := ⟨h, rfl⟩
def fc_is (r : Option Value) (mi : fc_Mi) (ml : fc_Ml) (mr : fc_Mr) : fc_Q := fun v a b c => r = v ∧ mi = a ∧ ml = b ∧ mr = c
def fc_b (x : Bool) : Int32 := if x then 1 else 0
theorem fc_b0 {x : Bool} : fc_b x = 0 ↔ x = false := by cases x <;> simp [fc_b]
theorem fc_b1 {x : Bool} : ¬ fc_b x = 0 ↔ x = true := by cases x <;> simp [fc_b]
theorem fc_bb (x : Bool) : fc_b x = 0 ∨ fc_b x = 1 := by cases x <;> simp [fc_b]
def fc_br (c : Jvm.ClassFile.Cond) (x z : Int32) (A B : Prop) : Prop := match c with
  | .eq => (x = z → A) ∧ (¬ x = z → B)
  | .ne => (x = z → B) ∧ (¬ x = z → A)
  | .lt => (x < z → A) ∧ (¬ x < z → B)
  | .ge => (z ≤ x → A) ∧ (¬ z ≤ x → B)
  | .gt => (z < x → A) ∧ (¬ z < x → B)
  | .le => (x ≤ z → A) ∧ (¬ x ≤ z → B)
/-- the targets of a switch -/
def fc_ts (pc : Nat) (x : Int32) (j : Nat → Prop) : Int → List Int → Prop
  | _, [] => True
  | k, o :: os => (x = Int32.ofInt k → j ((pc : Int) + o).toNat) ∧ fc_ts pc x j (k + 1) os
def fc_lsw (pc : Nat) (x : Int32) (j : Nat → Prop) (d : Int) : List (Int × Int) → Prop
  | [] => j ((pc : Int) + d).toNat
  | q :: qs => (x.toInt = q.1 → j ((pc : Int) + q.2).toNat) ∧ (¬ x.toInt = q.1 → fc_lsw pc x j d qs)
def fc_call (E : fc_E) (t : fc_M) (d : Nat) (sh : fc_Sh) (b : Nat) (go : fc_Go) : fc_Go := fun lv st mi ml mr =>
  match Nat.ble ((st.drop b).map fun v => v.category).sum 8 && Nat.ble b st.length with
  | true => ∃ Q' : fc_Q, fc_R E t d sh (st.take b).reverse mi ml mr Q' ∧ ∀ v' mi' ml' mr', Q' v' mi' ml' mr' → go lv (v'.toList ++ st.drop b) mi' ml' mr'
  | false => False
def fc_sS (E : fc_E) (d : Nat) (sh : fc_Sh) (a b : Nat) (go : fc_Go) : fc_Go := fun lv st mi ml mr => match fc_mtab[a]?, d with
  | some t, d0 + 1 => fc_call E t.1 d0 sh b go lv st mi ml mr
  | _, _ => False
def fc_sX (go : fc_Go) : fc_Go := fun lv st mi ml mr => match st with
  | .int z :: .int x :: st => (match Nat.ble (st.map fun v => v.category).sum 8 with
    | true => go lv (.int (if x < z then z else x) :: st) mi ml mr
    | false => False)
  | _ => False
def fc_sN (go : fc_Go) : fc_Go := fun lv st mi ml mr => match st with
  | .int z :: .int x :: st => (match Nat.ble (st.map fun v => v.category).sum 8 with
    | true => go lv (.int (if z < x then z else x) :: st) mi ml mr
    | false => False)
  | _ => False
def fc_sC (sh : fc_Sh) (go : fc_Go) : fc_Go := fun lv st mi ml mr => match st with
  | .int n :: .int dp :: .ref q1 :: .int sp :: .ref q0 :: st => (match Nat.ble (st.map fun v => v.category).sum 8 with
    | true => ∃ n0 n1, sh[q0]? = some (20, n0) ∧ sh[q1]? = some (20, n1) ∧ (¬ sp < 0 ∧ ¬ dp < 0 ∧ ¬ n < 0 ∧ sp.toNatClampNeg + n.toNatClampNeg ≤ n0 ∧ dp.toNatClampNeg + n.toNatClampNeg ≤ n1) ∧ go lv st (fc_ur mi q1 (va_cpy (mi q0) (mi q1) sp.toNatClampNeg dp.toNatClampNeg n.toNatClampNeg)) ml mr
    | false => False)
  | _ => False
def fc_step (E : fc_E) (y : fc_M) (d : Nat) (sh : fc_Sh) (go : fc_Go) (jmp : Nat → fc_Go) (Q : fc_Q) : fc_I → fc_Go
  | (pc, i, _, a, b, _, v), lv, st, mi, ml, mr => match i with
    | .iconst _ => go lv (v :: st) mi ml mr
    | .bipush _ => go lv (v :: st) mi ml mr
    | .sipush _ => go lv (v :: st) mi ml mr
    | .lconst _ => go lv (v :: st) mi ml mr
    | .ldc _ => go lv (v :: st) mi ml mr
    | .ldc_w _ => (match v with
      | .int z => go lv (.int z :: st) mi ml mr
      | _ => False)
    | .ldc2_w _ => go lv (v :: st) mi ml mr
    | .iload k => (match lv[k]? with
      | some (some (.int x)) => go lv (.int x :: st) mi ml mr
      | _ => False)
    | .iload_n k => (match lv[(k : Nat)]? with
      | some (some (.int x)) => go lv (.int x :: st) mi ml mr
      | _ => False)
    | .lload k => (match lv[k]? with
      | some (some (.long x)) => go lv (.long x :: st) mi ml mr
      | _ => False)
    | .lload_n k => (match lv[(k : Nat)]? with
      | some (some (.long x)) => go lv (.long x :: st) mi ml mr
      | _ => False)
    | .aload k => (match lv[k]? with
      | some (some (.ref x)) => go lv (.ref x :: st) mi ml mr
      | _ => False)
    | .aload_n k => (match lv[(k : Nat)]? with
      | some (some (.ref x)) => go lv (.ref x :: st) mi ml mr
      | some (some (.float x)) => go lv (.float x :: st) mi ml mr
      | some (some (.retAddr x)) => go lv (.retAddr x :: st) mi ml mr
      | _ => False)
    | .istore k => (match st with
      | .int x :: st => go (fc_s1 lv k (.int x)) st mi ml mr
      | _ => False)
    | .istore_n k => (match st with
      | .int x :: st => go (fc_s1 lv (k : Nat) (.int x)) st mi ml mr
      | _ => False)
    | .lstore k => (match st with
      | .long x :: st => go (fc_s2 lv k (.long x)) st mi ml mr
      | _ => False)
    | .lstore_n k => (match st with
      | .long x :: st => go (fc_s2 lv (k : Nat) (.long x)) st mi ml mr
      | _ => False)
    | .astore k => (match st with
      | .ref x :: st => go (fc_s1 lv k (.ref x)) st mi ml mr
      | _ => False)
    | .astore_n k => (match st with
      | .ref x :: st => go (fc_s1 lv (k : Nat) (.ref x)) st mi ml mr
      | _ => False)
    | .iinc k n => (match lv[k]? with
      | some (some (.int x)) => go (fc_s1 lv k (.int (x + Int32.ofInt n))) st mi ml mr
      | _ => False)
    | .iadd => (match st with
      | .int z :: .int x :: st => go lv (.int (x + z) :: st) mi ml mr
      | _ => False)
    | .isub => (match st with
      | .int z :: .int x :: st => go lv (.int (x - z) :: st) mi ml mr
      | _ => False)
    | .imul => (match st with
      | .int z :: .int x :: st => go lv (.int (x * z) :: st) mi ml mr
      | _ => False)
    | .iand => (match st with
      | .int z :: .int x :: st => go lv (.int (x &&& z) :: st) mi ml mr
      | _ => False)
    | .ior => (match st with
      | .int z :: .int x :: st => go lv (.int (x ||| z) :: st) mi ml mr
      | _ => False)
    | .ixor => (match st with
      | .int z :: .int x :: st => go lv (.int (x ^^^ z) :: st) mi ml mr
      | _ => False)
    | .ishl => (match st with
      | .int z :: .int x :: st => go lv (.int (x <<< (z &&& 31)) :: st) mi ml mr
      | _ => False)
    | .ishr => (match st with
      | .int z :: .int x :: st => go lv (.int (x >>> (z &&& 31)) :: st) mi ml mr
      | _ => False)
    | .iushr => (match st with
      | .int z :: .int x :: st => go lv (.int ((x.toUInt32 >>> (z.toUInt32 &&& Int32.toUInt32 31)).toInt32) :: st) mi ml mr
      | _ => False)
    | .idiv => (match st with
      | .int z :: .int x :: st => ¬ z = 0 ∧ go lv (.int (x / z) :: st) mi ml mr
      | _ => False)
    | .irem => (match st with
      | .int z :: .int x :: st => ¬ z = 0 ∧ go lv (.int (x - x / z * z) :: st) mi ml mr
      | _ => False)
    | .ladd => (match st with
      | .long z :: .long x :: st => go lv (.long (x + z) :: st) mi ml mr
      | _ => False)
    | .lsub => (match st with
      | .long z :: .long x :: st => go lv (.long (x - z) :: st) mi ml mr
      | _ => False)
    | .lmul => (match st with
      | .long z :: .long x :: st => go lv (.long (x * z) :: st) mi ml mr
      | _ => False)
    | .land => (match st with
      | .long z :: .long x :: st => go lv (.long (x &&& z) :: st) mi ml mr
      | _ => False)
    | .lor => (match st with
      | .long z :: .long x :: st => go lv (.long (x ||| z) :: st) mi ml mr
      | _ => False)
    | .ldiv => (match st with
      | .long z :: .long x :: st => ¬ z = 0 ∧ go lv (.long (x / z) :: st) mi ml mr
      | _ => False)
    | .lrem => (match st with
      | .long z :: .long x :: st => ¬ z = 0 ∧ go lv (.long (x - x / z * z) :: st) mi ml mr
      | _ => False)
    | .ineg => (match st with
      | .int x :: st => go lv (.int (-x) :: st) mi ml mr
      | _ => False)
    | .i2l => (match st with
      | .int x :: st => go lv (.long x.toInt64 :: st) mi ml mr
      | _ => False)
    | .l2i => (match st with
      | .long x :: st => go lv (.int x.toInt32 :: st) mi ml mr
      | _ => False)
    | .i2b => (match st with
      | .int x :: st => go lv (.int x.toInt8.toInt32 :: st) mi ml mr
      | _ => False)
    | .i2c => (match st with
      | .int x :: st => go lv (.int (x.toUInt32 % 65536).toInt32 :: st) mi ml mr
      | _ => False)
    | .lushr => (match st with
      | .int z :: .long x :: st => go lv (.long (x.toUInt64 >>> (z.toInt64.toUInt64 &&& Int64.toUInt64 63)).toInt64 :: st) mi ml mr
      | _ => False)
    | .lshl => (match st with
      | .int z :: .long x :: st => go lv (.long (x <<< (z.toInt64 &&& 63)) :: st) mi ml mr
      | _ => False)
    | .lshr => (match st with
      | .int z :: .long x :: st => go lv (.long (x >>> (z.toInt64 &&& 63)) :: st) mi ml mr
      | _ => False)
    | .lcmp => (match st with
      | .long z :: .long x :: st => go lv (.int (lg_cmp x z) :: st) mi ml mr
      | _ => False)
    | .dup => (match st with
      | .int x :: st => go lv (.int x :: .int x :: st) mi ml mr
      | .ref x :: st => go lv (.ref x :: .ref x :: st) mi ml mr
      | _ => False)
    | .pop => (match st with
      | .int x :: st => go lv st mi ml mr
      | .ref x :: st => go lv st mi ml mr
      | _ => False)
    | .dup2 => (match st with
      | .int x :: .ref z :: st => go lv (.int x :: .ref z :: .int x :: .ref z :: st) mi ml mr
      | _ => False)
    | .if_icmp c _ => (match st with
      | .int z :: .int x :: st => fc_br c x z (jmp a lv st mi ml mr) (go lv st mi ml mr)
      | _ => False)
    | .ifCond c _ => (match st with
      | .int x :: st => fc_br c x 0 (jmp a lv st mi ml mr) (go lv st mi ml mr)
      | _ => False)
    | .goto _ => jmp a lv st mi ml mr
    | .getfield _ => (match st with
      | .ref q :: st => sh[q]? = some (a, 0) ∧ (match (fc_ft a)[b]? with
        | some 0 => go lv (.int (mi q b) :: st) mi ml mr
        | some 1 => go lv (.long (ml q b) :: st) mi ml mr
        | some 2 => ∃ r, mr q b = some r ∧ go lv (.ref r :: st) mi ml mr
        | some 3 => go lv (.int (mi q b) :: st) mi ml mr
        | _ => False)
      | .float u :: st => u.toNat < 5 ∧ (match a with
        | 30 => go lv (.retAddr u.toNat :: st) mi ml mr
        | 31 => go lv (.int 0 :: st) mi ml mr
        | _ => False)
      | _ => False)
    | .getstatic _ => (match a with
      | 0 => go lv (.int 1 :: st) mi ml mr
      | 1 => go lv (.null :: st) mi ml mr ∧ go lv (.float 6 :: st) mi ml mr
      | _ => False)
    | .putfield _ => (match st with
      | .int x :: .ref q :: st => sh[q]? = some (a, 0) ∧ (match (fc_ft a)[b]? with
        | some 0 => go lv st (fc_u mi q b x) ml mr
        | some 3 => (x = 0 ∨ x = 1) ∧ go lv st (fc_u mi q b x) ml mr
        | _ => False)
      | .long x :: .ref q :: st => sh[q]? = some (a, 0) ∧ (match (fc_ft a)[b]? with
        | some 1 => go lv st mi (fc_u ml q b x) mr
        | _ => False)
      | .ref x :: .ref q :: st => sh[q]? = some (a, 0) ∧ (match (fc_ft a)[b]? with
        | some 2 => go lv st mi ml (fc_u mr q b (some x))
        | _ => False)
      | _ => False)
    | .iaload => (match st with
      | .int i :: .ref q :: st => ∃ n k, sh[q]? = some (20, n) ∧ fc_ix i n k ∧ go lv (.int (mi q k) :: st) mi ml mr
      | .int i :: .float u :: st => u = 5 ∧ ∃ k, fc_ix i E.2.2.2.2.2.2.1 k ∧ go lv (.int (E.2.2.2.2.2.2.2 k) :: st) mi ml mr
      | _ => False)
    | .baload => (match st with
      | .int i :: .ref q :: st => ∃ n k, sh[q]? = some (22, n) ∧ fc_ix i n k ∧ go lv (.int (mi q k) :: st) mi ml mr
      | .int i :: .retAddr q :: st => q < 5 ∧ ∃ k, fc_ix i (fc_tl.getD q 0) k ∧ go lv (.int ((fc_tb.getD q []).getD k 0) :: st) mi ml mr
      | _ => False)
    | .caload => (match st with
      | .int i :: .ref q :: st => ∃ n k, sh[q]? = some (23, n) ∧ fc_ix i n k ∧ go lv (.int (mi q k) :: st) mi ml mr
      | _ => False)
    | .laload => (match st with
      | .int i :: .ref q :: st => ∃ n k, sh[q]? = some (21, n) ∧ fc_ix i n k ∧ go lv (.long (ml q k) :: st) mi ml mr
      | _ => False)
    | .aaload => (match st with
      | .int i :: .ref q :: st => ∃ t n k r, sh[q]? = some (t, n) ∧ (t = 24 ∨ t = 25 ∨ t = 26) ∧ fc_ix i n k ∧ mr q k = some r ∧ go lv (.ref r :: st) mi ml mr
      | _ => False)
    | .iastore => (match st with
      | .int x :: .int i :: .ref q :: st => ∃ n k, sh[q]? = some (20, n) ∧ fc_ix i n k ∧ go lv st (fc_u mi q k x) ml mr
      | _ => False)
    | .castore => (match st with
      | .int x :: .int i :: .ref q :: st => ∃ n k, sh[q]? = some (23, n) ∧ fc_ix i n k ∧ go lv st (fc_u mi q k (vp_nar .char x)) ml mr
      | _ => False)
    | .bastore => (match st with
      | .int x :: .int i :: .ref q :: st => ∃ n k, sh[q]? = some (22, n) ∧ fc_ix i n k ∧ go lv st (fc_u mi q k (vp_nar .boolean x)) ml mr
      | _ => False)
    | .lastore => (match st with
      | .long x :: .int i :: .ref q :: st => ∃ n k, sh[q]? = some (21, n) ∧ fc_ix i n k ∧ go lv st mi (fc_u ml q k x) mr
      | _ => False)
    | .arraylength => (match st with
      | .ref q :: st => ∃ t n, sh[q]? = some (t, n) ∧ (t = 20 ∨ t = 21) ∧ go lv (.int (Int32.ofNat n) :: st) mi ml mr
      | .float u :: st => u = 5 ∧ go lv (.int (Int32.ofNat E.2.2.2.2.2.2.1) :: st) mi ml mr
      | .retAddr q :: st => q < 5 ∧ go lv (.int (Int32.ofNat (fc_tl.getD q 0)) :: st) mi ml mr
      | _ => False)
    | .ireturn => (match st with
      | [.int x] => (match y.2.2.2 with
        | some .int => Q (some (.int x)) mi ml mr
        | some .boolean => (x = 0 ∨ x = 1) ∧ Q (some (.int x)) mi ml mr
        | some .char => narrow .char (.int x) = .int x ∧ Q (some (.int x)) mi ml mr
        | some .byte => narrow .byte (.int x) = .int x ∧ Q (some (.int x)) mi ml mr
        | _ => False)
      | _ => False)
    | .return_ => (match st with
      | [] => (match y.2.2.2 with
        | none => Q none mi ml mr
        | _ => False)
      | _ => False)
    | .tableswitch df lo hi offs => (match st with
      | .int x :: st => (x.toInt < lo ∨ hi < x.toInt → jmp ((pc : Int) + df).toNat lv st mi ml mr) ∧ (lo ≤ x.toInt ∧ x.toInt ≤ hi → fc_ts pc x (fun t => jmp t lv st mi ml mr) lo offs.toList ∧ hi < lo + offs.toList.length)
      | _ => False)
    | .lookupswitch df qs => (match st with
      | .int x :: st => fc_lsw pc x (fun t => jmp t lv st mi ml mr) df qs.toList
      | _ => False)
    | .invokevirtual _ => (match fc_mtab[a]?, d with
      | some t, d0 + 1 => (match v, st[b - 1]? with
        | .ref ci, some (.ref q) => sh[q]? = some (ci, 0) ∧ fc_call E t.1 d0 sh b go lv st mi ml mr
        | .null, some (.float u) => u.toNat < 5 ∧ fc_call E t.1 d0 sh b go lv st mi ml mr
        | _, _ => False)
      | _, _ => False)
    | .invokestatic _ => (match v with
      | .retAddr 0 => fc_sS E d sh a b go lv st mi ml mr
      | .retAddr 1 => fc_sS E d sh a b go lv st mi ml mr
      | .retAddr 10 => fc_sX go lv st mi ml mr
      | .retAddr 11 => fc_sN go lv st mi ml mr
      | .retAddr 12 => fc_sC sh go lv st mi ml mr
      | _ => False)
    | _ => False
theorem fc_wmax1 : Cond.static Lib.Math.max.name ∈ fc_G := fc_G_of 616 (by decide +kernel) rfl
theorem fc_wmax2 : Cond.code Lib.Math.max.name Lib.Math.max.code 2 (some .int) ∈ fc_G := fc_G_of 617 (by decide +kernel) rfl
theorem fc_wmin1 : Cond.static Lib.Math.min.name ∈ fc_G := fc_G_of 619 (by decide +kernel) rfl
theorem fc_wmin2 : Cond.code Lib.Math.min.name Lib.Math.min.code 2 (some .int) ∈ fc_G := fc_G_of 620 (by decide +kernel) rfl
theorem fc_wmath : Cond.initialized "java/lang/Math" ∈ fc_G := fc_G_of 123 (by decide +kernel) rfl
theorem fc_wcop1 : Cond.native arraycopyName ∈ fc_G := fc_G_of 868 (by decide +kernel) rfl
theorem fc_wcop2 : Cond.static arraycopyName ∈ fc_G := fc_G_of 867 (by decide +kernel) rfl
theorem fc_wsys : Cond.initialized "java/lang/System" ∈ fc_G := fc_G_of 125 (by decide +kernel) rfl
/-- the receiver lies below the other arguments -/
theorem fc_argsV {st : List Value} {b : Nat} {r : Value} (hb : b ≤ st.length) (h1 : 1 ≤ b) (hq : st[b - 1]? = some r) : (st.take b).reverse = r :: (st.take (b - 1)).reverse ∧ (st.take (b - 1)).reverse.reverse ++ r :: st.drop b = st := by
  have hlt : b - 1 < st.length := by omega
  have hr : st[b - 1] = r := by rw [List.getElem?_eq_getElem hlt] at hq; exact Option.some.inj hq
  have ht : st.take b = st.take (b - 1) ++ [r] := by
    have := List.take_succ (l := st) (i := b - 1)
    rw [hq, show b - 1 + 1 = b by omega] at this
    exact this
  refine ⟨by rw [ht, List.reverse_append]; rfl, ?_⟩
  rw [List.reverse_reverse]
  have := List.take_append_drop b st
  rw [ht, List.append_assoc] at this
  exact this
set_option maxHeartbeats 4000000 in
theorem fc_step_ok {E : fc_E} {y : fc_M} {d : Nat} {cs : Nat × Nat} {sh : fc_Sh} {go : fc_Go} {jmp : Nat → fc_Go} {Q : fc_Q} {x : fc_I} {lv : List (Option Value)} {st : List Value} {mi : fc_Mi} {ml : fc_Ml} {mr : fc_Mr} (hx : fc_okb y x = true)
    (hgo : ∀ lv st mi ml mr, go lv st mi ml mr → fc_T E y d cs sh (x.1 + x.2.2.1) lv st mi ml mr Q) (hj : ∀ t lv st mi ml mr, jmp t lv st mi ml mr → fc_T E y d cs sh t lv st mi ml mr Q) (h : fc_step E y d sh go jmp Q x lv st mi ml mr) : fc_T E y d cs sh x.1 lv st mi ml mr Q := by
  obtain ⟨pc, i, len, a, b, ps, v⟩ := x
  simp only [fc_okb, Bool.and_eq_true, decide_eq_true_eq] at hx
  obtain ⟨hd, hl⟩ := hx
  dsimp only at hd hgo ⊢
  cases i with
  | iconst n =>
    simp only [fc_okl, Bool.and_eq_true, beq_iff_eq, decide_eq_true_eq] at hl
    obtain ⟨rfl, rfl⟩ := hl
    dsimp only [fc_step] at h
    exact fc_r_iconst hd rfl (hgo _ _ _ _ _ h)
  | bipush n =>
    simp only [fc_okl, Bool.and_eq_true, beq_iff_eq, decide_eq_true_eq] at hl
    obtain ⟨rfl, rfl⟩ := hl
    dsimp only [fc_step] at h
    exact fc_r_bipush hd rfl (hgo _ _ _ _ _ h)
  | sipush n =>
    simp only [fc_okl, Bool.and_eq_true, beq_iff_eq, decide_eq_true_eq] at hl
    obtain ⟨rfl, rfl⟩ := hl
    dsimp only [fc_step] at h
    exact fc_r_sipush hd rfl (hgo _ _ _ _ _ h)
  | lconst n =>
    simp only [fc_okl, Bool.and_eq_true, beq_iff_eq, decide_eq_true_eq] at hl
    obtain ⟨rfl, rfl⟩ := hl
    dsimp only [fc_step] at h
    exact fc_r_lconst hd rfl (hgo _ _ _ _ _ h)
  | ldc n =>
    simp only [fc_okl, Bool.and_eq_true, beq_iff_eq] at hl
    obtain ⟨rfl, hl⟩ := hl
    dsimp only [fc_step] at h
    unfold fc_okc at hl
    split at hl
    · simp only [fc_at, Bool.and_eq_true, decide_eq_true_eq] at hl
      exact fc_r_ldc hd (fc_G_of _ hl.1 hl.2) (hgo _ _ _ _ _ h)
    · split at hl
      · next q hq =>
        simp only [Bool.and_eq_true, decide_eq_true_eq] at hl
        obtain ⟨q1, q2, q3⟩ := q
        obtain ⟨rfl, rfl⟩ := hl
        exact fc_r_ldcS hd hq (hgo _ _ _ _ _ h)
      · cases hl
    · cases hl
  | ldc_w n =>
    simp only [fc_okl, Bool.and_eq_true, beq_iff_eq] at hl
    obtain ⟨rfl, hl⟩ := hl
    dsimp only [fc_step] at h
    split at h
    · simp only [fc_okc, fc_at, Bool.and_eq_true, decide_eq_true_eq] at hl
      exact fc_r_ldcw hd (fc_G_of _ hl.1 hl.2) (hgo _ _ _ _ _ h)
    · exact h.elim
  | ldc2_w n =>
    simp only [fc_okl, Bool.and_eq_true, beq_iff_eq] at hl
    obtain ⟨rfl, hl⟩ := hl
    dsimp only [fc_step] at h
    unfold fc_okd at hl
    split at hl
    · simp only [fc_at, Bool.and_eq_true, decide_eq_true_eq] at hl
      exact fc_r_ldc2 hd (fc_G_of _ hl.1 hl.2) (hgo _ _ _ _ _ h)
    · cases hl
  | iload k =>
    have hl : len = 2 := by simpa [fc_okl] using hl
    subst hl
    dsimp only [fc_step] at h
    split at h
    · next hx => exact fc_r_iload hd hx (hgo _ _ _ _ _ h)
    · exact h.elim
  | iload_n k =>
    have hl : len = 1 := by simpa [fc_okl] using hl
    subst hl
    dsimp only [fc_step] at h
    split at h
    · next hx => exact fc_r_iload_n hd rfl hx (hgo _ _ _ _ _ h)
    · exact h.elim
  | lload k =>
    have hl : len = 2 := by simpa [fc_okl] using hl
    subst hl
    dsimp only [fc_step] at h
    split at h
    · next hx => exact fc_r_lload hd hx (hgo _ _ _ _ _ h)
    · exact h.elim
  | lload_n k =>
    have hl : len = 1 := by simpa [fc_okl] using hl
    subst hl
    dsimp only [fc_step] at h
    split at h
    · next hx => exact fc_r_lload_n hd rfl hx (hgo _ _ _ _ _ h)
    · exact h.elim
  | aload k =>
    have hl : len = 2 := by simpa [fc_okl] using hl
    subst hl
    dsimp only [fc_step] at h
    split at h
    · next hx => exact fc_r_aload hd hx (hgo _ _ _ _ _ h)
    · exact h.elim
  | aload_n k =>
    have hl : len = 1 := by simpa [fc_okl] using hl
    subst hl
    dsimp only [fc_step] at h
    split at h
    · next hx => exact fc_r_aload_n hd rfl hx (hgo _ _ _ _ _ h)
    · next hx => exact fc_r_sload_n hd rfl hx (hgo _ _ _ _ _ h)
    · next hx => exact fc_r_bload_n hd rfl hx (hgo _ _ _ _ _ h)
    · exact h.elim
  | istore k =>
    simp only [fc_okl, Bool.and_eq_true, beq_iff_eq, decide_eq_true_eq] at hl
    obtain ⟨rfl, hl⟩ := hl
    dsimp only [fc_step] at h
    split at h
    · exact fc_r_istore hd hl (hgo _ _ _ _ _ h)
    · exact h.elim
  | istore_n k =>
    simp only [fc_okl, Bool.and_eq_true, beq_iff_eq, decide_eq_true_eq] at hl
    obtain ⟨rfl, hl⟩ := hl
    dsimp only [fc_step] at h
    split at h
    · exact fc_r_istore_n hd rfl hl (hgo _ _ _ _ _ h)
    · exact h.elim
  | lstore k =>
    simp only [fc_okl, Bool.and_eq_true, beq_iff_eq, decide_eq_true_eq] at hl
    obtain ⟨rfl, hl⟩ := hl
    dsimp only [fc_step] at h
    split at h
    · exact fc_r_lstore hd hl (hgo _ _ _ _ _ h)
    · exact h.elim
  | lstore_n k =>
    simp only [fc_okl, Bool.and_eq_true, beq_iff_eq, decide_eq_true_eq] at hl
    obtain ⟨rfl, hl⟩ := hl
    dsimp only [fc_step] at h
    split at h
    · exact fc_r_lstore_n hd rfl hl (hgo _ _ _ _ _ h)
    · exact h.elim
  | astore k =>
    simp only [fc_okl, Bool.and_eq_true, beq_iff_eq, decide_eq_true_eq] at hl
    obtain ⟨rfl, hl⟩ := hl
    dsimp only [fc_step] at h
    split at h
    · exact fc_r_astore hd hl (hgo _ _ _ _ _ h)
    · exact h.elim
  | astore_n k =>
    simp only [fc_okl, Bool.and_eq_true, beq_iff_eq, decide_eq_true_eq] at hl
    obtain ⟨rfl, hl⟩ := hl
    dsimp only [fc_step] at h
    split at h
    · exact fc_r_astore_n hd rfl hl (hgo _ _ _ _ _ h)
    · exact h.elim
  | iinc k n =>
    simp only [fc_okl, Bool.and_eq_true, beq_iff_eq, decide_eq_true_eq] at hl
    obtain ⟨rfl, hl⟩ := hl
    dsimp only [fc_step] at h
    split at h
    · next hx => exact fc_r_iinc hd hx rfl hl (hgo _ _ _ _ _ h)
    · exact h.elim
  | iadd =>
    have hl : len = 1 := by simpa [fc_okl] using hl
    subst hl
    dsimp only [fc_step] at h
    split at h
    · exact fc_r_iadd hd (hgo _ _ _ _ _ h)
    · exact h.elim
  | isub =>
    have hl : len = 1 := by simpa [fc_okl] using hl
    subst hl
    dsimp only [fc_step] at h
    split at h
    · exact fc_r_isub hd (hgo _ _ _ _ _ h)
    · exact h.elim
  | imul =>
    have hl : len = 1 := by simpa [fc_okl] using hl
    subst hl
    dsimp only [fc_step] at h
    split at h
    · exact fc_r_imul hd (hgo _ _ _ _ _ h)
    · exact h.elim
  | iand =>
    have hl : len = 1 := by simpa [fc_okl] using hl
    subst hl
    dsimp only [fc_step] at h
    split at h
    · exact fc_r_iand hd (hgo _ _ _ _ _ h)
    · exact h.elim
  | ior =>
    have hl : len = 1 := by simpa [fc_okl] using hl
    subst hl
    dsimp only [fc_step] at h
    split at h
    · exact fc_r_ior hd (hgo _ _ _ _ _ h)
    · exact h.elim
  | ixor =>
    have hl : len = 1 := by simpa [fc_okl] using hl
    subst hl
    dsimp only [fc_step] at h
    split at h
    · exact fc_r_ixor hd (hgo _ _ _ _ _ h)
    · exact h.elim
  | ishl =>
    have hl : len = 1 := by simpa [fc_okl] using hl
    subst hl
    dsimp only [fc_step] at h
    split at h
    · exact fc_r_ishl hd (hgo _ _ _ _ _ h)
    · exact h.elim
  | ishr =>
    have hl : len = 1 := by simpa [fc_okl] using hl
    subst hl
    dsimp only [fc_step] at h
    split at h
    · exact fc_r_ishr hd (hgo _ _ _ _ _ h)
    · exact h.elim
  | iushr =>
    have hl : len = 1 := by simpa [fc_okl] using hl
    subst hl
    dsimp only [fc_step] at h
    split at h
    · exact fc_r_iushr hd (hgo _ _ _ _ _ h)
    · exact h.elim
  | idiv =>
    have hl : len = 1 := by simpa [fc_okl] using hl
    subst hl
    dsimp only [fc_step] at h
    split at h
    · exact fc_r_idiv hd h.1 (hgo _ _ _ _ _ h.2)
    · exact h.elim
  | irem =>
    have hl : len = 1 := by simpa [fc_okl] using hl
    subst hl
    dsimp only [fc_step] at h
    split at h
    · exact fc_r_irem hd h.1 (hgo _ _ _ _ _ h.2)
    · exact h.elim
  | ladd =>
    have hl : len = 1 := by simpa [fc_okl] using hl
    subst hl
    dsimp only [fc_step] at h
    split at h
    · exact fc_r_ladd hd (hgo _ _ _ _ _ h)
    · exact h.elim
  | lsub =>
    have hl : len = 1 := by simpa [fc_okl] using hl
    subst hl
    dsimp only [fc_step] at h
    split at h
    · exact fc_r_lsub hd (hgo _ _ _ _ _ h)
    · exact h.elim
  | lmul =>
    have hl : len = 1 := by simpa [fc_okl] using hl
    subst hl
    dsimp only [fc_step] at h
    split at h
    · exact fc_r_lmul hd (hgo _ _ _ _ _ h)
    · exact h.elim
  | land =>
    have hl : len = 1 := by simpa [fc_okl] using hl
    subst hl
    dsimp only [fc_step] at h
    split at h
    · exact fc_r_land hd (hgo _ _ _ _ _ h)
    · exact h.elim
  | lor =>
    have hl : len = 1 := by simpa [fc_okl] using hl
    subst hl
    dsimp only [fc_step] at h
    split at h
    · exact fc_r_lor hd (hgo _ _ _ _ _ h)
    · exact h.elim
  | ldiv =>
    have hl : len = 1 := by simpa [fc_okl] using hl
    subst hl
    dsimp only [fc_step] at h
    split at h
    · exact fc_r_ldiv hd h.1 (hgo _ _ _ _ _ h.2)
    · exact h.elim
  | lrem =>
    have hl : len = 1 := by simpa [fc_okl] using hl
    subst hl
    dsimp only [fc_step] at h
    split at h
    · exact fc_r_lrem hd h.1 (hgo _ _ _ _ _ h.2)
    · exact h.elim
  | ineg =>
    have hl : len = 1 := by simpa [fc_okl] using hl
    subst hl
    dsimp only [fc_step] at h
    split at h
    · exact fc_r_ineg hd (hgo _ _ _ _ _ h)
    · exact h.elim
  | i2l =>
    have hl : len = 1 := by simpa [fc_okl] using hl
    subst hl
    dsimp only [fc_step] at h
    split at h
    · exact fc_r_i2l hd (hgo _ _ _ _ _ h)
    · exact h.elim
  | l2i =>
    have hl : len = 1 := by simpa [fc_okl] using hl
    subst hl
    dsimp only [fc_step] at h
    split at h
    · exact fc_r_l2i hd (hgo _ _ _ _ _ h)
    · exact h.elim
  | i2b =>
    have hl : len = 1 := by simpa [fc_okl] using hl
    subst hl
    dsimp only [fc_step] at h
    split at h
    · exact fc_r_i2b hd (hgo _ _ _ _ _ h)
    · exact h.elim
  | i2c =>
    have hl : len = 1 := by simpa [fc_okl] using hl
    subst hl
    dsimp only [fc_step] at h
    split at h
    · exact fc_r_i2c hd (hgo _ _ _ _ _ h)
    · exact h.elim
  | lushr =>
    have hl : len = 1 := by simpa [fc_okl] using hl
    subst hl
    dsimp only [fc_step] at h
    split at h
    · exact fc_r_lushr hd (hgo _ _ _ _ _ h)
    · exact h.elim
  | lshl =>
    have hl : len = 1 := by simpa [fc_okl] using hl
    subst hl
    dsimp only [fc_step] at h
    split at h
    · exact fc_r_lshl hd (hgo _ _ _ _ _ h)
    · exact h.elim
  | lshr =>
    have hl : len = 1 := by simpa [fc_okl] using hl
    subst hl
    dsimp only [fc_step] at h
    split at h
    · exact fc_r_lshr hd (hgo _ _ _ _ _ h)
    · exact h.elim
  | lcmp =>
    have hl : len = 1 := by simpa [fc_okl] using hl
    subst hl
    dsimp only [fc_step] at h
    split at h
    · exact fc_r_lcmp hd (hgo _ _ _ _ _ h)
    · exact h.elim
  | dup =>
    have hl : len = 1 := by simpa [fc_okl] using hl
    subst hl
    dsimp only [fc_step] at h
    split at h
    · exact fc_r_dup hd rfl (hgo _ _ _ _ _ h)
    · exact fc_r_dup hd rfl (hgo _ _ _ _ _ h)
    · exact h.elim
  | pop =>
    have hl : len = 1 := by simpa [fc_okl] using hl
    subst hl
    dsimp only [fc_step] at h
    split at h
    · exact fc_r_pop hd rfl (hgo _ _ _ _ _ h)
    · exact fc_r_pop hd rfl (hgo _ _ _ _ _ h)
    · exact h.elim
  | dup2 =>
    have hl : len = 1 := by simpa [fc_okl] using hl
    subst hl
    dsimp only [fc_step] at h
    split at h
    · exact fc_r_dup2 hd rfl rfl (hgo _ _ _ _ _ h)
    · exact h.elim
  | if_icmp c off =>
    simp only [fc_okl, Bool.and_eq_true, beq_iff_eq, fc_tg, decide_eq_true_eq] at hl
    obtain ⟨rfl, hl⟩ := hl
    dsimp only [fc_step] at h
    split at h
    · cases c with
      | eq => exact fc_r_icmp_eq hd hl (fun q => hj _ _ _ _ _ _ (h.1 q)) (fun q => hgo _ _ _ _ _ (h.2 q))
      | ne => exact fc_r_icmp_ne hd hl (fun q => hj _ _ _ _ _ _ (h.2 q)) (fun q => hgo _ _ _ _ _ (h.1 q))
      | lt => exact fc_r_icmp_lt hd hl (fun q => hj _ _ _ _ _ _ (h.1 q)) (fun q => hgo _ _ _ _ _ (h.2 q))
      | ge => exact fc_r_icmp_ge hd hl (fun q => hj _ _ _ _ _ _ (h.1 q)) (fun q => hgo _ _ _ _ _ (h.2 q))
      | gt => exact fc_r_icmp_gt hd hl (fun q => hj _ _ _ _ _ _ (h.1 q)) (fun q => hgo _ _ _ _ _ (h.2 q))
      | le => exact fc_r_icmp_le hd hl (fun q => hj _ _ _ _ _ _ (h.1 q)) (fun q => hgo _ _ _ _ _ (h.2 q))
    · exact h.elim
  | ifCond c off =>
    simp only [fc_okl, Bool.and_eq_true, beq_iff_eq, fc_tg, decide_eq_true_eq] at hl
    obtain ⟨rfl, hl⟩ := hl
    dsimp only [fc_step] at h
    split at h
    · cases c with
      | eq => exact fc_r_if_eq hd hl (fun q => hj _ _ _ _ _ _ (h.1 q)) (fun q => hgo _ _ _ _ _ (h.2 q))
      | ne => exact fc_r_if_ne hd hl (fun q => hj _ _ _ _ _ _ (h.2 q)) (fun q => hgo _ _ _ _ _ (h.1 q))
      | lt => exact fc_r_if_lt hd hl (fun q => hj _ _ _ _ _ _ (h.1 q)) (fun q => hgo _ _ _ _ _ (h.2 q))
      | ge => exact fc_r_if_ge hd hl (fun q => hj _ _ _ _ _ _ (h.1 q)) (fun q => hgo _ _ _ _ _ (h.2 q))
      | gt => exact fc_r_if_gt hd hl (fun q => hj _ _ _ _ _ _ (h.1 q)) (fun q => hgo _ _ _ _ _ (h.2 q))
      | le => exact fc_r_if_le hd hl (fun q => hj _ _ _ _ _ _ (h.1 q)) (fun q => hgo _ _ _ _ _ (h.2 q))
    · exact h.elim
  | goto off =>
    simp only [fc_okl, Bool.and_eq_true, beq_iff_eq, fc_tg, decide_eq_true_eq] at hl
    obtain ⟨rfl, hl⟩ := hl
    dsimp only [fc_step] at h
    exact fc_r_goto hd hl (hj _ _ _ _ _ _ h)
  | getfield n =>
    simp only [fc_okl, Bool.and_eq_true, beq_iff_eq] at hl
    obtain ⟨rfl, hl⟩ := hl
    dsimp only [fc_step] at h
    by_cases ha0 : a < 20
    · rw [if_pos ha0] at hl
      unfold fc_okf at hl
      split at hl
      · next r hr =>
        simp only [Bool.and_eq_true, decide_eq_true_eq, fc_at] at hl
        obtain ⟨hb, ha, hk, hw, hg⟩ := hl
        have hG := fc_G_of _ hw hg
        split at h
        · obtain ⟨hs, h⟩ := h
          split at h
          · next ht => exact fc_r_get hd hr ha hb hG ht hs rfl (hgo _ _ _ _ _ h)
          · next ht => exact fc_r_get hd hr ha hb hG ht hs rfl (hgo _ _ _ _ _ h)
          · next ht =>
            obtain ⟨z, hz, h⟩ := h
            exact fc_r_get hd hr ha hb hG ht hs (v := .ref z) (by simp [fc_fv, hz, va_rf, fc_v]) (hgo _ _ _ _ _ h)
          · next ht => exact fc_r_get hd hr ha hb hG ht hs rfl (hgo _ _ _ _ _ h)
          · exact h.elim
        · obtain ⟨hu, h⟩ := h
          split at h
          · omega
          · omega
          · exact h.elim
        · exact h.elim
      · cases hl
    · rw [if_neg ha0] at hl
      unfold fc_okt at hl
      split at hl
      · simp only [fc_at, Bool.and_eq_true, decide_eq_true_eq] at hl
        split at h
        · next q st =>
          obtain ⟨hs, h⟩ := h
          exact h.elim
        · obtain ⟨hu, h⟩ := h
          exact fc_r_gtv hu hd (fc_G_of _ hl.1 hl.2) (hgo _ _ _ _ _ h)
        · exact h.elim
      · simp only [fc_at, Bool.and_eq_true, decide_eq_true_eq] at hl
        split at h
        · next q st =>
          obtain ⟨hs, h⟩ := h
          exact h.elim
        · obtain ⟨hu, h⟩ := h
          exact fc_r_gtc hu hd (fc_G_of _ hl.1 hl.2) (hgo _ _ _ _ _ h)
        · exact h.elim
      · cases hl
  | getstatic n =>
    simp only [fc_okl, Bool.and_eq_true, beq_iff_eq] at hl
    obtain ⟨rfl, hl⟩ := hl
    dsimp only [fc_step] at h
    unfold fc_okst at hl
    split at hl
    · simp only [fc_at, Bool.and_eq_true, decide_eq_true_eq] at hl
      exact fc_r_gs0 hd (fc_G_of _ hl.1 hl.2) (hgo _ _ _ _ _ h)
    · simp only [fc_at, Bool.and_eq_true, decide_eq_true_eq] at hl
      exact fc_r_gs1 hd (fc_G_of _ hl.1 hl.2) (hgo _ _ _ _ _ h.1) (hgo _ _ _ _ _ h.2)
    · cases hl
  | putfield n =>
    simp only [fc_okl, Bool.and_eq_true, beq_iff_eq] at hl
    obtain ⟨rfl, hl, hf⟩ := hl
    dsimp only [fc_step] at h
    unfold fc_okf at hl
    unfold fc_fin at hf
    split at hl
    · next r hr =>
      rw [hr] at hf
      simp only [Bool.not_eq_true'] at hf
      simp only [Bool.and_eq_true, decide_eq_true_eq, fc_at] at hl
      obtain ⟨hb, ha, hk, hw, hg⟩ := hl
      have hG := fc_G_of _ hw hg
      have key : ∀ t, (fc_ft a)[b]? = some t → ∃ ty, parseFieldDescriptor (r.2.1 b).2.2.1 = some ty ∧ fc_fk (some ty) = some t := by
        intro t ht
        rw [ht] at hk
        cases hp : parseFieldDescriptor (r.2.1 b).2.2.1 with
        | none => rw [hp] at hk; cases hk
        | some ty => rw [hp] at hk; exact ⟨ty, rfl, hk.symm⟩
      split at h
      · obtain ⟨hs, h⟩ := h
        split at h
        · next ht =>
          obtain ⟨ty, h1, h2⟩ := key _ ht
          have : ty = .int := by cases ty <;> first | rfl | cases h2
          subst this
          exact fc_r_puti hd hr ha hb hG ht hs hf h1 (hgo _ _ _ _ _ h)
        · next ht =>
          obtain ⟨ty, h1, h2⟩ := key _ ht
          have : ty = .boolean := by cases ty <;> first | rfl | cases h2
          subst this
          exact fc_r_putz hd hr ha hb hG ht hs hf h1 h.1 (hgo _ _ _ _ _ h.2)
        · exact h.elim
      · obtain ⟨hs, h⟩ := h
        split at h
        · next ht =>
          obtain ⟨ty, h1, h2⟩ := key _ ht
          have : ty = .long := by cases ty <;> first | rfl | cases h2
          subst this
          exact fc_r_putl hd hr ha hb hG ht hs hf h1 (hgo _ _ _ _ _ h)
        · exact h.elim
      · obtain ⟨hs, h⟩ := h
        split at h
        · next ht =>
          obtain ⟨ty, h1, h2⟩ := key _ ht
          exact fc_r_putr hd hr ha hb hG ht hs hf h1 (by cases ty <;> first | rfl | cases h2) (hgo _ _ _ _ _ h)
        · exact h.elim
      · exact h.elim
    · cases hl
  | iaload =>
    have hl : len = 1 := by simpa [fc_okl] using hl
    subst hl
    dsimp only [fc_step] at h
    split at h
    · obtain ⟨n, k, h1, ⟨h2, rfl⟩, h⟩ := h
      exact fc_r_iald hd h1 h2 (hgo _ _ _ _ _ h)
    · obtain ⟨rfl, k, ⟨h2, rfl⟩, h⟩ := h
      exact fc_r_sald hd h2 (hgo _ _ _ _ _ h)
    · exact h.elim
  | baload =>
    have hl : len = 1 := by simpa [fc_okl] using hl
    subst hl
    dsimp only [fc_step] at h
    split at h
    · obtain ⟨n, k, h1, ⟨h2, rfl⟩, h⟩ := h
      exact fc_r_zald hd h1 h2 (hgo _ _ _ _ _ h)
    · obtain ⟨hq, k, ⟨h2, rfl⟩, h⟩ := h
      exact fc_r_tald hq hd h2 (hgo _ _ _ _ _ h)
    · exact h.elim
  | caload =>
    have hl : len = 1 := by simpa [fc_okl] using hl
    subst hl
    dsimp only [fc_step] at h
    split at h
    · obtain ⟨n, k, h1, ⟨h2, rfl⟩, h⟩ := h
      exact fc_r_cald hd h1 h2 (hgo _ _ _ _ _ h)
    · exact h.elim
  | laload =>
    have hl : len = 1 := by simpa [fc_okl] using hl
    subst hl
    dsimp only [fc_step] at h
    split at h
    · obtain ⟨n, k, h1, ⟨h2, rfl⟩, h⟩ := h
      exact fc_r_lald hd h1 h2 (hgo _ _ _ _ _ h)
    · exact h.elim
  | aaload =>
    have hl : len = 1 := by simpa [fc_okl] using hl
    subst hl
    dsimp only [fc_step] at h
    split at h
    · obtain ⟨t, n, k, r, h1, ht, ⟨h2, rfl⟩, h3, h⟩ := h
      rcases ht with rfl | rfl | rfl
      · exact fc_r_aald24 hd h1 h2 h3 (hgo _ _ _ _ _ h)
      · exact fc_r_aald25 hd h1 h2 h3 (hgo _ _ _ _ _ h)
      · exact fc_r_aald26 hd h1 h2 h3 (hgo _ _ _ _ _ h)
    · exact h.elim
  | iastore =>
    have hl : len = 1 := by simpa [fc_okl] using hl
    subst hl
    dsimp only [fc_step] at h
    split at h
    · obtain ⟨n, k, h1, ⟨h2, rfl⟩, h⟩ := h
      exact fc_r_iast hd h1 h2 (hgo _ _ _ _ _ h)
    · exact h.elim
  | castore =>
    have hl : len = 1 := by simpa [fc_okl] using hl
    subst hl
    dsimp only [fc_step] at h
    split at h
    · obtain ⟨n, k, h1, ⟨h2, rfl⟩, h⟩ := h
      exact fc_r_cast hd h1 h2 (hgo _ _ _ _ _ h)
    · exact h.elim
  | bastore =>
    have hl : len = 1 := by simpa [fc_okl] using hl
    subst hl
    dsimp only [fc_step] at h
    split at h
    · obtain ⟨n, k, h1, ⟨h2, rfl⟩, h⟩ := h
      exact fc_r_zast hd h1 h2 (hgo _ _ _ _ _ h)
    · exact h.elim
  | lastore =>
    have hl : len = 1 := by simpa [fc_okl] using hl
    subst hl
    dsimp only [fc_step] at h
    split at h
    · obtain ⟨n, k, h1, ⟨h2, rfl⟩, h⟩ := h
      exact fc_r_last hd h1 h2 (hgo _ _ _ _ _ h)
    · exact h.elim
  | arraylength =>
    have hl : len = 1 := by simpa [fc_okl] using hl
    subst hl
    dsimp only [fc_step] at h
    split at h
    · obtain ⟨t, n, h1, ht, h⟩ := h
      rcases ht with rfl | rfl
      · exact fc_r_alenI hd h1 (hgo _ _ _ _ _ h)
      · exact fc_r_alenL hd h1 (hgo _ _ _ _ _ h)
    · obtain ⟨rfl, h⟩ := h
      exact fc_r_slen hd (hgo _ _ _ _ _ h)
    · obtain ⟨hq, h⟩ := h
      exact fc_r_tlen hq hd (hgo _ _ _ _ _ h)
    · exact h.elim
  | ireturn =>
    have hl : len = 1 := by simpa [fc_okl] using hl
    subst hl
    dsimp only [fc_step] at h
    split at h
    · next x =>
      split at h
      · next hr => exact fc_r_ret (v := some (.int x)) ⟨hd, Or.inl hr⟩ h
      · next hr => exact fc_r_ret (v := some (.int x)) ⟨hd, Or.inr (Or.inl ⟨hr, h.1⟩)⟩ h.2
      · next hr => exact fc_r_ret (v := some (.int x)) ⟨hd, Or.inr (Or.inr (Or.inl ⟨hr, h.1⟩))⟩ h.2
      · next hr => exact fc_r_ret (v := some (.int x)) ⟨hd, Or.inr (Or.inr (Or.inr ⟨hr, h.1⟩))⟩ h.2
      · exact h.elim
    · exact h.elim
  | return_ =>
    have hl : len = 1 := by simpa [fc_okl] using hl
    subst hl
    dsimp only [fc_step] at h
    split at h
    · split at h
      · next hr => exact fc_r_ret (v := none) ⟨hd, hr⟩ h
      · exact h.elim
    · exact h.elim
  | tableswitch df lo hi offs =>
    simp only [fc_okl, Bool.and_eq_true, decide_eq_true_eq, List.all_eq_true] at hl
    dsimp only [fc_step] at h
    split at h
    · next x st =>
      by_cases hout : x.toInt < lo ∨ hi < x.toInt
      · exact fc_r_tableOut hd hout (by rw [Int.toNat_of_nonneg hl.1]) (hj _ _ _ _ _ _ (h.1 hout))
      · have hin : lo ≤ x.toInt ∧ x.toInt ≤ hi := by omega
        obtain ⟨h1, h2⟩ := h.2 hin
        have hk : (x.toInt - lo).toNat < offs.toList.length := by omega
        have ho : offs.toList[(x.toInt - lo).toNat]? = some offs.toList[(x.toInt - lo).toNat] := List.getElem?_eq_getElem hk
        have hm := hl.2 _ (List.mem_of_getElem? ho)
        refine fc_r_tableIn hd (by omega) (by omega) (off := offs.toList[(x.toInt - lo).toNat]) (by rw [← Array.getElem?_toList]; exact ho) (by rw [Int.toNat_of_nonneg hm]) (hj _ _ _ _ _ _ ?_)
        have go : ∀ (os : List Int) (k : Int) (n : Nat) (o : Int), os[n]? = some o → x.toInt = k + n → fc_ts pc x (fun t => jmp t lv st mi ml mr) k os → jmp ((pc : Int) + o).toNat lv st mi ml mr := by
          intro os
          induction os with
          | nil => intro k n o h; simp at h
          | cons o' os ih =>
            intro k n o h hx hs
            cases n with
            | zero =>
              simp at h
              subst h
              exact hs.1 (by rw [show k = x.toInt by omega]; exact (Int32.ofInt_toInt x).symm)
            | succ n => exact ih (k + 1) n o (by simpa using h) (by omega) hs.2
        exact go _ lo _ _ ho (by omega) h1
    · exact h.elim
  | lookupswitch df qs =>
    simp only [fc_okl, Bool.and_eq_true, decide_eq_true_eq] at hl
    obtain ⟨hs, hdn, hl⟩ := hl
    rw [List.all_eq_true] at hl
    dsimp only [fc_step] at h
    split at h
    · next x st =>
      have go : ∀ (os : List (Int × Int)), (∀ o ∈ os, 0 ≤ (pc : Int) + o.2) → fc_lsw pc x (fun t => jmp t lv st mi ml mr) df os → ∃ off : Int, Op.lookupswitch.offset os df x.toInt = off ∧ 0 ≤ (pc : Int) + off ∧ jmp ((pc : Int) + off).toNat lv st mi ml mr := by
        intro os
        induction os with
        | nil => intro _ h; exact ⟨df, rfl, hdn, h⟩
        | cons o os ih =>
          intro hm h
          obtain ⟨k, off⟩ := o
          by_cases hk : x.toInt = k
          · exact ⟨off, by rw [Op.lookupswitch.offset_cons, if_pos hk.symm], hm (k, off) List.mem_cons_self, h.1 hk⟩
          · obtain ⟨off2, g1, g2, g3⟩ := ih (fun o ho => hm o (List.mem_cons_of_mem _ ho)) (h.2 hk)
            exact ⟨off2, by rw [Op.lookupswitch.offset_cons, if_neg (fun q => hk q.symm)]; exact g1, g2, g3⟩
      obtain ⟨off, g1, g2, g3⟩ := go _ (fun o ho => by simpa using hl o ho) h
      exact fc_r_lookup hd hs g1 (by rw [Int.toNat_of_nonneg g2]) (hj _ _ _ _ _ _ g3)
    · exact h.elim
  | invokevirtual n =>
    simp only [fc_okl, Bool.and_eq_true, beq_iff_eq] at hl
    obtain ⟨rfl, hl⟩ := hl
    dsimp only [fc_step] at h
    unfold fc_okv at hl
    split at hl
    · next t ht =>
      rw [ht] at h
      simp only [Bool.and_eq_true, beq_iff_eq, fc_at, decide_eq_true_eq] at hl
      obtain ⟨⟨hw, hg⟩, hk, hn, hv⟩ := hl
      have hG := fc_G_of _ hw hg
      obtain ⟨hm, hm0, -⟩ := fc_mtab_ok t (List.mem_of_getElem? ht)
      obtain ⟨hi, hse⟩ := hm0 hk
      split at h
      · next _ _ _ t' d0 heq =>
        cases heq
        split at h
        · next _ _ ci q hq =>
          obtain ⟨hs, h⟩ := h
          dsimp only at hv
          split at hv
          · next r hr =>
            simp only [Bool.and_eq_true, decide_eq_true_eq] at hv
            unfold fc_call at h
            split at h
            · next hb =>
              simp only [Bool.and_eq_true, Nat.ble_eq] at hb
              obtain ⟨Q', hR', hk'⟩ := h
              obtain ⟨e1, e2⟩ := fc_argsV hb.2 (by omega) hq
              rw [e1] at hR'
              have := fc_r_callV (lv := lv) (Q := Q) (cs := cs) hd hR' hm (by rw [List.length_reverse, List.length_take]; omega) hi hse hG hr hv.1 hv.2 hs hb.1 (fun v mi' ml' mr' hq => hgo _ _ _ _ _ (hk' v mi' ml' mr' hq))
              rwa [e2] at this
            · exact h.elim
          · cases hv
        · next _ _ u hq =>
          obtain ⟨hs, h⟩ := h
          simp only [decide_eq_true_eq] at hv
          unfold fc_call at h
          split at h
          · next hb =>
            simp only [Bool.and_eq_true, Nat.ble_eq] at hb
            obtain ⟨Q', hR', hk'⟩ := h
            obtain ⟨e1, e2⟩ := fc_argsV hb.2 (by omega) hq
            rw [e1] at hR'
            have := fc_r_callT (lv := lv) (Q := Q) (cs := cs) hd hR' hm (by rw [List.length_reverse, List.length_take]; omega) hi hse hG hv hs hb.1 (fun v mi' ml' mr' hq => hgo _ _ _ _ _ (hk' v mi' ml' mr' hq))
            rwa [e2] at this
          · exact h.elim
        · exact h.elim
      · exact h.elim
    · cases hl
  | invokestatic n =>
    simp only [fc_okl, Bool.and_eq_true, beq_iff_eq] at hl
    obtain ⟨rfl, hl⟩ := hl
    dsimp only [fc_step] at h
    unfold fc_oks at hl
    split at hl
    · split at hl
      · next t ht =>
        have h : fc_sS E d sh a b go lv st mi ml mr := h
        unfold fc_sS at h
        rw [ht] at h
        simp only [Bool.and_eq_true, beq_iff_eq, fc_at, decide_eq_true_eq] at hl
        obtain ⟨⟨hw, hg⟩, hk, hn⟩ := hl
        obtain ⟨hm, -, hm1⟩ := fc_mtab_ok t (List.mem_of_getElem? ht)
        cases d with
        | zero => exact h.elim
        | succ d0 =>
          have h : fc_call E t.1 d0 sh b go lv st mi ml mr := h
          unfold fc_call at h
          split at h
          · next hb =>
            simp only [Bool.and_eq_true, Nat.ble_eq] at hb
            obtain ⟨Q', hR', hk'⟩ := h
            have := fc_r_callS (lv := lv) (Q := Q) (cs := cs) hd hR' hm (by rw [List.length_reverse, List.length_take]; omega) (hm1 hk) (fc_G_of _ hw hg) hb.1 (fun v mi' ml' mr' hq => hgo _ _ _ _ _ (hk' v mi' ml' mr' hq))
            rwa [List.reverse_reverse, List.take_append_drop] at this
          · exact h.elim
      · cases hl
    · split at hl
      · next t ht =>
        have h : fc_sS E d sh a b go lv st mi ml mr := h
        unfold fc_sS at h
        rw [ht] at h
        simp only [Bool.and_eq_true, beq_iff_eq, decide_eq_true_eq] at hl
        obtain ⟨hw, hk, hn⟩ := hl
        obtain ⟨hm, -, hm1⟩ := fc_mtab_ok t (List.mem_of_getElem? ht)
        cases d with
        | zero => exact h.elim
        | succ d0 =>
          have h : fc_call E t.1 d0 sh b go lv st mi ml mr := h
          unfold fc_call at h
          split at h
          · next hb =>
            simp only [Bool.and_eq_true, Nat.ble_eq] at hb
            obtain ⟨Q', hR', hk'⟩ := h
            have := fc_r_callN (lv := lv) (Q := Q) (cs := cs) hd hR' hm (by rw [List.length_reverse, List.length_take]; omega) (hm1 hk) hw hb.1 (fun v mi' ml' mr' hq => hgo _ _ _ _ _ (hk' v mi' ml' mr' hq))
            rwa [List.reverse_reverse, List.take_append_drop] at this
          · exact h.elim
      · cases hl
    · simp only [fc_at, Bool.and_eq_true, decide_eq_true_eq] at hl
      have h : fc_sX go lv st mi ml mr := h
      unfold fc_sX at h
      split at h
      · split at h
        · next hb => exact fc_r_max hd (fc_G_of _ hl.1 hl.2) fc_wmax1 fc_wmath fc_wmax2 (by simpa using hb) (hgo _ _ _ _ _ h)
        · exact h.elim
      · exact h.elim
    · simp only [fc_at, Bool.and_eq_true, decide_eq_true_eq] at hl
      have h : fc_sN go lv st mi ml mr := h
      unfold fc_sN at h
      split at h
      · split at h
        · next hb => exact fc_r_min hd (fc_G_of _ hl.1 hl.2) fc_wmin1 fc_wmath fc_wmin2 (by simpa using hb) (hgo _ _ _ _ _ h)
        · exact h.elim
      · exact h.elim
    · simp only [fc_at, Bool.and_eq_true, decide_eq_true_eq] at hl
      have h : fc_sC sh go lv st mi ml mr := h
      unfold fc_sC at h
      split at h
      · split at h
        · next hb =>
          obtain ⟨n0, n1, h0, h1, ⟨h2, h3, h4, h5, h6⟩, h⟩ := h
          exact fc_r_copy hd (fc_G_of _ hl.1 hl.2) fc_wcop1 fc_wcop2 fc_wsys h0 h1 h2 h3 h4 h5 h6 (by simpa using hb) (hgo _ _ _ _ _ h)
        · exact h.elim
      · exact h.elim
    · exact (show False from h).elim
    · cases hl
  | _ => exact h.elim
def fc_find : List fc_I → Nat → List fc_I
  | [], _ => []
  | x :: L, t => match Nat.beq x.1 t with
    | true => x :: L
    | false => fc_find L t
/-- on to the next instruction, or to a place where the walk stops -/
def fc_go (stop : Nat → Bool) (T : Nat → fc_Go) (wp : List fc_I → fc_Go) : List fc_I → fc_Go
  | [] => fun _ _ _ _ _ => False
  | x :: L => fun lv st mi ml mr => match stop x.1 with
    | true => T x.1 lv st mi ml mr
    | false => wp (x :: L) lv st mi ml mr
def fc_wp (E : fc_E) (y : fc_M) (d : Nat) (cs : Nat × Nat) (sh : fc_Sh) (C : List fc_I) (stop : Nat → Bool) (Q : fc_Q) : Nat → List fc_I → fc_Go
  | 0, _ => fun _ _ _ _ _ => False
  | _ + 1, [] => fun _ _ _ _ _ => False
  | n + 1, x :: L => fc_step E y d sh (fc_go stop (fun pc lv st mi ml mr => fc_T E y d cs sh pc lv st mi ml mr Q) (fc_wp E y d cs sh C stop Q n) L) (fun t => fc_go stop (fun pc lv st mi ml mr => fc_T E y d cs sh pc lv st mi ml mr Q) (fc_wp E y d cs sh C stop Q n) (fc_find C t)) Q x
def fc_okL (y : fc_M) (L : List fc_I) : Prop := fc_chain L = true ∧ ∀ x ∈ L, fc_okb y x = true
theorem fc_okL.tail {y : fc_M} {x : fc_I} {L : List fc_I} (h : fc_okL y (x :: L)) : fc_okL y L := by
  refine ⟨?_, fun z hz => h.2 z (List.mem_cons_of_mem _ hz)⟩
  cases L with
  | nil => rfl
  | cons z L =>
    have := h.1
    simp only [fc_chain, Bool.and_eq_true] at this
    exact this.2
theorem fc_okL.find {y : fc_M} : ∀ {L : List fc_I} (t : Nat), fc_okL y L → fc_okL y (fc_find L t)
  | [], t, h => h
  | x :: L, t, h => by
    unfold fc_find
    split
    · exact h
    · exact fc_okL.find t h.tail
theorem fc_find_pc : ∀ {L : List fc_I} {t : Nat} {x : fc_I} {L' : List fc_I}, fc_find L t = x :: L' → x.1 = t
  | [], t, x, L', h => by cases h
  | z :: L, t, x, L', h => by
    unfold fc_find at h
    split at h
    · next hb => cases h; exact Nat.eq_of_beq_eq_true hb
    · exact fc_find_pc h
theorem fc_wp_ok {E : fc_E} {y : fc_M} {d : Nat} {cs : Nat × Nat} {sh : fc_Sh} {C : List fc_I} {stop : Nat → Bool} {Q : fc_Q} (hC : fc_okL y C) : ∀ (n : Nat) (x : fc_I) (L : List fc_I) (lv : List (Option Value)) (st : List Value) (mi : fc_Mi) (ml : fc_Ml) (mr : fc_Mr), fc_okL y (x :: L) → fc_wp E y d cs sh C stop Q n (x :: L) lv st mi ml mr → fc_T E y d cs sh x.1 lv st mi ml mr Q := by
  intro n
  induction n with
  | zero => intro x L lv st mi ml mr _ h; exact h.elim
  | succ n ih =>
    intro x L lv st mi ml mr hL h
    have key : ∀ (L' : List fc_I) (t : Nat), fc_okL y L' → (∀ z L'', L' = z :: L'' → z.1 = t) → ∀ lv st mi ml mr, fc_go stop (fun pc lv st mi ml mr => fc_T E y d cs sh pc lv st mi ml mr Q) (fc_wp E y d cs sh C stop Q n) L' lv st mi ml mr → fc_T E y d cs sh t lv st mi ml mr Q := by
      intro L' t hL' ht lv st mi ml mr h
      cases L' with
      | nil => exact h.elim
      | cons z L'' =>
        have e := ht z L'' rfl
        subst e
        simp only [fc_go] at h
        split at h
        · exact h
        · exact ih z L'' lv st mi ml mr hL' h
    refine fc_step_ok (hL.2 x List.mem_cons_self) (key L _ hL.tail ?_) (fun t => key _ t (hC.find t) (fun z L'' hz => fc_find_pc hz)) h
    intro z L'' hz
    subst hz
    have := hL.1
    simp only [fc_chain, Bool.and_eq_true, decide_eq_true_eq] at this
    exact this.1.symm
/-- THE WALK: from a place of the code, through it, to its ends and to where it stops -/
theorem fc_run {E : fc_E} {y : fc_M} {d : Nat} {cs : Nat × Nat} {sh : fc_Sh} {C : List fc_I} {Q : fc_Q} {pc : Nat} {lv : List (Option Value)} {st : List Value} {mi : fc_Mi} {ml : fc_Ml} {mr : fc_Mr} (hC : fc_code y C = true) (stop : Nat → Bool) (n : Nat)
    (h : fc_wp E y d cs sh C stop Q n (fc_find C pc) lv st mi ml mr) : fc_T E y d cs sh pc lv st mi ml mr Q := by
  have hL : fc_okL y C := by
    simp only [fc_code, Bool.and_eq_true, List.all_eq_true] at hC
    exact hC
  cases hf : fc_find C pc with
  | nil =>
    rw [hf] at h
    cases n <;> exact h.elim
  | cons x L =>
    rw [hf] at h
    have e := fc_find_pc hf
    subst e
    exact fc_wp_ok hL n x L lv st mi ml mr (by rw [← hf]; exact hL.find _) h
