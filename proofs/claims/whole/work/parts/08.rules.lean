/-! ===== one instruction each ===== -/
def fc_as (E : fc_E) (lv : List (Option Value)) : List (Nat × Value) := (List.range lv.length).filterMap (fun j => (lv[j]?.join).map (fun v => (j, fc_v E v)))
theorem fc_as_mem {E : fc_E} {lv : List (Option Value)} {q : Nat × Value} : q ∈ fc_as E lv ↔ ∃ v, lv[q.1]? = some (some v) ∧ q.2 = fc_v E v := by
  unfold fc_as
  rw [List.mem_filterMap]
  constructor
  · rintro ⟨j, hj, h⟩
    rw [Option.map_eq_some_iff] at h
    obtain ⟨v, h1, rfl⟩ := h
    refine ⟨v, ?_, rfl⟩
    cases hl : lv[j]? with
    | none => rw [hl] at h1; simp at h1
    | some o => rw [hl] at h1; simp at h1; subst h1; rfl
  · rintro ⟨v, h1, h2⟩
    refine ⟨q.1, List.mem_range.mpr (List.getElem?_eq_some_iff.mp h1).1, ?_⟩
    rw [h1]
    show some (q.1, fc_v E v) = some q
    rw [← h2]
theorem fc_lv.has {E : fc_E} {ls : Array Slot} {nL : Nat} {lv : List (Option Value)} (h : fc_lv E ls nL lv) : lv_has ls nL (fc_as E lv) :=
  ⟨h.1, h.2.1, fun q hq => by
    obtain ⟨v, h1, h2⟩ := fc_as_mem.mp hq
    rw [h2]
    exact h.2.2 q.1 v h1⟩
/-- a long whose second half is written is gone -/
def fc_kl (lv : List (Option Value)) (i : Nat) : List (Option Value) := match i with
  | 0 => lv
  | j + 1 => match lv[j]? with
    | some (some w) => if w.category = 2 then lv.set j none else lv
    | _ => lv
theorem fc_kl_get {lv : List (Option Value)} {i j : Nat} {v : Value} (h : (fc_kl lv i)[j]? = some (some v)) : lv[j]? = some (some v) ∧ ¬ (j + 1 = i ∧ v.category = 2) := by
  unfold fc_kl at h
  cases i with
  | zero => exact ⟨h, fun q => by omega⟩
  | succ k =>
    dsimp only at h
    have ho : lv[k]? = none ∨ lv[k]? = some none → lv[j]? = some (some v) → ¬ (j + 1 = k + 1 ∧ v.category = 2) := by
      intro hk hj q
      have e : j = k := by omega
      rw [e] at hj
      rcases hk with hk | hk
      · rw [hk] at hj; cases hj
      · rw [hk] at hj; cases hj
    cases hk : lv[k]? with
    | none =>
      rw [hk] at h
      exact ⟨h, ho (Or.inl hk) h⟩
    | some o =>
      rw [hk] at h
      cases o with
      | none => exact ⟨h, ho (Or.inr hk) h⟩
      | some w =>
        dsimp only at h
        by_cases hc : w.category = 2
        · rw [if_pos hc] at h
          by_cases hjk : j = k
          · subst hjk
            rw [List.getElem?_set_self (List.getElem?_eq_some_iff.mp hk).1] at h
            cases h
          · rw [List.getElem?_set_ne (Ne.symm hjk)] at h
            exact ⟨h, fun q => by omega⟩
        · rw [if_neg hc] at h
          refine ⟨h, fun q => ?_⟩
          have : j = k := by omega
          subst this
          rw [hk] at h
          cases h
          exact hc q.2
def fc_s1 (lv : List (Option Value)) (i : Nat) (v : Value) : List (Option Value) := (fc_kl lv i).set i (some v)
def fc_s2 (lv : List (Option Value)) (i : Nat) (v : Value) : List (Option Value) := ((fc_kl lv i).set i (some v)).set (i + 1) none
theorem fc_lv.s1 {E : fc_E} {ls' : Array Slot} {nL i : Nat} {lv : List (Option Value)} {v : Value} (h : lv_has ls' nL ((i, fc_v E v) :: (fc_as E lv).filter (fun q => !(q.1 == i) && !(q.1 + 1 == i && q.2.category == 2)))) : fc_lv E ls' nL (fc_s1 lv i v) := by
  refine ⟨h.1, h.2.1, fun j w hj => ?_⟩
  unfold fc_s1 at hj
  by_cases hji : j = i
  · subst hji
    by_cases hlt : j < (fc_kl lv j).length
    · rw [List.getElem?_set_self hlt] at hj
      cases hj
      exact h.2.2 _ List.mem_cons_self
    · rw [List.getElem?_eq_none (by simpa using Nat.not_lt.mp hlt)] at hj
      cases hj
  · rw [List.getElem?_set_ne (Ne.symm hji)] at hj
    obtain ⟨h1, h2⟩ := fc_kl_get hj
    refine h.2.2 (j, fc_v E w) (List.mem_cons_of_mem _ (List.mem_filter.mpr ⟨fc_as_mem.mpr ⟨w, h1, rfl⟩, ?_⟩))
    simp only [fc_v_cat, Bool.and_eq_true, Bool.not_eq_true', beq_eq_false_iff_ne, Bool.and_eq_false_imp, beq_iff_eq]
    exact ⟨hji, fun q => by simpa using fun z => h2 ⟨q, z⟩⟩
theorem fc_lv.s2 {E : fc_E} {ls' : Array Slot} {nL i : Nat} {lv : List (Option Value)} {v : Value} (h : lv_has ls' nL ((i, fc_v E v) :: (fc_as E lv).filter (fun q => !(q.1 == i) && (!(q.1 == i + 1) && !(q.1 + 1 == i && q.2.category == 2))))) : fc_lv E ls' nL (fc_s2 lv i v) := by
  refine ⟨h.1, h.2.1, fun j w hj => ?_⟩
  unfold fc_s2 at hj
  by_cases hj1 : j = i + 1
  · subst hj1
    by_cases hlt : i + 1 < ((fc_kl lv i).set i (some v)).length
    · rw [List.getElem?_set_self hlt] at hj
      cases hj
    · rw [List.getElem?_eq_none (by simpa using Nat.not_lt.mp hlt)] at hj
      cases hj
  · rw [List.getElem?_set_ne (Ne.symm hj1)] at hj
    by_cases hji : j = i
    · subst hji
      by_cases hlt : j < (fc_kl lv j).length
      · rw [List.getElem?_set_self hlt] at hj
        cases hj
        exact h.2.2 _ List.mem_cons_self
      · rw [List.getElem?_eq_none (by simpa using Nat.not_lt.mp hlt)] at hj
        cases hj
    · rw [List.getElem?_set_ne (Ne.symm hji)] at hj
      obtain ⟨h1, h2⟩ := fc_kl_get hj
      refine h.2.2 (j, fc_v E w) (List.mem_cons_of_mem _ (List.mem_filter.mpr ⟨fc_as_mem.mpr ⟨w, h1, rfl⟩, ?_⟩))
      simp only [fc_v_cat, Bool.and_eq_true, Bool.not_eq_true', beq_eq_false_iff_ne, Bool.and_eq_false_imp, beq_iff_eq]
      exact ⟨hji, hj1, fun q => by simpa using fun z => h2 ⟨q, z⟩⟩
section R1
variable {E : fc_E} {y : fc_M} {d : Nat} {cs : Nat × Nat} {sh : fc_Sh} {pc : Nat} {lv : List (Option Value)} {st : List Value} {mi : fc_Mi} {ml : fc_Ml} {mr : fc_Mr} {Q : fc_Q}
theorem fc_r_iconst {n : Int} {v : Int32} (hd : decode y.2.1 pc = .ok (.iconst n, 1)) (hv : Int32.ofInt n = v) (k : fc_T E y d cs sh (pc + 1) lv (.int v :: st) mi ml mr Q) : fc_T E y d cs sh pc lv st mi ml mr Q := fun p e s m args below meth c R Qf hC hR hret H locs ls hP hS hl => lv_iconst hC.1 hC.2.1 hd hv (k p e s m args below meth c R Qf hC hR hret H locs ls hP hS hl)
theorem fc_r_bipush {n : Int} {v : Int32} (hd : decode y.2.1 pc = .ok (.bipush n, 2)) (hv : (Int8.ofInt n).toInt32 = v) (k : fc_T E y d cs sh (pc + 2) lv (.int v :: st) mi ml mr Q) : fc_T E y d cs sh pc lv st mi ml mr Q := fun p e s m args below meth c R Qf hC hR hret H locs ls hP hS hl => lv_bipush hC.1 hC.2.1 hd hv (k p e s m args below meth c R Qf hC hR hret H locs ls hP hS hl)
theorem fc_r_sipush {n : Int} {v : Int32} (hd : decode y.2.1 pc = .ok (.sipush n, 3)) (hv : (Int16.ofInt n).toInt32 = v) (k : fc_T E y d cs sh (pc + 3) lv (.int v :: st) mi ml mr Q) : fc_T E y d cs sh pc lv st mi ml mr Q := fun p e s m args below meth c R Qf hC hR hret H locs ls hP hS hl => lv_sipush hC.1 hC.2.1 hd hv (k p e s m args below meth c R Qf hC hR hret H locs ls hP hS hl)
theorem fc_r_lconst {n : Fin 2} {v : Int64} (hd : decode y.2.1 pc = .ok (.lconst n, 1)) (hv : Int64.ofNat (n : Nat) = v) (k : fc_T E y d cs sh (pc + 1) lv (.long v :: st) mi ml mr Q) : fc_T E y d cs sh pc lv st mi ml mr Q := fun p e s m args below meth c R Qf hC hR hret H locs ls hP hS hl => lv_lconst hC.1 hC.2.1 hd hv (k p e s m args below meth c R Qf hC hR hret H locs ls hP hS hl)
theorem fc_r_iload_n {k0 : Fin 4} {i : Nat} {x : Int32} (hd : decode y.2.1 pc = .ok (.iload_n k0, 1)) (hi : (k0 : Nat) = i) (hx : lv[i]? = some (some (.int x))) (k : fc_T E y d cs sh (pc + 1) lv (.int x :: st) mi ml mr Q) : fc_T E y d cs sh pc lv st mi ml mr Q := fun p e s m args below meth c R Qf hC hR hret H locs ls hP hS hl => lv_iload_n hC.1 hC.2.1 hd hi (hl.2.2 i _ hx) (k p e s m args below meth c R Qf hC hR hret H locs ls hP hS hl)
theorem fc_r_iload {i : Nat} {x : Int32} (hd : decode y.2.1 pc = .ok (.iload i, 2)) (hx : lv[i]? = some (some (.int x))) (k : fc_T E y d cs sh (pc + 2) lv (.int x :: st) mi ml mr Q) : fc_T E y d cs sh pc lv st mi ml mr Q := fun p e s m args below meth c R Qf hC hR hret H locs ls hP hS hl => lv_iload hC.1 hC.2.1 hd (hl.2.2 i _ hx) (k p e s m args below meth c R Qf hC hR hret H locs ls hP hS hl)
theorem fc_r_lload_n {k0 : Fin 4} {i : Nat} {x : Int64} (hd : decode y.2.1 pc = .ok (.lload_n k0, 1)) (hi : (k0 : Nat) = i) (hx : lv[i]? = some (some (.long x))) (k : fc_T E y d cs sh (pc + 1) lv (.long x :: st) mi ml mr Q) : fc_T E y d cs sh pc lv st mi ml mr Q := fun p e s m args below meth c R Qf hC hR hret H locs ls hP hS hl => lv_lload_n hC.1 hC.2.1 hd hi (hl.2.2 i _ hx) (k p e s m args below meth c R Qf hC hR hret H locs ls hP hS hl)
theorem fc_r_lload {i : Nat} {x : Int64} (hd : decode y.2.1 pc = .ok (.lload i, 2)) (hx : lv[i]? = some (some (.long x))) (k : fc_T E y d cs sh (pc + 2) lv (.long x :: st) mi ml mr Q) : fc_T E y d cs sh pc lv st mi ml mr Q := fun p e s m args below meth c R Qf hC hR hret H locs ls hP hS hl => lv_lload hC.1 hC.2.1 hd (hl.2.2 i _ hx) (k p e s m args below meth c R Qf hC hR hret H locs ls hP hS hl)
theorem fc_r_aload_n {k0 : Fin 4} {i : Nat} {x : Nat} (hd : decode y.2.1 pc = .ok (.aload_n k0, 1)) (hi : (k0 : Nat) = i) (hx : lv[i]? = some (some (.ref x))) (k : fc_T E y d cs sh (pc + 1) lv (.ref x :: st) mi ml mr Q) : fc_T E y d cs sh pc lv st mi ml mr Q := fun p e s m args below meth c R Qf hC hR hret H locs ls hP hS hl => lv_aload_n hC.1 hC.2.1 hd hi (hl.2.2 i _ hx) (k p e s m args below meth c R Qf hC hR hret H locs ls hP hS hl)
theorem fc_r_aload {i : Nat} {x : Nat} (hd : decode y.2.1 pc = .ok (.aload i, 2)) (hx : lv[i]? = some (some (.ref x))) (k : fc_T E y d cs sh (pc + 2) lv (.ref x :: st) mi ml mr Q) : fc_T E y d cs sh pc lv st mi ml mr Q := fun p e s m args below meth c R Qf hC hR hret H locs ls hP hS hl => lv_aload hC.1 hC.2.1 hd (hl.2.2 i _ hx) (k p e s m args below meth c R Qf hC hR hret H locs ls hP hS hl)
theorem fc_r_sload_n {k0 : Fin 4} {i : Nat} {x : UInt32} (hd : decode y.2.1 pc = .ok (.aload_n k0, 1)) (hi : (k0 : Nat) = i) (hx : lv[i]? = some (some (.float x))) (k : fc_T E y d cs sh (pc + 1) lv (.float x :: st) mi ml mr Q) : fc_T E y d cs sh pc lv st mi ml mr Q := fun p e s m args below meth c R Qf hC hR hret H locs ls hP hS hl => lv_aload_n hC.1 hC.2.1 hd hi (hl.2.2 i _ hx) (k p e s m args below meth c R Qf hC hR hret H locs ls hP hS hl)
theorem fc_r_bload_n {k0 : Fin 4} {i : Nat} {x : Nat} (hd : decode y.2.1 pc = .ok (.aload_n k0, 1)) (hi : (k0 : Nat) = i) (hx : lv[i]? = some (some (.retAddr x))) (k : fc_T E y d cs sh (pc + 1) lv (.retAddr x :: st) mi ml mr Q) : fc_T E y d cs sh pc lv st mi ml mr Q := fun p e s m args below meth c R Qf hC hR hret H locs ls hP hS hl => lv_aload_n hC.1 hC.2.1 hd hi (hl.2.2 i _ hx) (k p e s m args below meth c R Qf hC hR hret H locs ls hP hS hl)
theorem fc_r_istore_n {k0 : Fin 4} {i : Nat} {x : Int32} (hd : decode y.2.1 pc = .ok (.istore_n k0, 1)) (hi : (k0 : Nat) = i) (hn : i < y.2.2.1) (k : fc_T E y d cs sh (pc + 1) (fc_s1 lv i (.int x)) st mi ml mr Q) : fc_T E y d cs sh pc lv (.int x :: st) mi ml mr Q := fun p e s m args below meth c R Qf hC hR hret H locs ls hP hS hl => lv_istore_n hC.1 hC.2.1 hd hi hl.has hn rfl (fun ls' hl' => k p e s m args below meth c R Qf hC hR hret H locs ls' hP hS (fc_lv.s1 (v := .int x) hl'))
theorem fc_r_istore {i : Nat} {x : Int32} (hd : decode y.2.1 pc = .ok (.istore i, 2)) (hn : i < y.2.2.1) (k : fc_T E y d cs sh (pc + 2) (fc_s1 lv i (.int x)) st mi ml mr Q) : fc_T E y d cs sh pc lv (.int x :: st) mi ml mr Q := fun p e s m args below meth c R Qf hC hR hret H locs ls hP hS hl => lv_istore hC.1 hC.2.1 hd hl.has hn rfl (fun ls' hl' => k p e s m args below meth c R Qf hC hR hret H locs ls' hP hS (fc_lv.s1 (v := .int x) hl'))
theorem fc_r_lstore_n {k0 : Fin 4} {i : Nat} {x : Int64} (hd : decode y.2.1 pc = .ok (.lstore_n k0, 1)) (hi : (k0 : Nat) = i) (hn : i + 1 < y.2.2.1) (k : fc_T E y d cs sh (pc + 1) (fc_s2 lv i (.long x)) st mi ml mr Q) : fc_T E y d cs sh pc lv (.long x :: st) mi ml mr Q := fun p e s m args below meth c R Qf hC hR hret H locs ls hP hS hl => lv_lstore_n hC.1 hC.2.1 hd hi hl.has hn rfl (fun ls' hl' => k p e s m args below meth c R Qf hC hR hret H locs ls' hP hS (fc_lv.s2 (v := .long x) hl'))
theorem fc_r_lstore {i : Nat} {x : Int64} (hd : decode y.2.1 pc = .ok (.lstore i, 2)) (hn : i + 1 < y.2.2.1) (k : fc_T E y d cs sh (pc + 2) (fc_s2 lv i (.long x)) st mi ml mr Q) : fc_T E y d cs sh pc lv (.long x :: st) mi ml mr Q := fun p e s m args below meth c R Qf hC hR hret H locs ls hP hS hl => lv_lstore hC.1 hC.2.1 hd hl.has hn rfl (fun ls' hl' => k p e s m args below meth c R Qf hC hR hret H locs ls' hP hS (fc_lv.s2 (v := .long x) hl'))
theorem fc_r_astore_n {k0 : Fin 4} {i : Nat} {x : Nat} (hd : decode y.2.1 pc = .ok (.astore_n k0, 1)) (hi : (k0 : Nat) = i) (hn : i < y.2.2.1) (k : fc_T E y d cs sh (pc + 1) (fc_s1 lv i (.ref x)) st mi ml mr Q) : fc_T E y d cs sh pc lv (.ref x :: st) mi ml mr Q := fun p e s m args below meth c R Qf hC hR hret H locs ls hP hS hl => lv_astore_n hC.1 hC.2.1 hd hi hl.has hn rfl (fun ls' hl' => k p e s m args below meth c R Qf hC hR hret H locs ls' hP hS (fc_lv.s1 (v := .ref x) hl'))
theorem fc_r_astore {i : Nat} {x : Nat} (hd : decode y.2.1 pc = .ok (.astore i, 2)) (hn : i < y.2.2.1) (k : fc_T E y d cs sh (pc + 2) (fc_s1 lv i (.ref x)) st mi ml mr Q) : fc_T E y d cs sh pc lv (.ref x :: st) mi ml mr Q := fun p e s m args below meth c R Qf hC hR hret H locs ls hP hS hl => lv_astore hC.1 hC.2.1 hd hl.has hn rfl (fun ls' hl' => k p e s m args below meth c R Qf hC hR hret H locs ls' hP hS (fc_lv.s1 (v := .ref x) hl'))
theorem fc_r_iinc {i : Nat} {n : Int} {x v : Int32} (hd : decode y.2.1 pc = .ok (.iinc i n, 3)) (hx : lv[i]? = some (some (.int x))) (hv : x + Int32.ofInt n = v) (hn : i < y.2.2.1) (k : fc_T E y d cs sh (pc + 3) (fc_s1 lv i (.int v)) st mi ml mr Q) : fc_T E y d cs sh pc lv st mi ml mr Q := by
  intro p e s m args below meth c R Qf hC hR hret H locs ls hP hS hl
  obtain ⟨kk, hkk⟩ := List.getElem?_of_mem (fc_as_mem (E := E) (q := (i, .int x)) |>.mpr ⟨.int x, hx, rfl⟩)
  exact lv_iinc hC.1 hC.2.1 hd hl.has hkk hv hn rfl (fun ls' hl' => k p e s m args below meth c R Qf hC hR hret H locs ls' hP hS (fc_lv.s1 (v := .int v) hl'))
theorem fc_r_iadd {x z : Int32} (hd : decode y.2.1 pc = .ok (.iadd, 1))  (k : fc_T E y d cs sh (pc + 1) lv (.int (x + z) :: st) mi ml mr Q) : fc_T E y d cs sh pc lv (.int z :: .int x :: st) mi ml mr Q := fun p e s m args below meth c R Qf hC hR hret H locs ls hP hS hl => lv_iadd hC.1 hC.2.1 hd  (k p e s m args below meth c R Qf hC hR hret H locs ls hP hS hl)
theorem fc_r_isub {x z : Int32} (hd : decode y.2.1 pc = .ok (.isub, 1))  (k : fc_T E y d cs sh (pc + 1) lv (.int (x - z) :: st) mi ml mr Q) : fc_T E y d cs sh pc lv (.int z :: .int x :: st) mi ml mr Q := fun p e s m args below meth c R Qf hC hR hret H locs ls hP hS hl => lv_isub hC.1 hC.2.1 hd  (k p e s m args below meth c R Qf hC hR hret H locs ls hP hS hl)
theorem fc_r_imul {x z : Int32} (hd : decode y.2.1 pc = .ok (.imul, 1))  (k : fc_T E y d cs sh (pc + 1) lv (.int (x * z) :: st) mi ml mr Q) : fc_T E y d cs sh pc lv (.int z :: .int x :: st) mi ml mr Q := fun p e s m args below meth c R Qf hC hR hret H locs ls hP hS hl => lv_imul hC.1 hC.2.1 hd  (k p e s m args below meth c R Qf hC hR hret H locs ls hP hS hl)
theorem fc_r_iand {x z : Int32} (hd : decode y.2.1 pc = .ok (.iand, 1))  (k : fc_T E y d cs sh (pc + 1) lv (.int (x &&& z) :: st) mi ml mr Q) : fc_T E y d cs sh pc lv (.int z :: .int x :: st) mi ml mr Q := fun p e s m args below meth c R Qf hC hR hret H locs ls hP hS hl => lv_iand hC.1 hC.2.1 hd  (k p e s m args below meth c R Qf hC hR hret H locs ls hP hS hl)
theorem fc_r_ior {x z : Int32} (hd : decode y.2.1 pc = .ok (.ior, 1))  (k : fc_T E y d cs sh (pc + 1) lv (.int (x ||| z) :: st) mi ml mr Q) : fc_T E y d cs sh pc lv (.int z :: .int x :: st) mi ml mr Q := fun p e s m args below meth c R Qf hC hR hret H locs ls hP hS hl => lv_ior hC.1 hC.2.1 hd  (k p e s m args below meth c R Qf hC hR hret H locs ls hP hS hl)
theorem fc_r_ixor {x z : Int32} (hd : decode y.2.1 pc = .ok (.ixor, 1))  (k : fc_T E y d cs sh (pc + 1) lv (.int (x ^^^ z) :: st) mi ml mr Q) : fc_T E y d cs sh pc lv (.int z :: .int x :: st) mi ml mr Q := fun p e s m args below meth c R Qf hC hR hret H locs ls hP hS hl => lv_ixor hC.1 hC.2.1 hd  (k p e s m args below meth c R Qf hC hR hret H locs ls hP hS hl)
theorem fc_r_ishl {x z : Int32} (hd : decode y.2.1 pc = .ok (.ishl, 1))  (k : fc_T E y d cs sh (pc + 1) lv (.int (x <<< (z &&& 31)) :: st) mi ml mr Q) : fc_T E y d cs sh pc lv (.int z :: .int x :: st) mi ml mr Q := fun p e s m args below meth c R Qf hC hR hret H locs ls hP hS hl => lv_ishl hC.1 hC.2.1 hd  (k p e s m args below meth c R Qf hC hR hret H locs ls hP hS hl)
theorem fc_r_ishr {x z : Int32} (hd : decode y.2.1 pc = .ok (.ishr, 1))  (k : fc_T E y d cs sh (pc + 1) lv (.int (x >>> (z &&& 31)) :: st) mi ml mr Q) : fc_T E y d cs sh pc lv (.int z :: .int x :: st) mi ml mr Q := fun p e s m args below meth c R Qf hC hR hret H locs ls hP hS hl => lv_ishr hC.1 hC.2.1 hd  (k p e s m args below meth c R Qf hC hR hret H locs ls hP hS hl)
theorem fc_r_idiv {x z : Int32} (hd : decode y.2.1 pc = .ok (.idiv, 1)) (hz : ¬ z = 0) (k : fc_T E y d cs sh (pc + 1) lv (.int (x / z) :: st) mi ml mr Q) : fc_T E y d cs sh pc lv (.int z :: .int x :: st) mi ml mr Q := fun p e s m args below meth c R Qf hC hR hret H locs ls hP hS hl => lv_idiv hC.1 hC.2.1 hd hz (k p e s m args below meth c R Qf hC hR hret H locs ls hP hS hl)
theorem fc_r_irem {x z : Int32} (hd : decode y.2.1 pc = .ok (.irem, 1)) (hz : ¬ z = 0) (k : fc_T E y d cs sh (pc + 1) lv (.int (x - x / z * z) :: st) mi ml mr Q) : fc_T E y d cs sh pc lv (.int z :: .int x :: st) mi ml mr Q := fun p e s m args below meth c R Qf hC hR hret H locs ls hP hS hl => lv_irem hC.1 hC.2.1 hd hz (k p e s m args below meth c R Qf hC hR hret H locs ls hP hS hl)
theorem fc_r_ladd {x z : Int64} (hd : decode y.2.1 pc = .ok (.ladd, 1))  (k : fc_T E y d cs sh (pc + 1) lv (.long (x + z) :: st) mi ml mr Q) : fc_T E y d cs sh pc lv (.long z :: .long x :: st) mi ml mr Q := fun p e s m args below meth c R Qf hC hR hret H locs ls hP hS hl => lv_ladd hC.1 hC.2.1 hd  (k p e s m args below meth c R Qf hC hR hret H locs ls hP hS hl)
theorem fc_r_lsub {x z : Int64} (hd : decode y.2.1 pc = .ok (.lsub, 1))  (k : fc_T E y d cs sh (pc + 1) lv (.long (x - z) :: st) mi ml mr Q) : fc_T E y d cs sh pc lv (.long z :: .long x :: st) mi ml mr Q := fun p e s m args below meth c R Qf hC hR hret H locs ls hP hS hl => lv_lsub hC.1 hC.2.1 hd  (k p e s m args below meth c R Qf hC hR hret H locs ls hP hS hl)
theorem fc_r_lmul {x z : Int64} (hd : decode y.2.1 pc = .ok (.lmul, 1))  (k : fc_T E y d cs sh (pc + 1) lv (.long (x * z) :: st) mi ml mr Q) : fc_T E y d cs sh pc lv (.long z :: .long x :: st) mi ml mr Q := fun p e s m args below meth c R Qf hC hR hret H locs ls hP hS hl => lv_lmul hC.1 hC.2.1 hd  (k p e s m args below meth c R Qf hC hR hret H locs ls hP hS hl)
theorem fc_r_land {x z : Int64} (hd : decode y.2.1 pc = .ok (.land, 1))  (k : fc_T E y d cs sh (pc + 1) lv (.long (x &&& z) :: st) mi ml mr Q) : fc_T E y d cs sh pc lv (.long z :: .long x :: st) mi ml mr Q := fun p e s m args below meth c R Qf hC hR hret H locs ls hP hS hl => lv_land hC.1 hC.2.1 hd  (k p e s m args below meth c R Qf hC hR hret H locs ls hP hS hl)
theorem fc_r_lor {x z : Int64} (hd : decode y.2.1 pc = .ok (.lor, 1))  (k : fc_T E y d cs sh (pc + 1) lv (.long (x ||| z) :: st) mi ml mr Q) : fc_T E y d cs sh pc lv (.long z :: .long x :: st) mi ml mr Q := fun p e s m args below meth c R Qf hC hR hret H locs ls hP hS hl => lv_lor hC.1 hC.2.1 hd  (k p e s m args below meth c R Qf hC hR hret H locs ls hP hS hl)
theorem fc_r_ldiv {x z : Int64} (hd : decode y.2.1 pc = .ok (.ldiv, 1)) (hz : ¬ z = 0) (k : fc_T E y d cs sh (pc + 1) lv (.long (x / z) :: st) mi ml mr Q) : fc_T E y d cs sh pc lv (.long z :: .long x :: st) mi ml mr Q := fun p e s m args below meth c R Qf hC hR hret H locs ls hP hS hl => lv_ldiv hC.1 hC.2.1 hd hz (k p e s m args below meth c R Qf hC hR hret H locs ls hP hS hl)
theorem fc_r_lrem {x z : Int64} (hd : decode y.2.1 pc = .ok (.lrem, 1)) (hz : ¬ z = 0) (k : fc_T E y d cs sh (pc + 1) lv (.long (x - x / z * z) :: st) mi ml mr Q) : fc_T E y d cs sh pc lv (.long z :: .long x :: st) mi ml mr Q := fun p e s m args below meth c R Qf hC hR hret H locs ls hP hS hl => lv_lrem hC.1 hC.2.1 hd hz (k p e s m args below meth c R Qf hC hR hret H locs ls hP hS hl)
theorem fc_r_ineg {x : Int32} (hd : decode y.2.1 pc = .ok (.ineg, 1))  (k : fc_T E y d cs sh (pc + 1) lv (.int (-x) :: st) mi ml mr Q) : fc_T E y d cs sh pc lv (.int x :: st) mi ml mr Q := fun p e s m args below meth c R Qf hC hR hret H locs ls hP hS hl => lv_ineg hC.1 hC.2.1 hd  (k p e s m args below meth c R Qf hC hR hret H locs ls hP hS hl)
theorem fc_r_i2l {x : Int32} (hd : decode y.2.1 pc = .ok (.i2l, 1))  (k : fc_T E y d cs sh (pc + 1) lv (.long x.toInt64 :: st) mi ml mr Q) : fc_T E y d cs sh pc lv (.int x :: st) mi ml mr Q := fun p e s m args below meth c R Qf hC hR hret H locs ls hP hS hl => lv_i2l hC.1 hC.2.1 hd rfl (k p e s m args below meth c R Qf hC hR hret H locs ls hP hS hl)
theorem fc_r_l2i {x : Int64} (hd : decode y.2.1 pc = .ok (.l2i, 1))  (k : fc_T E y d cs sh (pc + 1) lv (.int x.toInt32 :: st) mi ml mr Q) : fc_T E y d cs sh pc lv (.long x :: st) mi ml mr Q := fun p e s m args below meth c R Qf hC hR hret H locs ls hP hS hl => lv_l2i hC.1 hC.2.1 hd rfl (k p e s m args below meth c R Qf hC hR hret H locs ls hP hS hl)
theorem fc_r_i2b {x : Int32} (hd : decode y.2.1 pc = .ok (.i2b, 1))  (k : fc_T E y d cs sh (pc + 1) lv (.int x.toInt8.toInt32 :: st) mi ml mr Q) : fc_T E y d cs sh pc lv (.int x :: st) mi ml mr Q := fun p e s m args below meth c R Qf hC hR hret H locs ls hP hS hl => lv_i2b hC.1 hC.2.1 hd rfl (k p e s m args below meth c R Qf hC hR hret H locs ls hP hS hl)
theorem fc_r_i2c {x : Int32} (hd : decode y.2.1 pc = .ok (.i2c, 1))  (k : fc_T E y d cs sh (pc + 1) lv (.int (x.toUInt32 % 65536).toInt32 :: st) mi ml mr Q) : fc_T E y d cs sh pc lv (.int x :: st) mi ml mr Q := fun p e s m args below meth c R Qf hC hR hret H locs ls hP hS hl => lv_i2c hC.1 hC.2.1 hd rfl (k p e s m args below meth c R Qf hC hR hret H locs ls hP hS hl)
theorem fc_r_iushr {x z : Int32} (hd : decode y.2.1 pc = .ok (.iushr, 1))  (k : fc_T E y d cs sh (pc + 1) lv (.int (x.toUInt32 >>> (z.toUInt32 &&& Int32.toUInt32 31)).toInt32 :: st) mi ml mr Q) : fc_T E y d cs sh pc lv (.int z :: .int x :: st) mi ml mr Q := fun p e s m args below meth c R Qf hC hR hret H locs ls hP hS hl => lv_iushr hC.1 hC.2.1 hd rfl (k p e s m args below meth c R Qf hC hR hret H locs ls hP hS hl)
theorem fc_r_lushr {x : Int64} {z : Int32} (hd : decode y.2.1 pc = .ok (.lushr, 1))  (k : fc_T E y d cs sh (pc + 1) lv (.long (x.toUInt64 >>> (z.toInt64.toUInt64 &&& Int64.toUInt64 63)).toInt64 :: st) mi ml mr Q) : fc_T E y d cs sh pc lv (.int z :: .long x :: st) mi ml mr Q := fun p e s m args below meth c R Qf hC hR hret H locs ls hP hS hl => lv_lushr hC.1 hC.2.1 hd rfl (k p e s m args below meth c R Qf hC hR hret H locs ls hP hS hl)
theorem fc_r_lshl {x : Int64} {z : Int32} (hd : decode y.2.1 pc = .ok (.lshl, 1))  (k : fc_T E y d cs sh (pc + 1) lv (.long (x <<< (z.toInt64 &&& 63)) :: st) mi ml mr Q) : fc_T E y d cs sh pc lv (.int z :: .long x :: st) mi ml mr Q := fun p e s m args below meth c R Qf hC hR hret H locs ls hP hS hl => lv_lshl hC.1 hC.2.1 hd rfl (k p e s m args below meth c R Qf hC hR hret H locs ls hP hS hl)
theorem fc_r_lshr {x : Int64} {z : Int32} (hd : decode y.2.1 pc = .ok (.lshr, 1))  (k : fc_T E y d cs sh (pc + 1) lv (.long (x >>> (z.toInt64 &&& 63)) :: st) mi ml mr Q) : fc_T E y d cs sh pc lv (.int z :: .long x :: st) mi ml mr Q := fun p e s m args below meth c R Qf hC hR hret H locs ls hP hS hl => lv_lshr hC.1 hC.2.1 hd rfl (k p e s m args below meth c R Qf hC hR hret H locs ls hP hS hl)
theorem fc_r_lcmp {x z : Int64} (hd : decode y.2.1 pc = .ok (.lcmp, 1))  (k : fc_T E y d cs sh (pc + 1) lv (.int (lg_cmp x z) :: st) mi ml mr Q) : fc_T E y d cs sh pc lv (.long z :: .long x :: st) mi ml mr Q := fun p e s m args below meth c R Qf hC hR hret H locs ls hP hS hl => W.lcmp hC.1 hC.2.1 hd  (k p e s m args below meth c R Qf hC hR hret H locs ls hP hS hl)
theorem fc_r_dup {x : Value} (hd : decode y.2.1 pc = .ok (.dup, 1)) (hx : x.category = 1) (k : fc_T E y d cs sh (pc + 1) lv (x :: x :: st) mi ml mr Q) : fc_T E y d cs sh pc lv (x :: st) mi ml mr Q := fun p e s m args below meth c R Qf hC hR hret H locs ls hP hS hl => lv_dup hC.1 hC.2.1 hd ((fc_v_cat E x).trans hx) (k p e s m args below meth c R Qf hC hR hret H locs ls hP hS hl)
theorem fc_r_pop {x : Value} (hd : decode y.2.1 pc = .ok (.pop, 1)) (hx : x.category = 1) (k : fc_T E y d cs sh (pc + 1) lv st mi ml mr Q) : fc_T E y d cs sh pc lv (x :: st) mi ml mr Q := fun p e s m args below meth c R Qf hC hR hret H locs ls hP hS hl => lv_pop hC.1 hC.2.1 hd ((fc_v_cat E x).trans hx) (k p e s m args below meth c R Qf hC hR hret H locs ls hP hS hl)
theorem fc_r_dup2 {x z : Value} (hd : decode y.2.1 pc = .ok (.dup2, 1)) (hx : x.category = 1) (hz : z.category = 1) (k : fc_T E y d cs sh (pc + 1) lv (x :: z :: x :: z :: st) mi ml mr Q) : fc_T E y d cs sh pc lv (x :: z :: st) mi ml mr Q := fun p e s m args below meth c R Qf hC hR hret H locs ls hP hS hl => lv_dup2_11 hC.1 hC.2.1 hd ((fc_v_cat E x).trans hx) ((fc_v_cat E z).trans hz) (k p e s m args below meth c R Qf hC hR hret H locs ls hP hS hl)
theorem fc_r_icmp_eq {x z : Int32} {off : Int} {tgt : Nat} (hd : decode y.2.1 pc = .ok (.if_icmp .eq off, 3)) (ht : (pc : Int) + off = (tgt : Int)) (kt : x = z → fc_T E y d cs sh tgt lv st mi ml mr Q) (kf : ¬ x = z → fc_T E y d cs sh (pc + 3) lv st mi ml mr Q) : fc_T E y d cs sh pc lv (.int z :: .int x :: st) mi ml mr Q := fun p e s m args below meth c R Qf hC hR hret H locs ls hP hS hl => lv_icmp_eq hC.1 hC.2.1 hd ht (fun q => kt q p e s m args below meth c R Qf hC hR hret H locs ls hP hS hl) (fun q => kf q p e s m args below meth c R Qf hC hR hret H locs ls hP hS hl)
theorem fc_r_if_eq {x : Int32} {off : Int} {tgt : Nat} (hd : decode y.2.1 pc = .ok (.ifCond .eq off, 3)) (ht : (pc : Int) + off = (tgt : Int)) (kt : x = 0 → fc_T E y d cs sh tgt lv st mi ml mr Q) (kf : ¬ x = 0 → fc_T E y d cs sh (pc + 3) lv st mi ml mr Q) : fc_T E y d cs sh pc lv (.int x :: st) mi ml mr Q := fun p e s m args below meth c R Qf hC hR hret H locs ls hP hS hl => lv_if_eq hC.1 hC.2.1 hd ht (fun q => kt q p e s m args below meth c R Qf hC hR hret H locs ls hP hS hl) (fun q => kf q p e s m args below meth c R Qf hC hR hret H locs ls hP hS hl)
theorem fc_r_icmp_ne {x z : Int32} {off : Int} {tgt : Nat} (hd : decode y.2.1 pc = .ok (.if_icmp .ne off, 3)) (ht : (pc : Int) + off = (tgt : Int)) (kt : ¬ x = z → fc_T E y d cs sh tgt lv st mi ml mr Q) (kf : x = z → fc_T E y d cs sh (pc + 3) lv st mi ml mr Q) : fc_T E y d cs sh pc lv (.int z :: .int x :: st) mi ml mr Q := fun p e s m args below meth c R Qf hC hR hret H locs ls hP hS hl => lv_icmp_ne hC.1 hC.2.1 hd ht (fun q => kt q p e s m args below meth c R Qf hC hR hret H locs ls hP hS hl) (fun q => kf q p e s m args below meth c R Qf hC hR hret H locs ls hP hS hl)
theorem fc_r_if_ne {x : Int32} {off : Int} {tgt : Nat} (hd : decode y.2.1 pc = .ok (.ifCond .ne off, 3)) (ht : (pc : Int) + off = (tgt : Int)) (kt : ¬ x = 0 → fc_T E y d cs sh tgt lv st mi ml mr Q) (kf : x = 0 → fc_T E y d cs sh (pc + 3) lv st mi ml mr Q) : fc_T E y d cs sh pc lv (.int x :: st) mi ml mr Q := fun p e s m args below meth c R Qf hC hR hret H locs ls hP hS hl => lv_if_ne hC.1 hC.2.1 hd ht (fun q => kt q p e s m args below meth c R Qf hC hR hret H locs ls hP hS hl) (fun q => kf q p e s m args below meth c R Qf hC hR hret H locs ls hP hS hl)
theorem fc_r_icmp_lt {x z : Int32} {off : Int} {tgt : Nat} (hd : decode y.2.1 pc = .ok (.if_icmp .lt off, 3)) (ht : (pc : Int) + off = (tgt : Int)) (kt : x < z → fc_T E y d cs sh tgt lv st mi ml mr Q) (kf : ¬ x < z → fc_T E y d cs sh (pc + 3) lv st mi ml mr Q) : fc_T E y d cs sh pc lv (.int z :: .int x :: st) mi ml mr Q := fun p e s m args below meth c R Qf hC hR hret H locs ls hP hS hl => lv_icmp_lt hC.1 hC.2.1 hd ht (fun q => kt q p e s m args below meth c R Qf hC hR hret H locs ls hP hS hl) (fun q => kf q p e s m args below meth c R Qf hC hR hret H locs ls hP hS hl)
theorem fc_r_if_lt {x : Int32} {off : Int} {tgt : Nat} (hd : decode y.2.1 pc = .ok (.ifCond .lt off, 3)) (ht : (pc : Int) + off = (tgt : Int)) (kt : x < 0 → fc_T E y d cs sh tgt lv st mi ml mr Q) (kf : ¬ x < 0 → fc_T E y d cs sh (pc + 3) lv st mi ml mr Q) : fc_T E y d cs sh pc lv (.int x :: st) mi ml mr Q := fun p e s m args below meth c R Qf hC hR hret H locs ls hP hS hl => lv_if_lt hC.1 hC.2.1 hd ht (fun q => kt q p e s m args below meth c R Qf hC hR hret H locs ls hP hS hl) (fun q => kf q p e s m args below meth c R Qf hC hR hret H locs ls hP hS hl)
theorem fc_r_icmp_ge {x z : Int32} {off : Int} {tgt : Nat} (hd : decode y.2.1 pc = .ok (.if_icmp .ge off, 3)) (ht : (pc : Int) + off = (tgt : Int)) (kt : z ≤ x → fc_T E y d cs sh tgt lv st mi ml mr Q) (kf : ¬ z ≤ x → fc_T E y d cs sh (pc + 3) lv st mi ml mr Q) : fc_T E y d cs sh pc lv (.int z :: .int x :: st) mi ml mr Q := fun p e s m args below meth c R Qf hC hR hret H locs ls hP hS hl => lv_icmp_ge hC.1 hC.2.1 hd ht (fun q => kt q p e s m args below meth c R Qf hC hR hret H locs ls hP hS hl) (fun q => kf q p e s m args below meth c R Qf hC hR hret H locs ls hP hS hl)
theorem fc_r_if_ge {x : Int32} {off : Int} {tgt : Nat} (hd : decode y.2.1 pc = .ok (.ifCond .ge off, 3)) (ht : (pc : Int) + off = (tgt : Int)) (kt : 0 ≤ x → fc_T E y d cs sh tgt lv st mi ml mr Q) (kf : ¬ 0 ≤ x → fc_T E y d cs sh (pc + 3) lv st mi ml mr Q) : fc_T E y d cs sh pc lv (.int x :: st) mi ml mr Q := fun p e s m args below meth c R Qf hC hR hret H locs ls hP hS hl => lv_if_ge hC.1 hC.2.1 hd ht (fun q => kt q p e s m args below meth c R Qf hC hR hret H locs ls hP hS hl) (fun q => kf q p e s m args below meth c R Qf hC hR hret H locs ls hP hS hl)
theorem fc_r_icmp_gt {x z : Int32} {off : Int} {tgt : Nat} (hd : decode y.2.1 pc = .ok (.if_icmp .gt off, 3)) (ht : (pc : Int) + off = (tgt : Int)) (kt : z < x → fc_T E y d cs sh tgt lv st mi ml mr Q) (kf : ¬ z < x → fc_T E y d cs sh (pc + 3) lv st mi ml mr Q) : fc_T E y d cs sh pc lv (.int z :: .int x :: st) mi ml mr Q := fun p e s m args below meth c R Qf hC hR hret H locs ls hP hS hl => lv_icmp_gt hC.1 hC.2.1 hd ht (fun q => kt q p e s m args below meth c R Qf hC hR hret H locs ls hP hS hl) (fun q => kf q p e s m args below meth c R Qf hC hR hret H locs ls hP hS hl)
theorem fc_r_if_gt {x : Int32} {off : Int} {tgt : Nat} (hd : decode y.2.1 pc = .ok (.ifCond .gt off, 3)) (ht : (pc : Int) + off = (tgt : Int)) (kt : 0 < x → fc_T E y d cs sh tgt lv st mi ml mr Q) (kf : ¬ 0 < x → fc_T E y d cs sh (pc + 3) lv st mi ml mr Q) : fc_T E y d cs sh pc lv (.int x :: st) mi ml mr Q := fun p e s m args below meth c R Qf hC hR hret H locs ls hP hS hl => lv_if_gt hC.1 hC.2.1 hd ht (fun q => kt q p e s m args below meth c R Qf hC hR hret H locs ls hP hS hl) (fun q => kf q p e s m args below meth c R Qf hC hR hret H locs ls hP hS hl)
theorem fc_r_icmp_le {x z : Int32} {off : Int} {tgt : Nat} (hd : decode y.2.1 pc = .ok (.if_icmp .le off, 3)) (ht : (pc : Int) + off = (tgt : Int)) (kt : x ≤ z → fc_T E y d cs sh tgt lv st mi ml mr Q) (kf : ¬ x ≤ z → fc_T E y d cs sh (pc + 3) lv st mi ml mr Q) : fc_T E y d cs sh pc lv (.int z :: .int x :: st) mi ml mr Q := fun p e s m args below meth c R Qf hC hR hret H locs ls hP hS hl => lv_icmp_le hC.1 hC.2.1 hd ht (fun q => kt q p e s m args below meth c R Qf hC hR hret H locs ls hP hS hl) (fun q => kf q p e s m args below meth c R Qf hC hR hret H locs ls hP hS hl)
theorem fc_r_if_le {x : Int32} {off : Int} {tgt : Nat} (hd : decode y.2.1 pc = .ok (.ifCond .le off, 3)) (ht : (pc : Int) + off = (tgt : Int)) (kt : x ≤ 0 → fc_T E y d cs sh tgt lv st mi ml mr Q) (kf : ¬ x ≤ 0 → fc_T E y d cs sh (pc + 3) lv st mi ml mr Q) : fc_T E y d cs sh pc lv (.int x :: st) mi ml mr Q := fun p e s m args below meth c R Qf hC hR hret H locs ls hP hS hl => lv_if_le hC.1 hC.2.1 hd ht (fun q => kt q p e s m args below meth c R Qf hC hR hret H locs ls hP hS hl) (fun q => kf q p e s m args below meth c R Qf hC hR hret H locs ls hP hS hl)
theorem fc_r_goto {off : Int} {tgt : Nat} (hd : decode y.2.1 pc = .ok (.goto off, 3)) (ht : (pc : Int) + off = (tgt : Int)) (k : fc_T E y d cs sh tgt lv st mi ml mr Q) : fc_T E y d cs sh pc lv st mi ml mr Q := fun p e s m args below meth c R Qf hC hR hret H locs ls hP hS hl => lv_goto hC.1 hC.2.1 hd ht (k p e s m args below meth c R Qf hC hR hret H locs ls hP hS hl)
end R1
