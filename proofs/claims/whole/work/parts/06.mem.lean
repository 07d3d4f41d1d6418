/-! ===== the memory: every cell that the run has made, by its place; ints, longs and references apart ===== -/
abbrev fc_Mi : Type := Nat → Nat → Int32
abbrev fc_Ml : Type := Nat → Nat → Int64
abbrev fc_Mr : Type := Nat → Nat → Option Nat
/-- shapes: (class number, 0), or (20 + kind of array, length) -/
abbrev fc_Sh : Type := List (Nat × Nat)
/-- launch, class numbers and slots, array classes, first place, the constant texts' places and their bytes', the script's length and ints -/
abbrev fc_E : Type := Launch × va_G × (Nat → ClassId) × Nat × (Nat → Nat) × (Nat → Nat) × Nat × (Nat → Int32)
def fc_u {α : Type} (f : Nat → Nat → α) (a j : Nat) (x : α) : Nat → Nat → α := fun a' => if a' = a then (fun j' => if j' = j then x else f a' j') else f a'
/-- a row for a row -/
def fc_ur {α : Type} (f : Nat → Nat → α) (a : Nat) (g : Nat → α) : Nat → Nat → α := fun a' => if a' = a then g else f a'
theorem fc_u_row {α : Type} (f : Nat → Nat → α) (a j : Nat) (x : α) : fc_u f a j x a = fun j' => if j' = j then x else f a j' := by unfold fc_u; rw [if_pos rfl]
theorem fc_u_off {α : Type} (f : Nat → Nat → α) {a b : Nat} (j : Nat) (x : α) (h : b ≠ a) : fc_u f a j x b = f b := by unfold fc_u; rw [if_neg h]
theorem fc_ur_row {α : Type} (f : Nat → Nat → α) (a : Nat) (g : Nat → α) : fc_ur f a g a = g := by unfold fc_ur; rw [if_pos rfl]
theorem fc_ur_off {α : Type} (f : Nat → Nat → α) {a b : Nat} (g : Nat → α) (h : b ≠ a) : fc_ur f a g b = f b := by unfold fc_ur; rw [if_neg h]
def fc_fv (base : Nat) (mi : Nat → Int32) (ml : Nat → Int64) (mr : Nat → Option Nat) (j : Nat) : Nat → Value
  | 0 => .int (mi j)
  | 1 => .long (ml j)
  | 3 => .int (mi j)
  | _ => va_rf ((mr j).map (base + ·))
def fc_fs (base : Nat) (mi : Nat → Int32) (ml : Nat → Int64) (mr : Nat → Option Nat) : Nat → List Nat → List Value
  | _, [] => []
  | j, t :: ts => fc_fv base mi ml mr j t :: fc_fs base mi ml mr (j + 1) ts
theorem fc_fs_get {base : Nat} {mi : Nat → Int32} {ml : Nat → Int64} {mr : Nat → Option Nat} : ∀ (ts : List Nat) (j k : Nat), (fc_fs base mi ml mr j ts)[k]? = (ts[k]?).map (fun t => fc_fv base mi ml mr (j + k) t)
  | [], j, k => by simp [fc_fs]
  | t :: ts, j, 0 => by simp [fc_fs]
  | t :: ts, j, k + 1 => by
    rw [fc_fs, List.getElem?_cons_succ, List.getElem?_cons_succ, fc_fs_get ts (j + 1) k]
    rw [show j + 1 + k = j + (k + 1) by omega]
theorem fc_fs_len {base : Nat} {mi : Nat → Int32} {ml : Nat → Int64} {mr : Nat → Option Nat} : ∀ (ts : List Nat) (j : Nat), (fc_fs base mi ml mr j ts).length = ts.length
  | [], j => rfl
  | t :: ts, j => by simp [fc_fs, fc_fs_len ts (j + 1)]
def fc_rows (base : Nat) (mr : Nat → Option Nat) : Nat → Option Nat := fun j => (mr j).map (base + ·)
def fc_cell (base : Nat) (tA : Nat → ClassId) (mi : Nat → Int32) (ml : Nat → Int64) (mr : Nat → Option Nat) (c : Nat × Nat) : va_E :=
  match c.1 with
  | 20 => .inl (tA 0, c.2, .inl mi)
  | 21 => .inl (tA 1, c.2, .inr (.inl ml))
  | 22 => .inl (tA 2, c.2, .inl mi)
  | 23 => .inl (tA 3, c.2, .inl mi)
  | 24 => .inl (tA 4, c.2, .inr (.inr (.inr (.inr (fc_rows base mr)))))
  | 25 => .inl (tA 5, c.2, .inr (.inr (.inr (.inr (fc_rows base mr)))))
  | 26 => .inl (tA 6, c.2, .inr (.inr (.inr (.inr (fc_rows base mr)))))
  | k => .inr (k, fc_fs base mi ml mr 0 (fc_ft k))
def fc_ws (E : fc_E) (sh : fc_Sh) (mi : fc_Mi) (ml : fc_Ml) (mr : fc_Mr) : va_W := sh.mapIdx (fun k c => (E.2.2.2.1 + k, fc_cell E.2.2.2.1 E.2.2.1 (mi k) (ml k) (mr k) c))
theorem fc_ws_get {E : fc_E} {sh : fc_Sh} {mi : fc_Mi} {ml : fc_Ml} {mr : fc_Mr} {k : Nat} {c : Nat × Nat} (h : sh[k]? = some c) : (fc_ws E sh mi ml mr)[k]? = some (E.2.2.2.1 + k, fc_cell E.2.2.2.1 E.2.2.1 (mi k) (ml k) (mr k) c) := by
  rw [fc_ws, List.getElem?_mapIdx, h]; rfl
theorem fc_ws_set {E : fc_E} {sh : fc_Sh} {mi mi' : fc_Mi} {ml ml' : fc_Ml} {mr mr' : fc_Mr} {k : Nat} {c : Nat × Nat} {e : va_E} (h : sh[k]? = some c)
    (hi : ∀ a, a ≠ k → mi' a = mi a) (hl : ∀ a, a ≠ k → ml' a = ml a) (hr : ∀ a, a ≠ k → mr' a = mr a) (he : fc_cell E.2.2.2.1 E.2.2.1 (mi' k) (ml' k) (mr' k) c = e) :
    (fc_ws E sh mi ml mr).set k (E.2.2.2.1 + k, e) = fc_ws E sh mi' ml' mr' := by
  subst he
  apply List.ext_getElem?
  intro i
  by_cases hik : i = k
  · subst hik
    have hlt : i < (fc_ws E sh mi ml mr).length := by
      have := (List.getElem?_eq_some_iff.mp h).1
      simpa [fc_ws] using this
    rw [List.getElem?_set_self hlt, fc_ws_get h]
  · rw [List.getElem?_set_ne (Ne.symm hik)]
    simp only [fc_ws, List.getElem?_mapIdx]
    rw [hi i hik, hl i hik, hr i hik]
def fc_A (E : fc_E) : Nat → Prop := fun q => E.2.2.2.1 ≤ q
theorem fc_ws_D {E : fc_E} {sh : fc_Sh} {mi : fc_Mi} {ml : fc_Ml} {mr : fc_Mr} : va_D (fc_A E) (fc_ws E sh mi ml mr) := by
  have key : ∀ (i : Nat) (q : Nat × va_E), (fc_ws E sh mi ml mr)[i]? = some q → q.1 = E.2.2.2.1 + i := by
    intro i q h
    simp only [fc_ws, List.getElem?_mapIdx] at h
    cases hs : sh[i]? with
    | none => rw [hs] at h; cases h
    | some c => rw [hs] at h; cases h; rfl
  refine ⟨fun i j x y hi hj hxy => ?_, fun k q hk => ?_⟩
  · have h1 := key i x hi
    have h2 := key j y hj
    omega
  · show E.2.2.2.1 ≤ q.1
    rw [key k q hk]
    omega
def fc_tys (tA : Nat → ClassId) : List (ClassId × FieldType) := [(tA 0, .int), (tA 1, .long), (tA 2, .boolean), (tA 3, .char), (tA 4, .object "FirstChimney$State"), (tA 5, .object "FirstChimney$Seen"), (tA 6, .array .int)]
/-- my values, and the machine's: a place is counted from the first one; float i is the i-th constant text (float 5: the script), retAddr i its row of bytes -/
def fc_v (E : fc_E) : Value → Value
  | .ref q => .ref (E.2.2.2.1 + q)
  | .float u => .ref (E.2.2.2.2.1 u.toNat)
  | .retAddr i => .ref (E.2.2.2.2.2.1 i)
  | v => v
theorem fc_v_cat (E : fc_E) (v : Value) : (fc_v E v).category = v.category := by cases v <;> rfl
