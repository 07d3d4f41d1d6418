/-! ===== the judgement over that memory ===== -/
def fc_rm (d : Nat) : Room := { frames := d + 1, cells := 0, slots := 0, locals := 64 * (d + 1) }
/-- the tables' words that hold everywhere -/
def fc_G : List Cond := lw_tbl.filter goodWord
theorem fc_G_of {w : Cond} (i : Nat) (h : lw_tbl[i]? = some w) (hg : goodWord w = true) : w ∈ fc_G := List.mem_filter.mpr ⟨List.mem_of_getElem? h, hg⟩
/-- links of private static methods that nest mates call: (class, entry, method) -/
def fc_N : List (String × Nat × MethodName) := [("FirstChimney$Tape", 15, yX10_isFrom), ("FirstChimney$LandReader", 100, yX10_isIn), ("FirstChimney$LandReader", 110, yX10_isFrom), ("FirstChimney$Ways", 39, yX10_isIn), ("FirstChimney$Script", 44, yX10_isFrom), ("FirstChimney$State", 96, yX10_isIn)]
def fc_nw (q : String × Nat × MethodName) : Cond := .methodLinkNest q.1 q.2.1 q.2.2 "FirstChimney"
/-- the constant texts: class, entry, text -/
def fc_tx : List (String × Nat × String) := [("FirstChimney$Tape", 58, "place   path    person  in      wakes   thing   worth   of      smoke   binds   minute  walk    give    vow     plain   bench   slow    mute    not     and     or      "), ("FirstChimney$Tape", 44, "()<=+-*;"), ("FirstChimney$LawReader", 49, "clock   price   crowd   judge   "), ("FirstChimney", 309, "no such kindling"), ("FirstChimney", 318, "no such rest")]
def fc_tl : List Nat := [168, 8, 32, 16, 12]
def fc_tb : List (List Int32) := fc_tx.map (fun q => q.2.2.toList.map (fun c => nI c.toNat))
def fc_K (E : fc_E) (U : State) : Prop := va_K E.2.1 vwCl (fc_tys E.2.2.1) U ∧ (∀ q ∈ fc_N, va_Nw (fc_nw q) U) ∧ vk_S 5 fc_tl fc_tb E.2.2.2.2.1 E.2.2.2.2.2 (fc_A E) U U.heap ∧ ∀ (i : Nat) (q : String × Nat × String), fc_tx[i]? = some q → vk_R q.1 q.2.1 q.2.2 (E.2.2.2.2.1 i) U
theorem fc_K.moved {E : fc_E} {s U : State} (h : fc_K E s) (hW : s.WarmedH U.vm) (hq : ∀ a : Nat, a < s.heap.size → ¬ fc_A E a → U.heap[a]? = s.heap[a]?) : fc_K E U :=
  ⟨va_K.moved hW.alike h.1, fun q hm => va_Nw.warmM hW (h.2.1 q hm), (h.2.2.1.kept hq).moved hW.alike, fun i q hi => (h.2.2.2 i q hi).warm hW⟩
theorem fc_K.calling {E : fc_E} {U : State} (a : Array Value) (g : JFrame) (mk : MethodId) (h : fc_K E U) : fc_K E (U.calling g mk a) :=
  ⟨va_K.moved (u := U) (U := U.calling g mk a) (Vm.Alike.refl U.vm) h.1, fun q hm => va_Nw.same rfl rfl (h.2.1 q hm), vk_S.moved (u := U) (U := U.calling g mk a) (Vm.Alike.refl U.vm) h.2.2.1, fun i q hi => (h.2.2.2 i q hi).same rfl⟩
/-- a method: name, code, locals, kind of answer -/
abbrev fc_M : Type := MethodName × ByteArray × Nat × Option FieldType
def fc_w (y : fc_M) : List Cond := .code y.1 y.2.1 y.2.2.1 y.2.2.2 :: fc_G
abbrev fc_Q : Type := Option Value → fc_Mi → fc_Ml → fc_Mr → Prop
def fc_Qc (E : fc_E) (sh : fc_Sh) (Q : fc_Q) : Array Value → State → Outcome → State → Prop := fun _ st o t =>
  (∃ v mi ml mr, Q v mi ml mr ∧ o = .returned (v.map (fc_v E)) ∧ va_P E.2.1 vwCl (fc_ws E sh mi ml mr) t.heap) ∧ va_F (fc_A E) st t
/-- THE CONTRACT of a method that makes no cell: from this memory with these arguments it returns, and Q -/
def fc_R (E : fc_E) (y : fc_M) (d : Nat) (sh : fc_Sh) (As : List Value) (mi : fc_Mi) (ml : fc_Ml) (mr : fc_Mr) (Q : fc_Q) : Prop :=
  Met E.1 y.1 (fc_w y) (fc_rm d) (va_Pc (As.map (fc_v E)) (fun U => va_P E.2.1 vwCl (fc_ws E sh mi ml mr) U.heap ∧ fc_K E U)) (fc_Qc E sh Q) 0 0 (fc_A E)
def fc_C (E : fc_E) (y : fc_M) (p : Program) (s : State) (m : MethodId) (args : Array Value) (meth : Method) (c : Code) : Prop :=
  p.tables.exec = Jvm.exec ∧ c.code = y.2.1 ∧ meth.sig.returnType = y.2.2.2 ∧ meth.locks = false ∧ s.vm.findClass y.1.cls = some m.cls ∧ c.maxLocals = y.2.2.1 ∧ (∀ w ∈ fc_G, w.before args s = true) ∧ fc_K E s
/-- locals: what is known of them, by place -/
def fc_lv (E : fc_E) (ls : Array Slot) (nL : Nat) (lv : List (Option Value)) : Prop := ls.size = nL ∧ lv_wf ls ∧ ∀ (i : Nat) (v : Value), lv[i]? = some (some v) → ls[i]? = some (.val (fc_v E v))
def fc_T (E : fc_E) (y : fc_M) (d : Nat) (sh : fc_Sh) (pc : Nat) (lv : List (Option Value)) (st : List Value) (mi : fc_Mi) (ml : fc_Ml) (mr : fc_Mr) (Q : fc_Q) : Prop :=
  ∀ (p : Program) (e : Env) (s : State) (m : MethodId) (args : Array Value) (below : List Frame) (meth : Method) (c : Code) (H : Heap) (locs : List Loc) (ls : Array Slot),
    fc_C E y p s m args meth c → va_P E.2.1 vwCl (fc_ws E sh mi ml mr) H → va_S (fc_A E) s.heap H locs → fc_lv E ls y.2.2.1 lv →
    W p E.1 e (fc_rm d) s m args below meth c H locs 0 0 (MQ below (fc_Qc E sh Q) args s 0 0 (fc_A E)) (F0 m pc ls (st.map (fc_v E)))
/-- what a method begins with -/
def fc_l0 : List Value → List (Option Value)
  | [] => []
  | v :: vs => if v.category = 2 then some v :: none :: fc_l0 vs else some v :: fc_l0 vs
theorem fc_l0_args (E : fc_E) : ∀ (vs : List Value) (n i : Nat) (v : Value), (fc_l0 vs)[i]? = some (some v) → (n + i, fc_v E v) ∈ lv_args n (vs.map (fc_v E))
  | [], n, i, v, h => by simp [fc_l0] at h
  | w :: vs, n, i, v, h => by
    simp only [List.map_cons, lv_args, fc_v_cat]
    simp only [fc_l0] at h
    by_cases hc : w.category = 2
    · rw [if_pos hc] at h
      rw [if_pos hc]
      match i, h with
      | 0, h => simp at h; subst h; exact List.mem_cons_self
      | 1, h => simp at h
      | i + 2, h =>
        refine List.mem_cons_of_mem _ ?_
        have := fc_l0_args E vs (n + 2) i v (by simpa using h)
        rwa [show n + 2 + i = n + (i + 2) by omega] at this
    · rw [if_neg hc] at h
      rw [if_neg hc]
      match i, h with
      | 0, h => simp at h; subst h; exact List.mem_cons_self
      | i + 1, h =>
        refine List.mem_cons_of_mem _ ?_
        have := fc_l0_args E vs (n + 1) i v (by simpa using h)
        rwa [show n + 1 + i = n + (i + 1) by omega] at this
theorem fc_lsl (E : fc_E) : ∀ vs : List Value, (lg_sl (vs.map (fc_v E))).length = (lg_sl vs).length
  | [] => rfl
  | v :: vs => by
    simp only [lg_sl, List.map_cons, List.flatMap_cons, List.length_append]
    have := fc_lsl E vs
    simp only [lg_sl] at this
    rw [this, fc_v_cat]
    congr 1
    split <;> rfl
/-- a contract out of a walk of the body -/
theorem fc_met {E : fc_E} {y : fc_M} {d : Nat} {sh : fc_Sh} {As : List Value} {mi : fc_Mi} {ml : fc_Ml} {mr : fc_Mr} {Q : fc_Q} (hy : plainName y.1.cls = true) (hn : (lg_sl As).length ≤ y.2.2.1)
    (h : fc_T E y d sh 0 (fc_l0 As) [] mi ml mr Q) : fc_R E y d sh As mi ml mr Q := by
  refine Met.ofW (cc := y.2.1) (maxL := y.2.2.1) (ret := y.2.2.2) hy rfl ?_
  intro p e s m args below meth c s₁ B hml hv
  obtain ⟨rfl, hP, hK⟩ := hv
  have hts := atoms_spec (ws := fc_w y) B.pre
  have hown : s.vm.findClass y.1.cls = some m.cls := findClass_of_methodNamed B.named
  have hl := lv_entry (As.map (fc_v E)) (n := y.2.2.1) (by rw [fc_lsl]; exact hn)
  rw [lg_entry_eq]
  exact h p e s m _ below meth c s.heap [] _ ⟨B.exec, B.bytes, B.returns, B.notSynchronized, hown, hml, fun w hw => hts w (List.mem_cons_of_mem _ hw), hK⟩ hP va_S.rf
    ⟨hl.1, hl.2.1, fun i v hi => hl.2.2 (i, fc_v E v) (by simpa using fc_l0_args E As 0 i v hi)⟩
