/-! ===== the judgement over that memory ===== -/
def fc_rm (d : Nat) : Room := { frames := d + 1, cells := 0, slots := 0, locals := 64 * (d + 1) }
def fc_nw (q : String × Nat × MethodName) : Cond := .methodLinkNest q.1 q.2.1 q.2.2 "FirstChimney"
def fc_tl : List Nat := [168, 8, 32, 16, 12]
def fc_tb : List (List Int32) := fc_tx.map (fun q => q.2.2.toList.map (fun c => nI c.toNat))
/-- words of a throw that the walk's own list can't carry -/
def fc_X3 : List Cond := (vx_atS "FirstChimney" 311 "java/util/NoSuchElementException" ["java/lang/RuntimeException", "java/lang/Exception"]).filter (fun w => !goodWord w)
def fc_Xw (U : State) : Prop := ∀ w ∈ fc_X3, w.before #[] U = true
theorem fc_Xwc : ∀ w ∈ fc_X3, w.onTables = true ∧ ((∃ x, w = .declares x) ∨ ∃ c t, w = .castable c t) := by
  have h : fc_X3 = [.declares (Bundle.initS "java/lang/RuntimeException"), .declares (Bundle.initS "java/lang/Exception"), .declares (Bundle.initS Bundle.tN), .castable "java/util/NoSuchElementException" "java/util/NoSuchElementException"] := by decide +kernel
  rw [h]
  intro w hw
  simp only [List.mem_cons, List.not_mem_nil, or_false] at hw
  rcases hw with rfl | rfl | rfl | rfl
  · exact ⟨rfl, Or.inl ⟨_, rfl⟩⟩
  · exact ⟨rfl, Or.inl ⟨_, rfl⟩⟩
  · exact ⟨rfl, Or.inl ⟨_, rfl⟩⟩
  · exact ⟨rfl, Or.inr ⟨_, _, rfl⟩⟩
theorem fc_Xw.moved {u U : State} (hvm : u.vm.Alike U.vm) (h : fc_Xw u) : fc_Xw U := by
  intro w hw
  have h1 := h w hw
  obtain ⟨g1, g2⟩ := fc_Xwc w hw
  refine va_tabs (u := u.setVm U.vm) (A := #[]) g1 rfl ?_
  rcases g2 with ⟨x, rfl⟩ | ⟨c, t, rfl⟩
  · rw [Cond.declares_setVm hvm]; exact h1
  · rw [Cond.castable_setVm hvm]; exact h1
/-- statics of the library that are read -/
def fc_Ks (E : fc_E) (U : State) (H : Heap) : Prop := va_Z "java/lang/String" "COMPACT_STRINGS" "Z" (.int 1) (fc_A E) U H ∧ (va_Z "jdk/internal/util/Preconditions" "SIOOBE_FORMATTER" "Ljava/util/function/BiFunction;" .null (fc_A E) U H ∨ va_Z "jdk/internal/util/Preconditions" "SIOOBE_FORMATTER" "Ljava/util/function/BiFunction;" (.ref (E.2.2.2.2.1 6)) (fc_A E) U H) ∧ vx_Zq Bundle.tN "UNASSIGNED_STACK" Bundle.steD (fc_A E) U H ∧ vx_Zq Bundle.tN "SUPPRESSED_SENTINEL" Bundle.listD (fc_A E) U H ∧ fc_Xw U
theorem fc_Ks.moved {E : fc_E} {u U : State} {H : Heap} (hvm : u.vm.Alike U.vm) (h : fc_Ks E u H) : fc_Ks E U H := ⟨va_Z.moved hvm h.1, h.2.1.elim (fun q => Or.inl (va_Z.moved hvm q)) (fun q => Or.inr (va_Z.moved hvm q)), vx_Zq.moved hvm h.2.2.1, vx_Zq.moved hvm h.2.2.2.1, fc_Xw.moved hvm h.2.2.2.2⟩
theorem fc_Ks.kept {E : fc_E} {U : State} {H H1 : Heap} (h : fc_Ks E U H) (hq : ∀ a : Nat, a < H.size → ¬ fc_A E a → H1[a]? = H[a]?) : fc_Ks E U H1 := ⟨h.1.kept hq, h.2.1.elim (fun q => Or.inl (q.kept hq)) (fun q => Or.inr (q.kept hq)), h.2.2.1.kept hq, h.2.2.2.1.kept hq, h.2.2.2.2⟩
def fc_K (E : fc_E) (U : State) : Prop := va_K E.2.1 vwCl (fc_tys E.2.2.1) U ∧ (∀ q ∈ fc_N, va_Nw (fc_nw q) U) ∧ vk_S 5 fc_tl fc_tb E.2.2.2.2.1 E.2.2.2.2.2.1 (fc_A E) U U.heap ∧ (∀ (i : Nat) (q : String × Nat × String), fc_tx[i]? = some q → vk_R q.1 q.2.1 q.2.2 (E.2.2.2.2.1 i) U) ∧ va_X (E.2.2.2.2.1 5) E.2.2.2.2.2.2.1 E.2.2.2.2.2.2.2 U U.heap ∧ ¬ fc_A E (E.2.2.2.2.1 5) ∧ fc_Ks E U U.heap
theorem fc_K.moved {E : fc_E} {s U : State} (h : fc_K E s) (hW : s.WarmedH U.vm) (hq : ∀ a : Nat, a < s.heap.size → ¬ fc_A E a → U.heap[a]? = s.heap[a]?) : fc_K E U := by
  obtain ⟨h1, h2, h3, h4, h5, h6, h7⟩ := h
  have hlt : E.2.2.2.2.1 5 < s.heap.size := by
    obtain ⟨scr, g1, -⟩ := id h5
    exact (Array.getElem?_eq_some_iff.mp g1).1
  exact ⟨va_K.moved hW.alike h1, fun q hm => va_Nw.warmM hW (h2 q hm), (h3.kept hq).moved hW.alike, fun i q hi => (h4 i q hi).warm hW, (h5.kept (hq _ hlt h6)).moved hW.alike, h6, (h7.kept hq).moved hW.alike⟩
theorem fc_K.calling {E : fc_E} {U : State} (a : Array Value) (g : JFrame) (mk : MethodId) (h : fc_K E U) : fc_K E (U.calling g mk a) :=
  ⟨va_K.moved (u := U) (U := U.calling g mk a) (Vm.Alike.refl U.vm) h.1, fun q hm => va_Nw.same rfl rfl (h.2.1 q hm), vk_S.moved (u := U) (U := U.calling g mk a) (Vm.Alike.refl U.vm) h.2.2.1, fun i q hi => (h.2.2.2.1 i q hi).same rfl, va_X.moved (u := U) (U := U.calling g mk a) (Vm.Alike.refl U.vm) h.2.2.2.2.1, h.2.2.2.2.2.1, fc_Ks.moved (u := U) (U := U.calling g mk a) (Vm.Alike.refl U.vm) h.2.2.2.2.2.2⟩
def fc_w (y : fc_M) : List Cond := .code y.1 y.2.1 y.2.2.1 y.2.2.2 :: fc_G
abbrev fc_Q : Type := Option Value → fc_Mi → fc_Ml → fc_Mr → Prop
def fc_Qc (E : fc_E) (sh : fc_Sh) (Q : fc_Q) : Array Value → State → Outcome → State → Prop := fun _ st o t =>
  (∃ v mi ml mr, Q v mi ml mr ∧ o = .returned (v.map (fc_v E)) ∧ va_P E.2.1 vwCl (fc_ws E sh mi ml mr) t.heap) ∧ va_F (fc_A E) st t
/-- THE CONTRACT of a method that makes no cell: from this memory with these arguments it returns, and Q -/
def fc_R (E : fc_E) (y : fc_M) (d : Nat) (sh : fc_Sh) (As : List Value) (mi : fc_Mi) (ml : fc_Ml) (mr : fc_Mr) (Q : fc_Q) : Prop :=
  Met E.1 y.1 (fc_w y) (fc_rm d) (va_Pc (As.map (fc_v E)) (fun U => va_P E.2.1 vwCl (fc_ws E sh mi ml mr) U.heap ∧ fc_K E U)) (fc_Qc E sh Q) 0 0 (fc_A E)
def fc_C (E : fc_E) (y : fc_M) (p : Program) (s : State) (m : MethodId) (args : Array Value) (meth : Method) (c : Code) : Prop :=
  p.tables.exec = Jvm.exec ∧ c.code = y.2.1 ∧ meth.sig.returnType = y.2.2.2 ∧ meth.locks = false ∧ s.vm.findClass y.1.cls = some m.cls ∧ c.maxLocals = y.2.2.1 ∧ (∀ w ∈ fc_G, w.before args s = true) ∧ fc_K E s
/-- locals: what is known of them, by place -/
def fc_lv (E : fc_E) (ls : Array Slot) (nL : Nat) (lv : List (Option Value)) : Prop := ls.size = nL ∧ lv_wf ls ∧ ∀ (i : Nat) (v : Value), lv[i]? = some (some v) → ls[i]? = some (.val (fc_v E v))
/-- room for d calls more, each within 64 words; cells and slots made so far -/
def fc_Rm (d : Nat) (cs : Nat × Nat) (R : Room) : Prop := d + 1 ≤ R.frames ∧ 64 * (d + 1) ≤ R.locals ∧ cs.1 ≤ R.cells ∧ cs.2 ≤ R.slots
/-- at a return -/
def fc_rt (y : fc_M) (pc : Nat) : Option Value → Prop
  | some (.int x) => decode y.2.1 pc = .ok (.ireturn, 1) ∧ (y.2.2.2 = some .int ∨ (y.2.2.2 = some .boolean ∧ (x = 0 ∨ x = 1)) ∨ (y.2.2.2 = some .char ∧ narrow .char (.int x) = .int x) ∨ (y.2.2.2 = some .byte ∧ narrow .byte (.int x) = .int x))
  | none => decode y.2.1 pc = .ok (.return_, 1) ∧ y.2.2.2 = none
  | _ => False
def fc_ret (E : fc_E) (y : fc_M) (cs : Nat × Nat) (sh : fc_Sh) (p : Program) (e : Env) (s : State) (m : MethodId) (args : Array Value) (below : List Frame) (meth : Method) (c : Code) (R : Room) (Qf : State → Prop) (Q : fc_Q) : Prop :=
  ∀ (v : Option Value) (mi : fc_Mi) (ml : fc_Ml) (mr : fc_Mr) (H : Heap) (locs : List Loc) (ls : Array Slot) (pc : Nat), Q v mi ml mr → va_P E.2.1 vwCl (fc_ws E sh mi ml mr) H → va_S (fc_A E) s.heap H locs → fc_rt y pc v → W p E.1 e R s m args below meth c H locs cs.1 cs.2 Qf (F0 m pc ls (v.map (fc_v E)).toList)
def fc_T (E : fc_E) (y : fc_M) (d : Nat) (cs : Nat × Nat) (sh : fc_Sh) (pc : Nat) (lv : List (Option Value)) (st : List Value) (mi : fc_Mi) (ml : fc_Ml) (mr : fc_Mr) (Q : fc_Q) : Prop :=
  ∀ (p : Program) (e : Env) (s : State) (m : MethodId) (args : Array Value) (below : List Frame) (meth : Method) (c : Code) (R : Room) (Qf : State → Prop), fc_C E y p s m args meth c → fc_Rm d cs R → fc_ret E y cs sh p e s m args below meth c R Qf Q →
    ∀ (H : Heap) (locs : List Loc) (ls : Array Slot), va_P E.2.1 vwCl (fc_ws E sh mi ml mr) H → va_S (fc_A E) s.heap H locs → fc_lv E ls y.2.2.1 lv →
    W p E.1 e R s m args below meth c H locs cs.1 cs.2 Qf (F0 m pc ls (st.map (fc_v E)))
/-- what a method begins with -/
def fc_l0 : List Value → List (Option Value)
  | [] => []
  | v :: vs => if v.category = 2 then some v :: none :: fc_l0 vs else some v :: fc_l0 vs
theorem fc_l0_args (E : fc_E) : ∀ (vs : List Value) (n i : Nat) (v : Value), (fc_l0 vs)[i]? = some (some v) → (n + i, fc_v E v) ∈ lv_args n (vs.map (fc_v E))
  | [], n, i, v, h => by simp [fc_l0] at h
  | w :: vs, n, i, v, h => by
    simp only [List.map_cons, lv_args, fc_v_cat]
    simp only [fc_l0] at h
    by_cases hc : w.category = 2
    · rw [if_pos hc] at h
      rw [if_pos hc]
      match i, h with
      | 0, h => simp at h; subst h; exact List.mem_cons_self
      | 1, h => simp at h
      | i + 2, h =>
        refine List.mem_cons_of_mem _ ?_
        have := fc_l0_args E vs (n + 2) i v (by simpa using h)
        rwa [show n + 2 + i = n + (i + 2) by omega] at this
    · rw [if_neg hc] at h
      rw [if_neg hc]
      match i, h with
      | 0, h => simp at h; subst h; exact List.mem_cons_self
      | i + 1, h =>
        refine List.mem_cons_of_mem _ ?_
        have := fc_l0_args E vs (n + 1) i v (by simpa using h)
        rwa [show n + 1 + i = n + (i + 1) by omega] at this
theorem fc_lsl (E : fc_E) : ∀ vs : List Value, (lg_sl (vs.map (fc_v E))).length = (lg_sl vs).length
  | [] => rfl
  | v :: vs => by
    simp only [lg_sl, List.map_cons, List.flatMap_cons, List.length_append]
    have := fc_lsl E vs
    simp only [lg_sl] at this
    rw [this, fc_v_cat]
    congr 1
    split <;> rfl
/-- locals at the entry, all places told -/
def fc_l1 (n : Nat) (As : List Value) : List (Option Value) := fc_l0 As ++ List.replicate (n - (fc_l0 As).length) none
theorem fc_l1_get {n : Nat} {As : List Value} {i : Nat} {v : Value} (h : (fc_l1 n As)[i]? = some (some v)) : (fc_l0 As)[i]? = some (some v) := by
  unfold fc_l1 at h
  by_cases hi : i < (fc_l0 As).length
  · rwa [List.getElem?_append_left hi] at h
  · rw [List.getElem?_append_right (by omega), List.getElem?_replicate] at h
    split at h <;> cases h
/-- a contract out of a walk of the body -/
theorem fc_met {E : fc_E} {y : fc_M} {d : Nat} {sh : fc_Sh} {As : List Value} {mi : fc_Mi} {ml : fc_Ml} {mr : fc_Mr} {Q : fc_Q} (hy : plainName y.1.cls = true) (hn : (lg_sl As).length ≤ y.2.2.1)
    (h : fc_T E y d (0, 0) sh 0 (fc_l1 y.2.2.1 As) [] mi ml mr Q) : fc_R E y d sh As mi ml mr Q := by
  refine Met.ofW (cc := y.2.1) (maxL := y.2.2.1) (ret := y.2.2.2) hy rfl ?_
  intro p e s m args below meth c s₁ B hml hv
  obtain ⟨rfl, hP, hK⟩ := hv
  have hts := atoms_spec (ws := fc_w y) B.pre
  have hown : s.vm.findClass y.1.cls = some m.cls := findClass_of_methodNamed B.named
  have hlocks := B.notSynchronized
  have hl := lv_entry (As.map (fc_v E)) (n := y.2.2.1) (by rw [fc_lsl]; exact hn)
  rw [lg_entry_eq]
  refine h p e s m _ below meth c (fc_rm d) _ ⟨B.exec, B.bytes, B.returns, hlocks, hown, hml, fun w hw => hts w (List.mem_cons_of_mem _ hw), hK⟩ ⟨Nat.le_refl _, Nat.le_refl _, Nat.zero_le _, Nat.zero_le _⟩ ?_ s.heap [] _ hP va_S.rf
    ⟨hl.1, hl.2.1, fun i v hi => hl.2.2 (i, fc_v E v) (by simpa using fc_l0_args E As 0 i v (fc_l1_get hi))⟩
  intro v mi' ml' mr' H locs ls pc hq hP1 hS1 hrt
  have fin : ∀ t : State, t.heap = H → fc_Qc E sh Q (As.map (fc_v E)).toArray s (.returned (v.map (fc_v E))) t := fun t ht => ⟨⟨v, mi', ml', mr', hq, rfl, by rw [ht]; exact hP1⟩, hS1.F ht⟩
  match v, hrt with
  | none, hrt => exact W.vret B.exec B.bytes (B.returns.trans hrt.2) (fun t ht _ => fin t ht) hS1.2.2 hrt.1 hlocks
  | some (.int x), hrt =>
    rcases hrt.2 with h | ⟨h, hx⟩ | ⟨h, hx⟩ | ⟨h, hx⟩
    · exact W.iret (v := x) B.exec B.bytes (B.returns.trans h) (fun t ht _ => fin t ht) hS1.2.2 hrt.1 hlocks
    · exact W.zret (v := x) (ty := .boolean) B.exec B.bytes (B.returns.trans h) (by rcases hx with rfl | rfl <;> rfl) (fun t ht _ => fin t ht) hS1.2.2 hrt.1 hlocks
    · exact W.zret (v := x) (ty := .char) B.exec B.bytes (B.returns.trans h) hx (fun t ht _ => fin t ht) hS1.2.2 hrt.1 hlocks
    · exact W.zret (v := x) (ty := .byte) B.exec B.bytes (B.returns.trans h) hx (fun t ht _ => fin t ht) hS1.2.2 hrt.1 hlocks
