/-! ===== a row of rows of ints, made at one go ===== -/
section MU
/-- the outer row of N rows, the first i of them laid in -/
def mu_o (cA : ClassId) (h N i : Nat) : Cell := arrV cA N (fun j => if j < i then .ref (h + 1 + j) else .null)
/-- the state when i of N rows stand -/
def mu_S (s : State) (cA cI : ClassId) (N : Nat) : Nat → State
  | 0 => s.pushCell (mu_o cA s.heap.size N 0)
  | i + 1 => ((mu_S s cA cI N i).pushCell (arrV cI N (fun _ => .int 0))).setCell s.heap.size ((mu_o cA s.heap.size N i).setSlot i (.ref (s.heap.size + 1 + i)))
theorem mu_os (cA : ClassId) (h N i : Nat) : (mu_o cA h N i).setSlot i (.ref (h + 1 + i)) = mu_o cA h N (i + 1) := by
  unfold mu_o
  rw [arrV_store]
  refine congrArg (arrV cA N) (funext fun j => ?_)
  show (if j = i then Value.ref (h + 1 + i) else if j < i then Value.ref (h + 1 + j) else Value.null) = if j < i + 1 then Value.ref (h + 1 + j) else Value.null
  by_cases e : j = i
  · subst e; rw [if_pos rfl, if_pos (by omega)]
  · by_cases h1 : j < i
    · rw [if_neg e, if_pos h1, if_pos (by omega)]
    · rw [if_neg e, if_neg h1, if_neg (by omega)]
theorem mu_f (s : State) (cA cI : ClassId) (N : Nat) : ∀ i, (mu_S s cA cI N i).heap.size = s.heap.size + 1 + i ∧ (mu_S s cA cI N i).heap[s.heap.size]? = some (mu_o cA s.heap.size N i) ∧ (mu_S s cA cI N i).vm = s.vm ∧ (mu_S s cA cI N i).slotsUsed = s.slotsUsed + N + i * N ∧
    (∀ a, a < s.heap.size → (mu_S s cA cI N i).heap[a]? = s.heap[a]?) ∧ ∀ j, j < i → (mu_S s cA cI N i).heap[s.heap.size + 1 + j]? = some (arrV cI N (fun _ => .int 0))
  | 0 => ⟨by simp [mu_S], by simp [mu_S], rfl, by simp [mu_S, mu_o, arrV_size], fun a ha => State.heap_pushCell_of_lt _ _ ha, fun j h => absurd h (Nat.not_lt_zero _)⟩
  | i + 1 => by
    obtain ⟨f1, f2, f3, f4, f5, f6⟩ := mu_f s cA cI N i
    have hlt : s.heap.size < (mu_S s cA cI N i).heap.size := by omega
    have hb : ((mu_S s cA cI N i).pushCell (arrV cI N (fun _ => .int 0))).heap[s.heap.size]? = some (mu_o cA s.heap.size N i) := by
      rw [State.heap_pushCell_of_lt (h := hlt)]; exact f2
    refine ⟨?_, ?_, ?_, ?_, fun a ha => ?_, fun j hj => ?_⟩
    · simp [mu_S, State.setCell, f1]; omega
    · rw [← mu_os]; exact State.heap_setCell_self hb
    · simp [mu_S, f3]
    · simp [mu_S, f4, arrV_size, Nat.succ_mul]; omega
    · show (((mu_S s cA cI N i).pushCell _).setCell s.heap.size _).heap[a]? = _
      rw [State.heap_setCell_other (Nat.ne_of_gt ha), State.heap_pushCell_of_lt (h := Nat.lt_trans ha hlt)]
      exact f5 a ha
    · show (((mu_S s cA cI N i).pushCell _).setCell s.heap.size _).heap[s.heap.size + 1 + j]? = _
      rw [State.heap_setCell_other (show s.heap.size ≠ s.heap.size + 1 + j by omega)]
      by_cases e : j < i
      · have hl2 : s.heap.size + 1 + j < (mu_S s cA cI N i).heap.size := by rw [f1]; omega
        rw [State.heap_pushCell_of_lt (h := hl2)]; exact f6 j e
      · have e2 : s.heap.size + 1 + j = (mu_S s cA cI N i).heap.size := by rw [f1]; omega
        rw [e2]; exact State.heap_pushCell_size _ _
theorem mu_top (s : State) (f : JFrame) (cA cI : ClassId) (N : Nat) : ∀ i, mu_S (s.setTop f) cA cI N i = (mu_S s cA cI N i).setTop f
  | 0 => rfl
  | i + 1 => by simp only [mu_S, mu_top s f cA cI N i, State.heap_setTop, State.pushCell_setTop, State.setCell_setTop]
section
variable {EE : CtlPost} {e : Env} {d : Bool} {acts : List Action} {s : State}
theorem mu_new {c comp : ClassId} {k : Class} {ty : FieldType} {len : Nat} {v : Value} {Q : Addr → Pre} (hk : s.vm.classes[c]? = some k) (hkind : k.kind = .array comp ty)
    (hl : ¬ len > e.platform.arrayLengthLimit) (hh : ¬ len * componentBytes ty > e.platform.maxHeapBytes) (hf : fits ty v = true) (hv : v.isDefault = true)
    (h1 : s.heap.size < e.platform.maxCells) (h2 : s.slotsUsed + len ≤ e.platform.maxSlots) (hq : Q s.heap.size d acts (s.pushCell (arrV c len (fun _ => v)))) : wp (Jvm.newArray c len v) Q EE e d acts s := by
  rw [← arrV_new] at hq
  have g1 : ∀ i x, (Array.replicate len v)[i]? = some x → s.fitsSlot c .none i x = true := by
    intro i x hx
    rw [Array.getElem?_replicate] at hx
    by_cases hi : i < len
    · rw [if_pos hi] at hx; cases hx; simp [State.fitsSlot, State.slotType?, hk, hkind, hf]
    · rw [if_neg hi] at hx; cases hx
  have g2 : allocActs (Array.replicate len v) s.heap.size acts = acts := by
    have g3 : ((Array.replicate len v).all (·.isDefault)) = true := by rw [Array.all_replicate]; split <;> simp [hv]
    unfold allocActs; rw [if_pos g3]
  simp only [Jvm.newArray, Jvm.arrayFits, wp_bind', Jvm.W.ask, Jvm.W.ite, hl, if_false, wp_pure', Jvm.W.theClass, hk, hkind, hh, Jvm.W.alloc, Jvm.W.stop, Option.some.injEq, exists_eq_left', Array.size_replicate, g2]
  rw [if_neg (by omega)]
  exact ⟨h1, h2, g1, hq⟩
theorem mu_row {comp cc : ClassId} {kc : Class} {w : Int32} {Q : Addr → Pre} (hkc : s.vm.classes[comp]? = some kc) (hkind : kc.kind = .array cc .int) (hw : ¬ w < 0)
    (hl : ¬ w.toNatClampNeg > e.platform.arrayLengthLimit) (hh : ¬ w.toNatClampNeg * componentBytes .int > e.platform.maxHeapBytes) (h1 : s.heap.size < e.platform.maxCells) (h2 : s.slotsUsed + w.toNatClampNeg ≤ e.platform.maxSlots)
    (hq : Q s.heap.size d acts (s.pushCell (arrV comp w.toNatClampNeg (fun _ => .int 0)))) : wp (multianewarray.make comp [w]) Q EE e d acts s := by
  rw [multianewarray.make]
  simp only [wp_bind', Jvm.W.ite, hw, if_false, wp_pure', Jvm.W.theClass, hkc, hkind, Option.some.injEq, exists_eq_left']
  exact mu_new hkc hkind hl hh rfl rfl h1 h2 hq
theorem mu_make {c comp cc : ClassId} {k kc : Class} {w : Int32} {N : Nat} {Q : Addr → Pre} (hk : s.vm.classes[c]? = some k) (hkind : k.kind = .array comp (.array .int)) (hkc : s.vm.classes[comp]? = some kc) (hkindc : kc.kind = .array cc .int) (hw : ¬ w < 0) (hN : w.toNatClampNeg = N)
    (hl : ¬ N > e.platform.arrayLengthLimit) (hh : ¬ N * componentBytes (.array .int) > e.platform.maxHeapBytes) (hh2 : ¬ N * componentBytes .int > e.platform.maxHeapBytes)
    (hc : s.heap.size + 1 + N ≤ e.platform.maxCells) (hs : s.slotsUsed + N + N * N ≤ e.platform.maxSlots) (hq : ∀ d' acts', Q s.heap.size d' acts' (mu_S s c comp N N)) : wp (multianewarray.make c [w, w]) Q EE e d acts s := by
  subst hN
  have hfind : ([w].find? (· < 0)) = none := by simp [hw]
  have z0 : mu_o c s.heap.size w.toNatClampNeg 0 = arrV c w.toNatClampNeg (fun _ => .null) := by
    unfold mu_o
    exact congrArg _ (funext fun j => if_neg (Nat.not_lt_zero j))
  rw [multianewarray.make]
  simp only [wp_bind', Jvm.W.ite, hw, if_false, wp_pure', Jvm.W.theClass, hk, hkind, Option.some.injEq, exists_eq_left']
  refine mu_new hk hkind hl hh rfl rfl (by omega) (by have := Nat.zero_le (w.toNatClampNeg * w.toNatClampNeg); omega) ?_
  rw [← z0]
  simp only [hfind]
  rw [ite_self, wp_bind', Std.Legacy.Range.forIn_eq_forIn_range']
  have hsz : ([:w.toNatClampNeg] : Std.Legacy.Range).size = w.toNatClampNeg := by simp [Std.Legacy.Range.size]
  rw [hsz]
  show wp (forIn (List.range' 0 w.toNatClampNeg 1) PUnit.unit _) _ EE e d acts _
  refine wp_forIn_inv (fun rest s' => ∃ i, i ≤ w.toNatClampNeg ∧ rest = List.range' i (w.toNatClampNeg - i) ∧ s' = mu_S s c comp w.toNatClampNeg i) _ _ ⟨0, Nat.zero_le _, rfl, rfl⟩ ?_ ?_
  · rintro x rest s' d' acts' Q' ⟨i, hi, hr, rfl⟩ hnext
    have hlt : i < w.toNatClampNeg := by
      rcases Nat.lt_or_ge i w.toNatClampNeg with h | h
      · exact h
      · rw [Nat.sub_eq_zero_of_le h] at hr; simp at hr
    have hr2 : w.toNatClampNeg - i = (w.toNatClampNeg - (i + 1)) + 1 := by omega
    rw [hr2, List.range'_succ] at hr
    obtain ⟨rfl, hr3⟩ := List.cons.inj hr
    obtain ⟨f1, f2, f3, f4, -, -⟩ := mu_f s c comp w.toNatClampNeg x
    have hmul : x * w.toNatClampNeg + w.toNatClampNeg ≤ w.toNatClampNeg * w.toNatClampNeg := by
      rw [← Nat.succ_mul]; exact Nat.mul_le_mul_right _ hlt
    have hl0 : s.heap.size < (mu_S s c comp w.toNatClampNeg x).heap.size := by rw [f1]; omega
    simp only [wp_bind']
    refine mu_row (by rw [f3]; exact hkc) hkindc hw hl hh2 (by rw [f1]; omega) (by rw [f4]; omega) ?_
    simp only [wp_bind', Jvm.W.writeLoc, wp_pure']
    refine ⟨mu_o c s.heap.size w.toNatClampNeg x, by rw [State.heap_pushCell_of_lt (h := hl0)]; exact f2, by simp [mu_o, arrV], by unfold mu_o; rw [arrV_size]; exact hlt, ?_, hnext _ _ _ ⟨x + 1, hlt, hr3, ?_⟩⟩
    · show State.fitsSlot _ c .none _ _ = true
      simp [State.fitsSlot, State.slotType?, f3, hk, hkind]
      rfl
    · rw [f1]; rfl
  · rintro s' d' acts' ⟨i, hi, hr, rfl⟩
    have hiN : i = w.toNatClampNeg := by
      rcases Nat.lt_or_ge i w.toNatClampNeg with h | h
      · have hr2 : w.toNatClampNeg - i = (w.toNatClampNeg - (i + 1)) + 1 := by omega
        rw [hr2, List.range'_succ] at hr; cases hr
      · omega
    subst hiN
    simp only [wp_pure']
    exact hq _ _
end
section
variable {p : Program} {l : Launch} {e : Env} {R : Room} {s : State} {m : MethodId} {args : Array Value} {below : List Frame} {meth : Method} {c : Code} {T : State} {locs : List Loc} {cells slots : Nat}
theorem mu_X (X : Stand p l e R s m args below meth c T locs cells slots) (cA cI : ClassId) (N : Nat) : ∀ i, Stand p l e R s m args below meth c (mu_S T cA cI N i) locs (cells + 1 + i) (slots + N + i * N)
  | 0 => by
    have h := X.pushed (mu_o cA T.heap.size N 0)
    unfold mu_o at h
    rw [arrV_size] at h
    rw [Nat.zero_mul]
    exact h
  | i + 1 => by
    have Xi := mu_X X cA cI N i
    obtain ⟨f1, f2, -, -, -, -⟩ := mu_f T cA cI N i
    have hlt : T.heap.size < (mu_S T cA cI N i).heap.size := by rw [f1]; omega
    have hcell : ((mu_S T cA cI N i).pushCell (arrV cI N (fun _ => .int 0))).heap[T.heap.size]? = some (mu_o cA T.heap.size N i) := by rw [State.heap_pushCell_of_lt (h := hlt)]; exact f2
    have h := ((Xi.pushed (arrV cI N (fun _ => .int 0))).stored hcell i (.ref (T.heap.size + 1 + i))).dropFresh (fun x hx => by
      rw [List.mem_singleton.mp hx]; exact X.heapGrown)
    rw [arrV_size] at h
    have e3 : slots + N + (i + 1) * N = slots + N + i * N + N := by rw [Nat.succ_mul]; omega
    rw [e3]
    exact h
theorem mu_step (X : Stand p l e R s m args below meth c T locs cells slots) (hexec : p.tables.exec = Jvm.exec) {own : String} {index : Nat} (hown : s.vm.findClass own = some m.cls) (hclink : (Cond.classLink own index ("[" ++ (FieldType.array .int).toString)).before args s = true)
    (hover : (Cond.arrayOver (.array .int)).before args s = true) (harr : (Cond.arrayClass .int).before args s = true) {g : JFrame} (hg : g.method = m) (hdg : decode c.code g.pc = .ok (.multianewarray index 2, 4)) {w : Int32} {rest : List Value} (hstack : g.stack = .int w :: .int w :: rest)
    {N : Nat} (hw : ¬ w < 0) (hN : w.toNatClampNeg = N) (hN2 : N ≤ 1000) (hcells : cells + (1 + N) ≤ R.cells) (hslots : slots + (N + N * N) ≤ R.slots) :
    ∃ (vm₁ : Vm) (cA comp : ClassId), s.WarmedH vm₁ ∧ s.vm.findClass ("[" ++ (FieldType.array .int).toString) = some cA ∧ s.vm.findClass (FieldType.array .int).toString = some comp ∧
      Stand p l e R s m args below meth c (mu_S (T.setVm vm₁) cA comp N N) locs (cells + 1 + N) (slots + N + N * N) ∧
      ∀ target, Steps p.tables e below ((mu_S (T.setVm vm₁) cA comp N N).setTop { g with pc := g.pc + 4, stack := .ref T.heap.size :: rest }) target → Steps p.tables e below (T.setTop g) target := by
  subst hg
  have hpl : e.platform.magicAccessors = ({} : Platform).magicAccessors := by rw [X.admits.platform]
  obtain ⟨comp, cA, kA, hcomp, -, hkA, hkindA, hnameA⟩ := arrayOverA_spec hover
  obtain ⟨comp', kC, cc, hcomp', hkC, hkindC⟩ := Cond.arrayClass_spec harr
  obtain rfl : comp' = comp := Option.some.inj (hcomp'.symm.trans hcomp)
  obtain ⟨c0, hfc0, hcl⟩ := Cond.classLink_spec hown hclink e.platform hpl
  cases hnameA.symm.trans hfc0
  obtain ⟨hg₁, hwarm₁, hready₁⟩ := State.classEntry (e := e) X.warmed hcl
  generalize T.vm.noted g.method.cls index (.cls cA) = vm₁ at hg₁ hwarm₁ hready₁
  obtain ⟨kA₁, hkA₁, heA⟩ := hwarm₁.alike.2.2 _ _ hkA
  obtain ⟨kC₁, hkC₁, heC⟩ := hwarm₁.alike.2.2 _ _ hkC
  have hkindA₁ : kA₁.kind = .array comp' (.array .int) := by rw [heA]; exact hkindA
  have hkindC₁ : kC₁.kind = .array cc .int := by rw [heC]; exact hkindC
  obtain ⟨hr1, hr2⟩ := X.roomAbove hcells hslots
  have XF := mu_X (X.noted hwarm₁) cA comp' N N
  refine ⟨vm₁, cA, comp', hwarm₁, hnameA, hcomp, XF, fun target hrest => ?_⟩
  have hl : ¬ N > e.platform.arrayLengthLimit := by rw [Launch.admits_arrayLengthLimit X.admits]; omega
  have hh : ¬ N * componentBytes (.array .int) > e.platform.maxHeapBytes := by
    rw [Launch.admits_maxHeapBytes X.admits]; show ¬ N * 4 > 536870912; omega
  have hh2 : ¬ N * componentBytes .int > e.platform.maxHeapBytes := by
    rw [Launch.admits_maxHeapBytes X.admits]; show ¬ N * 4 > 536870912; omega
  jvm_step X.here [hexec, hdg]
  simp only [multianewarray.sem, wp_bind', Jvm.W.resolveClassAt_links (State.method?_setTop g X.here.top) hg₁]
  rw [Jvm.W.popN, if_neg (by decide)]
  refine ⟨g, State.topJava?_setTop' (s := T.setVm vm₁) g X.here.top, [.int w, .int w], rest, rfl, hstack, ?_⟩
  simp only [List.mapM_cons, List.mapM_nil, wp_bind', wp_pure']
  refine mu_make (k := kA₁) (kc := kC₁) hkA₁ hkindA₁ hkC₁ hkindC₁ hw hN hl hh hh2 (by show T.heap.size + 1 + _ ≤ _; omega) (by show T.slotsUsed + _ + _ ≤ _; omega) (fun d' acts' => ?_)
  have eS : ((T.setTop g).setVm vm₁).setTop { g with stack := rest } = (T.setVm vm₁).setTop { g with stack := rest } := by
    show ((T.setVm vm₁).setTop g).setTop _ = _
    rw [State.setTop_setTop]
  rw [eS, mu_top]
  simp only [wp_bind', Jvm.W.mark, Jvm.W.pushRef, State.topJava?_setTop' _ XF.here.top, Option.some.injEq, exists_eq_left', State.setTop_setTop, State.heap_setTop]
  intro acts
  simp [jvm, XF.here.top]
  exact hrest
end
end MU
