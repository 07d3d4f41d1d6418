/-! ===== what holds at the law's entry ===== -/
def fz_tm (i : Nat) : Term := match fc_tx[i]? with
  | some q => .string q.1 q.2.1
  | none => .arg 0
theorem fl_1 : ∀ i : Nat, i < 5 → Cond.exactly (fz_tm i) "java/lang/String" ∈ flatC (Jvm.Cond.and given_1 narrow_1) := by decide +kernel
theorem fl_2 : ∀ i : Nat, i < 5 → Cond.eq (.field (fz_tm i) "java/lang/String" "coder" "B") (.int 0) ∈ flatC (Jvm.Cond.and given_1 narrow_1) := by decide +kernel
theorem fl_3 : ∀ i : Nat, i < 5 → Cond.arrayOf (.field (fz_tm i) "java/lang/String" "value" "[B") .byte ∈ flatC (Jvm.Cond.and given_1 narrow_1) := by decide +kernel
theorem fl_4 : ∀ i : Nat, i < 5 → Cond.eq (.length (.field (fz_tm i) "java/lang/String" "value" "[B")) (.int (Int32.ofNat (fc_tl.getD i 0))) ∈ flatC (Jvm.Cond.and given_1 narrow_1) := by decide +kernel
def fz_el (i j : Nat) : Cond := Cond.eq (.elem (.field (fz_tm i) "java/lang/String" "value" "[B") (.int (Int32.ofNat j))) (.int ((fc_tb.getD i []).getD j 0))
theorem fl_50 : ((flatC (Jvm.Cond.and given_1 narrow_1)).drop 55).take 168 = (List.range 168).map (fz_el 0) := by decide +kernel
theorem fl_51 : ((flatC (Jvm.Cond.and given_1 narrow_1)).drop 227).take 8 = (List.range 8).map (fz_el 1) := by decide +kernel
theorem fl_52 : ((flatC (Jvm.Cond.and given_1 narrow_1)).drop 240).take 32 = (List.range 32).map (fz_el 2) := by decide +kernel
theorem fl_53 : ((flatC (Jvm.Cond.and given_1 narrow_1)).drop 278).take 16 = (List.range 16).map (fz_el 3) := by decide +kernel
theorem fl_54 : ((flatC (Jvm.Cond.and given_1 narrow_1)).drop 301).take 12 = (List.range 12).map (fz_el 4) := by decide +kernel
theorem fl_5x {l : List Cond} {a n j : Nat} {f : Nat → Cond} (h : (l.drop a).take n = (List.range n).map f) (hj : j < n) : f j ∈ l := by
  have h1 : f j ∈ (l.drop a).take n := by rw [h]; exact List.mem_map.mpr ⟨j, List.mem_range.mpr hj, rfl⟩
  exact List.mem_of_mem_drop (List.mem_of_mem_take h1)
theorem fl_5 : ∀ i : Nat, i < 5 → ∀ j : Nat, j < fc_tl.getD i 0 → fz_el i j ∈ flatC (Jvm.Cond.and given_1 narrow_1)
  | 0, _, j, hj => fl_5x fl_50 hj
  | 1, _, j, hj => fl_5x fl_51 hj
  | 2, _, j, hj => fl_5x fl_52 hj
  | 3, _, j, hj => fl_5x fl_53 hj
  | 4, _, j, hj => fl_5x fl_54 hj
  | i + 5, h, _, _ => absurd h (by omega)
theorem fl_6 : ∀ i : Nat, i < 5 → ∀ j : Nat, j < 5 → i ≠ j → Cond.not (Cond.eq (fz_tm i) (fz_tm j)) ∈ flatC (Jvm.Cond.and given_1 narrow_1) ∨ Cond.not (Cond.eq (fz_tm j) (fz_tm i)) ∈ flatC (Jvm.Cond.and given_1 narrow_1) := by decide +kernel
theorem fc_X3_in : ∀ w ∈ fc_X3, w ∈ lw_tbl := by decide +kernel
section NA
variable {s : State} {args : Array Value}
theorem fc_S0 (hg : (Jvm.Cond.and given_1 narrow_1).before args s = true) : ∃ adK adV : Nat → Nat, vk_S 5 fc_tl fc_tb adK adV (fun q => s.heap.size ≤ q) s s.heap ∧ ∀ i : Nat, i < 5 → (fz_tm i).eval args s none [] s = some (.ref (adK i)) := by
  have hs := flat_of_before _ hg
  refine vk_Sof (tm := fz_tm) (by decide) (fun i hi => hs _ (fl_1 i hi)) (fun i hi => hs _ (fl_2 i hi)) (fun i hi => hs _ (fl_3 i hi)) (fun i hi => hs _ (fl_4 i hi)) (fun i hi j hj => hs _ (fl_5 i hi j hj)) (fun i j hi hj h => ?_) (fun a h1 h2 => by omega)
  rcases fl_6 i hi j hj h with h | h
  · exact Or.inl (hs _ h)
  · exact Or.inr (hs _ h)
theorem fc_AO0 (hts : ∀ w ∈ lw_tbl, w.before args s = true) : fc_AO s := by
  refine ⟨va_AO.of (hts _ (List.mem_of_getElem? (i := 284) (by decide +kernel))), va_AO.of (hts _ (List.mem_of_getElem? (i := 286) (by decide +kernel))), hts (Cond.arrayOver (.array .int)) (List.mem_of_getElem? (i := 223) (by decide +kernel)), ?_⟩
  intro q hq
  simp only [fc_N2, List.mem_cons, List.not_mem_nil, or_false] at hq
  rcases hq with rfl | rfl | rfl | rfl | rfl | rfl | rfl | rfl | rfl | rfl | rfl
  · exact va_Nw.of rfl (hts _ (List.mem_of_getElem? (i := 141) (by decide +kernel)))
  · exact va_Nw.of rfl (hts _ (List.mem_of_getElem? (i := 182) (by decide +kernel)))
  · exact va_Nw.of rfl (hts _ (List.mem_of_getElem? (i := 188) (by decide +kernel)))
  · exact va_Nw.of rfl (hts _ (List.mem_of_getElem? (i := 218) (by decide +kernel)))
  · exact va_Nw.of rfl (hts _ (List.mem_of_getElem? (i := 237) (by decide +kernel)))
  · exact va_Nw.of rfl (hts _ (List.mem_of_getElem? (i := 287) (by decide +kernel)))
  · exact va_Nw.of rfl (hts _ (List.mem_of_getElem? (i := 289) (by decide +kernel)))
  · exact va_Nw.of rfl (hts _ (List.mem_of_getElem? (i := 332) (by decide +kernel)))
  · exact va_Nw.of rfl (hts _ (List.mem_of_getElem? (i := 335) (by decide +kernel)))
  · exact va_Nw.of rfl (hts _ (List.mem_of_getElem? (i := 341) (by decide +kernel)))
  · exact va_Nw.of rfl (hts _ (List.mem_of_getElem? (i := 448) (by decide +kernel)))
theorem fc_N0 (hts : ∀ w ∈ lw_tbl, w.before args s = true) : ∀ q ∈ fc_N, va_Nw (fc_nw q) s := by
  intro q hq
  simp only [fc_N, List.mem_cons, List.not_mem_nil, or_false] at hq
  rcases hq with rfl | rfl | rfl | rfl | rfl | rfl
  · exact va_Nw.of rfl (hts _ (List.mem_of_getElem? (i := 511) (by decide +kernel)))
  · exact va_Nw.of rfl (hts _ (List.mem_of_getElem? (i := 688) (by decide +kernel)))
  · exact va_Nw.of rfl (hts _ (List.mem_of_getElem? (i := 695) (by decide +kernel)))
  · exact va_Nw.of rfl (hts _ (List.mem_of_getElem? (i := 765) (by decide +kernel)))
  · exact va_Nw.of rfl (hts _ (List.mem_of_getElem? (i := 791) (by decide +kernel)))
  · exact va_Nw.of rfl (hts _ (List.mem_of_getElem? (i := 857) (by decide +kernel)))
theorem fc_R0 (hts : ∀ w ∈ lw_tbl, w.before args s = true) {adK : Nat → Nat} (h : ∀ i : Nat, i < 5 → (fz_tm i).eval args s none [] s = some (.ref (adK i))) : ∀ (i : Nat) (q : String × Nat × String), fc_tx[i]? = some q → i < 5 ∧ vk_R q.1 q.2.1 q.2.2 (adK i) s := by
  intro i q hq
  match i, hq with
  | 0, hq => cases hq; exact ⟨by omega, vk_R.of (hts _ (List.mem_of_getElem? (i := 542) (by decide +kernel))) (h 0 (by omega))⟩
  | 1, hq => cases hq; exact ⟨by omega, vk_R.of (hts _ (List.mem_of_getElem? (i := 599) (by decide +kernel))) (h 1 (by omega))⟩
  | 2, hq => cases hq; exact ⟨by omega, vk_R.of (hts _ (List.mem_of_getElem? (i := 736) (by decide +kernel))) (h 2 (by omega))⟩
  | 3, hq => cases hq; exact ⟨by omega, vk_R.of (hts _ (List.mem_of_getElem? (i := 1243) (by decide +kernel))) (h 3 (by omega))⟩
  | 4, hq => cases hq; exact ⟨by omega, vk_R.of (hts _ (List.mem_of_getElem? (i := 1275) (by decide +kernel))) (h 4 (by omega))⟩
  | k + 5, hq => simp [fc_tx] at hq
theorem fc_K0 (hts : ∀ w ∈ lw_tbl, w.before args s = true) (hg : (Jvm.Cond.and given_1 narrow_1).before args s = true) {b L : Nat} {xs : Nat → Int32} (hX : va_X b L xs s s.heap) (hb : b < s.heap.size) (l : Launch) : ∃ E : fc_E, E.1 = l ∧ E.2.2.2.1 = s.heap.size ∧ E.2.2.2.2.1 5 = b ∧ E.2.2.2.2.2.2.1 = L ∧ E.2.2.2.2.2.2.2 = xs ∧ fc_K E s := by
  have hs := flat_of_before _ hg
  have hA : ∀ a : Nat, a < s.heap.size → ¬ s.heap.size ≤ a := fun a h1 h2 => by omega
  obtain ⟨D, tA, hK⟩ := fc_K9 (fun w hw => hts w (List.mem_filter.mp hw).1) (fc_AO0 hts)
  obtain ⟨adK, adV, h1, h2⟩ := fc_S0 hg
  have z1 : va_Z "java/lang/String" "COMPACT_STRINGS" "Z" (.int 1) (fun q => s.heap.size ≤ q) s s.heap := va_Zof (hts _ (List.mem_of_getElem? (i := 556) (by decide +kernel))) (hts _ (List.mem_of_getElem? (i := 119) (by decide +kernel))) (va_eqt (hs _ (by decide +kernel))) hA
  have z2 := va_Zqof (A := fun q => s.heap.size ≤ q) (hts _ (List.mem_of_getElem? (i := 572) (by decide +kernel))) (hts _ (List.mem_of_getElem? (i := 121) (by decide +kernel))) (hs (Cond.isRef (.static "jdk/internal/util/Preconditions" "SIOOBE_FORMATTER" "Ljava/util/function/BiFunction;")) (by decide +kernel)) hA
  have z3 := vx_Zqof (A := fun q => s.heap.size ≤ q) (hts _ (List.mem_of_getElem? (i := 1231) (by decide +kernel))) (hts _ (List.mem_of_getElem? (i := 127) (by decide +kernel))) (hs (Cond.isRef (.static "java/lang/Throwable" "UNASSIGNED_STACK" "[Ljava/lang/StackTraceElement;")) (by decide +kernel)) hA
  have z4 := vx_Zqof (A := fun q => s.heap.size ≤ q) (hts _ (List.mem_of_getElem? (i := 1233) (by decide +kernel))) (hts _ (List.mem_of_getElem? (i := 127) (by decide +kernel))) (hs (Cond.isRef (.static "java/lang/Throwable" "SUPPRESSED_SENTINEL" "Ljava/util/List;")) (by decide +kernel)) hA
  have key : ∀ fm : Nat, (va_Z "jdk/internal/util/Preconditions" "SIOOBE_FORMATTER" "Ljava/util/function/BiFunction;" .null (fun q => s.heap.size ≤ q) s s.heap ∨ va_Z "jdk/internal/util/Preconditions" "SIOOBE_FORMATTER" "Ljava/util/function/BiFunction;" (.ref fm) (fun q => s.heap.size ≤ q) s s.heap) → ∃ E : fc_E, E.1 = l ∧ E.2.2.2.1 = s.heap.size ∧ E.2.2.2.2.1 5 = b ∧ E.2.2.2.2.2.2.1 = L ∧ E.2.2.2.2.2.2.2 = xs ∧ fc_K E s := by
    intro fm hfm
    refine ⟨(l, D, tA, s.heap.size, (fun i => if i < 5 then adK i else if i = 5 then b else fm), adV, L, xs), rfl, rfl, rfl, rfl, rfl, hK, fc_N0 hts, ⟨fun i hi => ?_, fun i j hi hj e => ?_⟩, fun i q hq => ?_, hX, fun h => absurd hb (by have h' : s.heap.size ≤ b := h; omega), z1, hfm, z3, z4, fun w hw => va_tabs (u := s) (fc_Xwc w hw).1 rfl (hts w (fc_X3_in w hw))⟩
    · dsimp only
      rw [if_pos hi]
      exact h1.1 i hi
    · dsimp only at e
      rw [if_pos hi, if_pos hj] at e
      exact h1.2 i j hi hj e
    · obtain ⟨hi, hr⟩ := fc_R0 hts h2 i q hq
      show vk_R _ _ _ (if i < 5 then adK i else if i = 5 then b else fm) s
      rw [if_pos hi]; exact hr
  rcases z2 with h | ⟨fm, h⟩
  · exact key 0 (Or.inl h)
  · exact key fm (Or.inr h)
end NA
