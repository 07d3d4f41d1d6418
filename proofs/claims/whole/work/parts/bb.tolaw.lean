/-! ===== from the entry to the loop ===== -/
/-- the loop, from its first step: it ends with 1 -/
def fc_loop (d : Nat) : Prop := ∀ (E : fc_E) (a m1 : fc_Mi), saa0 mi0 m1 → rbg 0 0 (fun _ _ => 0) m1 a → E.1.stackTraces = false → E.2.2.2.2.2.2.1 ≤ 3584 → fc_TN E mL_law (d + 4) (601024, 7293034) fc_sh true (273, 18371) fc_sh 20 [some (.float 5), some (.ref 0), some (.ref 252), some (.ref 272), none, none, none] [] a ml0 mr0 (fun v _ _ _ => v = some (.int 1))
theorem fc_start {d : Nat} (hd : d ≤ 100) (hloop : fc_loop d) {p : Program} {e : Env} {s : State} {m : MethodId} {below : List Frame} {meth : Method} {c : Code} (l : Launch) {b L : Nat} {xs : Nat → Int32} {Qf : State → Prop} (hL : L ≤ 3584) (hfl : l.stackTraces = false)
    (hx : p.tables.exec = Jvm.exec) (hb : c.code = code) (hr : meth.sig.returnType = ret) (hml : c.maxLocals = 7) (hown : s.vm.findClass "FirstChimneyLaw" = some m.cls) (hts : ∀ w ∈ lw_tbl, w.before #[Value.ref b] s = true) (hX : va_X b L xs s s.heap) (hbl : b < s.heap.size) (hlk : meth.locks = false) (hg : (Jvm.Cond.and given_1 narrow_1).before #[Value.ref b] s = true)
    (fin : ∀ (H : Heap) (ls : Array Slot) (pc : Nat), decode code pc = .ok (.ireturn, 1) → W p l e room_1 s m #[Value.ref b] below meth c H [] 601024 7293034 Qf (F0 m pc ls [.int 1])) :
    W p l e room_1 s m #[Value.ref b] below meth c s.heap [] 0 0 Qf (entryFrame m ([Value.ref b] : List Value).toArray 7) := by
  obtain ⟨E, hE0, hE1, hE2, hE3, hE4, hK⟩ := fc_K0 hts hg hX hbl l
  subst hE0
  have hl := lv_entry [Value.ref b] (n := 7) (Nat.le_of_ble_eq_true rfl)
  rw [lg_entry_eq]
  refine l_lawA (E := E) (d := d) (tot := (601024, 7293034)) (shF := fc_sh) (by decide) (by decide) (fun a m1 g1 g2 => hloop E a m1 g1 g2 hfl (by rw [hE3]; exact hL)) p e s m #[Value.ref b] below meth c room_1 Qf ⟨hx, hb, hr, hlk, hown, hml, fun w hw => hts w (List.mem_filter.mp hw).1, hK⟩ ⟨by show d + 4 + 1 ≤ 2048; omega, by show 64 * (d + 4 + 1) ≤ 84000; omega, Nat.zero_le _, Nat.zero_le _⟩
    ⟨⟨Nat.le_refl _, Nat.le_refl _⟩, fun h => absurd h (by decide), fc_AO0 hts, fun _ => ⟨by rw [hE1]; rfl, Or.inr rfl⟩⟩ ?_ s.heap [] _ (fun k q hq => by simp [fc_ws] at hq) va_S.rf ⟨hl.1, hl.2.1, fun i v hi => ?_⟩
  · intro v mi ml mr H locs ls pc hq hP hS hrt
    subst hq
    refine va_forget (fun q hq => ?_) (fin H ls pc hrt.1)
    have h := hS.2.2 q hq
    unfold fc_A at h
    rw [hE1] at h
    exact h
  · match i, hi with
    | 0, hi =>
      cases hi
      have h := hl.2.2 (0, Value.ref b) (by simp [lv_args])
      show _ = some (Slot.val (.ref (E.2.2.2.2.1 5)))
      rw [hE2]
      exact h
    | 1, hi => cases hi
    | 2, hi => cases hi
    | 3, hi => cases hi
    | 4, hi => cases hi
    | 5, hi => cases hi
    | 6, hi => cases hi
    | i + 7, hi => simp at hi
