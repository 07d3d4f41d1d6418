/-! ===== Past: two loops; the class itself ===== -/
def p1 : Nat → fc_Sh → fc_Sh
  | 0, sh => sh
  | i + 1, sh => sX7 (p1 i sh ++ [(7, 0)])
def m1 (n A : Nat) : Nat → fc_Mr → fc_Mr
  | 0, mr => mr
  | i + 1, mr => fc_u (kX7 (n + 8 * i + 1) (n + 8 * i) (m1 n A i mr)) A i (some (n + 8 * i))
def p2 : Nat → fc_Sh → fc_Sh
  | 0, sh => sh
  | i + 1, sh => sX6 (sX7 (p2 i sh ++ [(7, 0)]) ++ [(6, 0)])
def m2 (n A B : Nat) : Nat → fc_Mr → fc_Mr
  | 0, mr => mr
  | i + 1, mr => fc_u (kX6 (n + 12 * i + 9) (n + 12 * i + 8) (fc_u (kX7 (n + 12 * i + 1) (n + 12 * i) (m2 n A B i mr)) A i (some (n + 12 * i)))) B i (some (n + 12 * i + 8))
section N4
variable {E : fc_E} {d n q A B : Nat} {tot : Nat × Nat} {shF sh : fc_Sh} {mi : fc_Mi} {ml : fc_Ml} {mr : fc_Mr} {Q : fc_Q} {c0 c1 : Nat}
theorem p1_len (h : sh.length = n) : ∀ i, (p1 i sh).length = n + 8 * i
  | 0 => h
  | i + 1 => by
    have h2 := lX7 (fc_ln (c := (7, 0)) (p1_len h i))
    show (sX7 (p1 i sh ++ [(7, 0)])).length = _
    rw [h2]; omega
theorem p1_at {c : Nat × Nat} (h : sh[q]? = some c) : ∀ i, (p1 i sh)[q]? = some c
  | 0 => h
  | i + 1 => aX7 (fc_sha (p1_at h i))
theorem kX7_off {x : Nat} (h : x ≠ q) : kX7 n q mr x = mr x := by unfold kX7; simp only [fc_u_off _ _ _ h]
theorem kX6_off {x : Nat} (h : x ≠ q) : kX6 n q mr x = mr x := by unfold kX6; simp only [fc_u_off _ _ _ h]
theorem m1_off {x : Nat} (hx : x < n) (hA : x ≠ A) : ∀ i, m1 n A i mr x = mr x
  | 0 => rfl
  | i + 1 => by
    rw [m1, fc_u_off _ _ _ hA, kX7_off (by omega)]
    exact m1_off hx hA i
theorem m1_f (hA : A < n) (hf : fc_f0 n mi ml mr) : ∀ i, fc_f0 (n + 8 * i) mi ml (m1 n A i mr)
  | 0 => hf
  | i + 1 => by
    have h := fX7 (q := n + 8 * i) (fc_f0.s (m1_f hA hf i)) (by omega)
    have h2 := fc_f0.r (q := A) (j := i) (x := some (n + 8 * i)) h (by omega)
    exact h2.mono (by omega)
theorem p2_len (h : sh.length = n) : ∀ i, (p2 i sh).length = n + 12 * i
  | 0 => h
  | i + 1 => by
    have h2 := lX6 (fc_ln (c := (6, 0)) (lX7 (fc_ln (c := (7, 0)) (p2_len h i))))
    show (sX6 (sX7 (p2 i sh ++ [(7, 0)]) ++ [(6, 0)])).length = _
    rw [h2]; omega
theorem p2_at {c : Nat × Nat} (h : sh[q]? = some c) : ∀ i, (p2 i sh)[q]? = some c
  | 0 => h
  | i + 1 => aX6 (fc_sha (aX7 (fc_sha (p2_at h i))))
theorem m2_off {x : Nat} (hx : x < n) (hA : x ≠ A) (hB : x ≠ B) : ∀ i, m2 n A B i mr x = mr x
  | 0 => rfl
  | i + 1 => by
    rw [m2, fc_u_off _ _ _ hB, kX6_off (by omega), fc_u_off _ _ _ hA, kX7_off (by omega)]
    exact m2_off hx hA hB i
theorem m2_f (hA : A < n) (hB : B < n) (hf : fc_f0 n mi ml mr) : ∀ i, fc_f0 (n + 12 * i) mi ml (m2 n A B i mr)
  | 0 => hf
  | i + 1 => by
    have h := fX7 (q := n + 12 * i) (fc_f0.s (m2_f hA hB hf i)) (by omega)
    have h2 := fc_f0.r (q := A) (j := i) (x := some (n + 12 * i)) h (by omega)
    have h3 := fX6 (q := n + 12 * i + 8) (fc_f0.s h2) (by omega)
    have h4 := fc_f0.r (q := B) (j := i) (x := some (n + 12 * i + 8)) h3 (by omega)
    exact h4.mono (by omega)
theorem l_X4a (hA : sh[A]? = some (24, 16)) (hq : sh[q]? = some (4, 0)) (hqA : q ≠ A) (hn : sh.length = n) (hf : fc_f0 n mi ml mr) (hr : mr q 0 = some A) (h1 : c0 + 128 ≤ tot.1) (h2 : c1 + 736 ≤ tot.2) (K : fc_TN E mX4_init (d + 1) tot shF true (c0 + 8 * 16, c1 + 46 * 16) (p1 16 sh) 63 [some (.ref q), some (.int (nI 16))] [] mi ml (m1 n A 16 mr) Q) :
    ∀ j i, i + j = 16 → fc_TN E mX4_init (d + 1) tot shF true (c0 + 8 * i, c1 + 46 * i) (p1 i sh) 38 [some (.ref q), some (.int (nI i))] [] mi ml (m1 n A i mr) Q := by
  have hAn : A < n := by rw [← hn]; exact fc_shl hA
  have hqn : q < n := by rw [← hn]; exact fc_shl hq
  intro j
  induction j with
  | zero =>
    intro i hi
    have e : i = 16 := by omega
    subst e
    refine fc_n_iload_n (i := 1) dX4_init_38 rfl rfl ?_
    refine fc_n_bipush (v := 16) dX4_init_39 rfl ?_
    refine fc_n_icmp_ge (tgt := 63) dX4_init_41 (by decide) (fun _ => K) (fun h => absurd (nI_le (a := 16) (b := 16) (by omega) (by omega)) h)
  | succ j ih =>
    intro i hi
    have l0 := p1_len hn i
    have f0 := m1_f hAn hf i
    refine fc_n_iload_n (i := 1) dX4_init_38 rfl rfl ?_
    refine fc_n_bipush (v := 16) dX4_init_39 rfl ?_
    refine fc_n_icmp_ge (tgt := 63) dX4_init_41 (by decide) (fun h => absurd h (nI_ge (a := i) (b := 16) (by omega) (by omega))) (fun _ => ?_)
    refine fc_n_aload_n (i := 0) dX4_init_44 rfl rfl ?_
    refine fc_n_get (ci := 4) (j := 0) (t := 2) (r := (RX4, TX4, 6)) (v := .ref A) dX4_init_45 rfl (by decide) (by decide) (fc_G_of 311 (by decide +kernel) rfl) rfl (p1_at hq i) ?_ ?_
    · show va_rf ((m1 n A i mr q 0).map (E.2.2.2.1 + ·)) = .ref (E.2.2.2.1 + A)
      rw [m1_off hqn hqA, hr]; rfl
    refine fc_n_iload_n (i := 1) dX4_init_48 rfl rfl ?_
    refine nw_new (cs' := (c0 + 8 * i + 1, c1 + 46 * i + 9)) dX4_init_49 nkX7 (fc_G_of 283 (by decide +kernel) rfl) l0 f0 rfl (by dsimp only; omega) (by dsimp only; omega) ?_
    refine fc_n_dup dX4_init_52 rfl ?_
    refine nw_ctorN (z := mX7_init) (cs' := (c0 + 8 * (i + 1), c1 + 46 * (i + 1))) dX4_init_53 (n_X7 (fc_sn l0) (fc_ln l0) (fc_f0.s f0)) kX7_i.1 rfl rfl kX7_i.2 (by decide +kernel) (Nat.le_of_ble_eq_true rfl) (Prod.ext (by first | rfl | (dsimp only; omega)) (by first | rfl | (dsimp only; omega))) (by dsimp only; omega) (by dsimp only; omega) (lX7 (fc_ln l0)) (fc_ln l0) (by omega) ?_
    rintro _ _ _ _ ⟨rfl, rfl, rfl, rfl⟩
    refine fc_n_aast (κ := 24) (t0 := 4) (ci := 7) (r := (RX7, TX7, 9)) dX4_init_56 (fun _ _ _ => rfl) rfl (aX7 (fc_sha (p1_at hA i))) rfl (by decide) (aX7 (fc_sn l0)) (vp_in_nI (by omega) (by omega)) ?_
    rw [nI_clamp (by omega)]
    refine fc_n_iinc (i := 1) (v := nI (i + 1)) dX4_init_57 rfl (fc_inc i) (by decide) ?_
    exact fc_n_goto (tgt := 38) dX4_init_60 (by decide) (ih (i + 1) (by omega))
theorem l_X4b (hA : sh[A]? = some (24, 4)) (hB : sh[B]? = some (25, 4)) (hq : sh[q]? = some (4, 0)) (hqA : q ≠ A) (hqB : q ≠ B) (hn : sh.length = n) (hf : fc_f0 n mi ml mr) (hr : mr q 1 = some A) (hs : mr q 2 = some B) (h1 : c0 + 48 ≤ tot.1) (h2 : c1 + 296 ≤ tot.2) (K : fc_TN E mX4_init (d + 1) tot shF true (c0 + 12 * 4, c1 + 74 * 4) (p2 4 sh) 102 [some (.ref q), some (.int (nI 4))] [] mi ml (m2 n A B 4 mr) Q) :
    ∀ j i, i + j = 4 → fc_TN E mX4_init (d + 1) tot shF true (c0 + 12 * i, c1 + 74 * i) (p2 i sh) 65 [some (.ref q), some (.int (nI i))] [] mi ml (m2 n A B i mr) Q := by
  have hAn : A < n := by rw [← hn]; exact fc_shl hA
  have hBn : B < n := by rw [← hn]; exact fc_shl hB
  have hqn : q < n := by rw [← hn]; exact fc_shl hq
  intro j
  induction j with
  | zero =>
    intro i hi
    have e : i = 4 := by omega
    subst e
    refine fc_n_iload_n (i := 1) dX4_init_65 rfl rfl ?_
    refine fc_n_iconst (v := 4) dX4_init_66 rfl ?_
    refine fc_n_icmp_ge (tgt := 102) dX4_init_67 (by decide) (fun _ => K) (fun h => absurd (nI_le (a := 4) (b := 4) (by omega) (by omega)) h)
  | succ j ih =>
    intro i hi
    have l0 := p2_len hn i
    have f0 := m2_f hAn hBn hf i
    refine fc_n_iload_n (i := 1) dX4_init_65 rfl rfl ?_
    refine fc_n_iconst (v := 4) dX4_init_66 rfl ?_
    refine fc_n_icmp_ge (tgt := 102) dX4_init_67 (by decide) (fun h => absurd h (nI_ge (a := i) (b := 4) (by omega) (by omega))) (fun _ => ?_)
    refine fc_n_aload_n (i := 0) dX4_init_70 rfl rfl ?_
    refine fc_n_get (ci := 4) (j := 1) (t := 2) (r := (RX4, TX4, 6)) (v := .ref A) dX4_init_71 rfl (by decide) (by decide) (fc_G_of 312 (by decide +kernel) rfl) rfl (p2_at hq i) ?_ ?_
    · show va_rf ((m2 n A B i mr q 1).map (E.2.2.2.1 + ·)) = .ref (E.2.2.2.1 + A)
      rw [m2_off hqn hqA hqB, hr]; rfl
    refine fc_n_iload_n (i := 1) dX4_init_74 rfl rfl ?_
    refine nw_new (cs' := (c0 + 12 * i + 1, c1 + 74 * i + 9)) dX4_init_75 nkX7 (fc_G_of 283 (by decide +kernel) rfl) l0 f0 rfl (by dsimp only; omega) (by dsimp only; omega) ?_
    refine fc_n_dup dX4_init_78 rfl ?_
    refine nw_ctorN (z := mX7_init) (cs' := (c0 + 12 * i + 8, c1 + 74 * i + 46)) dX4_init_79 (n_X7 (fc_sn l0) (fc_ln l0) (fc_f0.s f0)) kX7_i.1 rfl rfl kX7_i.2 (by decide +kernel) (Nat.le_of_ble_eq_true rfl) (Prod.ext (by first | rfl | (dsimp only; omega)) (by first | rfl | (dsimp only; omega))) (by dsimp only; omega) (by dsimp only; omega) (lX7 (fc_ln l0)) (fc_ln l0) (by omega) ?_
    rintro _ _ _ _ ⟨rfl, rfl, rfl, rfl⟩
    refine fc_n_aast (κ := 24) (t0 := 4) (ci := 7) (r := (RX7, TX7, 9)) dX4_init_82 (fun _ _ _ => rfl) rfl (aX7 (fc_sha (p2_at hA i))) rfl (by decide) (aX7 (fc_sn l0)) (vp_in_nI (by omega) (by omega)) ?_
    rw [nI_clamp (by omega)]
    have f1 := fc_f0.r (q := A) (j := i) (x := some (n + 12 * i)) (fX7 (q := n + 12 * i) (fc_f0.s f0) (by omega)) (by omega)
    have l1 := lX7 (fc_ln (c := (7, 0)) l0)
    refine fc_n_aload_n (i := 0) dX4_init_83 rfl rfl ?_
    refine fc_n_get (ci := 4) (j := 2) (t := 2) (r := (RX4, TX4, 6)) (v := .ref B) dX4_init_84 rfl (by decide) (by decide) (fc_G_of 313 (by decide +kernel) rfl) rfl (aX7 (fc_sha (p2_at hq i))) ?_ ?_
    · show va_rf ((fc_u (kX7 (n + 12 * i + 1) (n + 12 * i) (m2 n A B i mr)) A i (some (n + 12 * i)) q 2).map (E.2.2.2.1 + ·)) = .ref (E.2.2.2.1 + B)
      rw [fc_u_off _ _ _ hqA, kX7_off (by omega), m2_off hqn hqA hqB, hs]; rfl
    refine fc_n_iload_n (i := 1) dX4_init_87 rfl rfl ?_
    refine nw_new (cs' := (c0 + 12 * i + 9, c1 + 74 * i + 50)) dX4_init_88 nkX6 (fc_G_of 285 (by decide +kernel) rfl) l1 f1 rfl (by dsimp only; omega) (by dsimp only; omega) ?_
    refine fc_n_dup dX4_init_91 rfl ?_
    refine nw_ctorN (z := mX6_init) (cs' := (c0 + 12 * (i + 1), c1 + 74 * (i + 1))) dX4_init_92 (n_X6 (fc_sn l1) (fc_ln l1) (fc_f0.s f1)) kX6_i.1 rfl rfl kX6_i.2 (by decide +kernel) (Nat.le_of_ble_eq_true rfl) (Prod.ext (by first | rfl | (dsimp only; omega)) (by first | rfl | (dsimp only; omega))) (by dsimp only; omega) (by dsimp only; omega) (lX6 (fc_ln l1)) (fc_ln l1) (by omega) ?_
    rintro _ _ _ _ ⟨rfl, rfl, rfl, rfl⟩
    refine fc_n_aast (κ := 25) (t0 := 5) (ci := 6) (r := (RX6, TX6, 4)) dX4_init_95 (fun _ _ _ => rfl) rfl (aX6 (fc_sha (aX7 (fc_sha (p2_at hB i))))) rfl (by decide) (aX6 (fc_sn l1)) (vp_in_nI (by omega) (by omega)) ?_
    rw [nI_clamp (by omega)]
    refine fc_n_iinc (i := 1) (v := nI (i + 1)) dX4_init_96 rfl (fc_inc i) (by decide) ?_
    exact fc_n_goto (tgt := 65) dX4_init_99 (by decide) (ih (i + 1) (by omega))
end N4
abbrev sX4 (sh : fc_Sh) : fc_Sh := p2 4 (p1 16 (sh ++ [(24, 16)] ++ [(24, 4)] ++ [(25, 4)] ++ [(22, 4)]))
def kX4a (n q : Nat) (mr : fc_Mr) : fc_Mr := (fc_u (fc_u (fc_u (fc_u mr q 0 (some (n))) q 1 (some (n + 1))) q 2 (some (n + 2))) q 3 (some (n + 3)))
def kX4 (n q : Nat) (mr : fc_Mr) : fc_Mr := m2 (n + 132) (n + 1) (n + 2) 4 (m1 (n + 4) n 16 (kX4a n q mr))
theorem lX4 {sh : fc_Sh} {n : Nat} (h : sh.length = n) : (sX4 sh).length = n + 180 := by
  have h1 := p2_len (p1_len (fc_ln (c := (22, 4)) (fc_ln (c := (25, 4)) (fc_ln (c := (24, 4)) (fc_ln (c := (24, 16)) h)))) 16) 4
  exact h1
theorem aX4 {sh : fc_Sh} {q : Nat} {c : Nat × Nat} (h : sh[q]? = some c) : (sX4 sh)[q]? = some c := p2_at (p1_at (fc_sha (fc_sha (fc_sha (fc_sha h)))) 16) 4
theorem fX4 {n q : Nat} {mi : fc_Mi} {ml : fc_Ml} {mr : fc_Mr} (hf : fc_f0 n mi ml mr) (hqn : q < n) : fc_f0 (n + 180) mi ml (kX4 n q mr) := by
  have hf2 := fc_f0.s hf
  have hf4 := fc_f0.r (q := q) (j := 0) (x := some (n)) hf2 (fc_o1 (k := 1) hqn)
  have hf6 := fc_f0.s hf4
  have hf8 := fc_f0.r (q := q) (j := 1) (x := some (n + 1)) hf6 (fc_o1 (k := 2) hqn)
  have hf10 := fc_f0.s hf8
  have hf12 := fc_f0.r (q := q) (j := 2) (x := some (n + 2)) hf10 (fc_o1 (k := 3) hqn)
  have hf14 := fc_f0.s hf12
  have hf16 := fc_f0.r (q := q) (j := 3) (x := some (n + 3)) hf14 (fc_o1 (k := 4) hqn)
  exact m2_f (n := n + 132) (by omega) (by omega) (m1_f (n := n + 4) (by omega) hf16 16) 4
theorem n_X4 {E : fc_E} {d n q : Nat} {sh : fc_Sh} {mi : fc_Mi} {ml : fc_Ml} {mr : fc_Mr} (hq : sh[q]? = some (4, 0)) (hn : sh.length = n) (hf : fc_f0 n mi ml mr) : fc_RN E mX4_init (d + 1) 180 1060 sh (sX4 sh) [.ref q] mi ml mr (fun v a b e => v = none ∧ a = mi ∧ b = ml ∧ e = kX4 n q mr) := by
  have hqn : q < n := by rw [← hn]; exact fc_shl hq
  have h0n : 0 < n := Nat.lt_of_le_of_lt (Nat.zero_le q) hqn
  refine fc_metN rfl (Nat.le_of_ble_eq_true rfl) ?_
  refine fc_n_aload_n (i := 0) dX4_init_0 rfl rfl ?_
  refine fc_n_oinit dX4_init_1 (fc_G_of 282 (by decide +kernel) rfl) (Nat.le_of_ble_eq_true rfl) ?_
  refine fc_n_aload_n (i := 0) dX4_init_4 rfl rfl ?_
  refine fc_n_bipush (v := 16) dX4_init_5 rfl ?_
  refine nw_anew (κ := 24) (t0 := 4) (N := 16) (cs' := (1, 16)) dX4_init_7 (fun _ _ _ => rfl) rfl (fun _ h => h.1) (fc_G_of 283 (by decide +kernel) rfl) rfl (by decide) hn hf rfl (by decide) (by decide) ?_
  have hn1 := fc_ln (c := (24, 16)) hn
  have hf2 := fc_f0.s hf
  have hq3 := fc_sha (l := [(24, 16)]) hq
  refine fc_n_putF (ci := 4) (j := 0) (r := (RX4, TX4, 6)) (ty := (.array (.object "FirstChimney$State"))) dX4_init_10 rfl (by decide) (by decide) (fc_G_of 311 (by decide +kernel) rfl) rfl hq3 rfl rfl rfl (by decide +kernel) rfl ?_
  have hf4 := fc_f0.r (q := q) (j := 0) (x := some (n)) hf2 (fc_o1 (k := 1) hqn)
  refine fc_n_aload_n (i := 0) dX4_init_13 rfl rfl ?_
  refine fc_n_iconst (v := 4) dX4_init_14 rfl ?_
  refine nw_anew (κ := 24) (t0 := 4) (N := 4) (cs' := (2, 20)) dX4_init_15 (fun _ _ _ => rfl) rfl (fun _ h => h.1) (fc_G_of 283 (by decide +kernel) rfl) rfl (by decide) hn1 hf4 rfl (by decide) (by decide) ?_
  have hn5 := fc_ln (c := (24, 4)) hn1
  have hf6 := fc_f0.s hf4
  have hq7 := fc_sha (l := [(24, 4)]) hq3
  refine fc_n_putF (ci := 4) (j := 1) (r := (RX4, TX4, 6)) (ty := (.array (.object "FirstChimney$State"))) dX4_init_18 rfl (by decide) (by decide) (fc_G_of 312 (by decide +kernel) rfl) rfl hq7 rfl rfl rfl (by decide +kernel) rfl ?_
  have hf8 := fc_f0.r (q := q) (j := 1) (x := some (n + 1)) hf6 (fc_o1 (k := 2) hqn)
  refine fc_n_aload_n (i := 0) dX4_init_21 rfl rfl ?_
  refine fc_n_iconst (v := 4) dX4_init_22 rfl ?_
  refine nw_anew (κ := 25) (t0 := 5) (N := 4) (cs' := (3, 24)) dX4_init_23 (fun _ _ _ => rfl) rfl (fun _ h => h.2.1) (fc_G_of 285 (by decide +kernel) rfl) rfl (by decide) hn5 hf8 rfl (by decide) (by decide) ?_
  have hn9 := fc_ln (c := (25, 4)) hn5
  have hf10 := fc_f0.s hf8
  have hq11 := fc_sha (l := [(25, 4)]) hq7
  refine fc_n_putF (ci := 4) (j := 2) (r := (RX4, TX4, 6)) (ty := (.array (.object "FirstChimney$Seen"))) dX4_init_26 rfl (by decide) (by decide) (fc_G_of 313 (by decide +kernel) rfl) rfl hq11 rfl rfl rfl (by decide +kernel) rfl ?_
  have hf12 := fc_f0.r (q := q) (j := 2) (x := some (n + 2)) hf10 (fc_o1 (k := 3) hqn)
  refine fc_n_aload_n (i := 0) dX4_init_29 rfl rfl ?_
  refine fc_n_iconst (v := 4) dX4_init_30 rfl ?_
  refine nw_Z (N := 4) (cs' := (4, 28)) dX4_init_31 rfl (by decide) hn9 hf12 rfl (by decide) (by decide) ?_
  have hn13 := fc_ln (c := (22, 4)) hn9
  have hf14 := fc_f0.s hf12
  have hq15 := fc_sha (l := [(22, 4)]) hq11
  refine fc_n_putF (ci := 4) (j := 3) (r := (RX4, TX4, 6)) (ty := (.array .boolean)) dX4_init_33 rfl (by decide) (by decide) (fc_G_of 314 (by decide +kernel) rfl) rfl hq15 rfl rfl rfl (by decide +kernel) rfl ?_
  have hf16 := fc_f0.r (q := q) (j := 3) (x := some (n + 3)) hf14 (fc_o1 (k := 4) hqn)
  have hA : (sh ++ [(24, 16)] ++ [(24, 4)] ++ [(25, 4)] ++ [(22, 4)])[n]? = some (24, 16) := fc_sha (fc_sha (fc_sha (fc_sn hn)))
  have hB : (sh ++ [(24, 16)] ++ [(24, 4)] ++ [(25, 4)] ++ [(22, 4)])[n + 1]? = some (24, 4) := fc_sha (fc_sha (fc_sn (fc_ln hn)))
  have hC : (sh ++ [(24, 16)] ++ [(24, 4)] ++ [(25, 4)] ++ [(22, 4)])[n + 2]? = some (25, 4) := fc_sha (fc_sn (fc_ln (fc_ln hn)))
  have r0 : kX4a n q mr q 0 = some n := by unfold kX4a; simp [fc_u]
  have r1 : kX4a n q mr q 1 = some (n + 1) := by unfold kX4a; simp [fc_u]
  have r2 : kX4a n q mr q 2 = some (n + 2) := by unfold kX4a; simp [fc_u]
  refine fc_n_iconst (v := 0) dX4_init_36 rfl ?_
  refine fc_n_istore_n (i := 1) dX4_init_37 rfl (by decide) ?_
  refine l_X4a (n := n + 4) (mr := kX4a n q mr) (c0 := 4) (c1 := 28) hA hq15 (by omega) hn13 hf16 r0 (by decide) (by decide) ?_ 16 0 rfl
  refine fc_n_iconst (v := 0) dX4_init_63 rfl ?_
  refine fc_n_istore_n (i := 1) dX4_init_64 rfl (by decide) ?_
  refine l_X4b (n := n + 132) (mr := m1 (n + 4) n 16 (kX4a n q mr)) (c0 := 132) (c1 := 764) (p1_at hB 16) (p1_at hC 16) (p1_at hq15 16) (by omega) (by omega) (p1_len hn13 16) (m1_f (by omega) hf16 16) (by rw [m1_off (by omega) (by omega)]; exact r1) (by rw [m1_off (by omega) (by omega)]; exact r2) (by decide) (by decide) ?_ 4 0 rfl
  exact fc_n_ret (v := none) ⟨dX4_init_102, rfl⟩ ⟨rfl, rfl, rfl, rfl⟩ (by decide) (by decide)
