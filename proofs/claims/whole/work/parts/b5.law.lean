/-! ===== the class is made ===== -/
abbrev sX10 (sh : fc_Sh) : fc_Sh := sX5 (sX5 (sX0 (sX0 (sX6 (sX4 (sX7 (sX7 (sX9 (sX1 (sX8 (sh ++ [(8, 0)]) ++ [(1, 0)]) ++ [(9, 0)]) ++ [(7, 0)]) ++ [(7, 0)]) ++ [(4, 0)]) ++ [(6, 0)]) ++ [(0, 0)]) ++ [(0, 0)]) ++ [(5, 0)]) ++ [(5, 0)])
def kX10 (n q : Nat) (mr : fc_Mr) : fc_Mr := (fc_u (kX5 (n + 248) (n + 247) (fc_u (kX5 (n + 244) (n + 243) (fc_u (kX0 (n + 231) (n + 230) (fc_u (kX0 (n + 218) (n + 217) (fc_u (kX6 (n + 214) (n + 213) (fc_u (kX4 (n + 33) (n + 32) (fc_u (kX7 (n + 25) (n + 24) (fc_u (kX7 (n + 17) (n + 16) (fc_u (kX9 (n + 6) (n + 5) (fc_u (kX1 (n + 3) (n + 2) (fc_u (kX8 (n + 1) (n) mr) q 0 (some (n)))) q 1 (some (n + 2)))) q 2 (some (n + 5)))) q 3 (some (n + 16)))) q 4 (some (n + 24)))) q 5 (some (n + 32)))) q 6 (some (n + 213)))) q 7 (some (n + 217)))) q 8 (some (n + 230)))) q 9 (some (n + 243)))) q 10 (some (n + 247)))
def iX10 (n q : Nat) (mi : fc_Mi) : fc_Mi := (iX0 (n + 231) (n + 230) (iX0 (n + 218) (n + 217) mi))
theorem lX10 {sh : fc_Sh} {n : Nat} (h : sh.length = n) : (sX10 sh).length = n + 251 := (lX5 (fc_ln (lX5 (fc_ln (lX0 (fc_ln (lX0 (fc_ln (lX6 (fc_ln (lX4 (fc_ln (lX7 (fc_ln (lX7 (fc_ln (lX9 (fc_ln (lX1 (fc_ln (lX8 (fc_ln h))))))))))))))))))))))
theorem aX10 {sh : fc_Sh} {q : Nat} {c : Nat × Nat} (h : sh[q]? = some c) : (sX10 sh)[q]? = some c := (aX5 (fc_sha (aX5 (fc_sha (aX0 (fc_sha (aX0 (fc_sha (aX6 (fc_sha (aX4 (fc_sha (aX7 (fc_sha (aX7 (fc_sha (aX9 (fc_sha (aX1 (fc_sha (aX8 (fc_sha h))))))))))))))))))))))
theorem fX10 {n q : Nat} {mi : fc_Mi} {ml : fc_Ml} {mr : fc_Mr} (hf : fc_f0 n mi ml mr) (hqn : q < n) : fc_f0 (n + 251) (iX10 n q mi) ml (kX10 n q mr) := by
  have h0n : 0 < n := Nat.lt_of_le_of_lt (Nat.zero_le q) hqn
  have hf3 := fc_f0.s hf
  have hf5 := fX8 (q := n) hf3 (Nat.lt_succ_self _)
  have hf8 := fc_f0.r (q := q) (j := 0) (x := some (n)) hf5 (fc_o1 (k := 2) hqn)
  have hf11 := fc_f0.s hf8
  have hf13 := fX1 (q := n + 2) hf11 (Nat.lt_succ_self _)
  have hf16 := fc_f0.r (q := q) (j := 1) (x := some (n + 2)) hf13 (fc_o1 (k := 5) hqn)
  have hf19 := fc_f0.s hf16
  have hf21 := fX9 (q := n + 5) hf19 (Nat.lt_succ_self _)
  have hf24 := fc_f0.r (q := q) (j := 2) (x := some (n + 5)) hf21 (fc_o1 (k := 16) hqn)
  have hf27 := fc_f0.s hf24
  have hf29 := fX7 (q := n + 16) hf27 (Nat.lt_succ_self _)
  have hf32 := fc_f0.r (q := q) (j := 3) (x := some (n + 16)) hf29 (fc_o1 (k := 24) hqn)
  have hf35 := fc_f0.s hf32
  have hf37 := fX7 (q := n + 24) hf35 (Nat.lt_succ_self _)
  have hf40 := fc_f0.r (q := q) (j := 4) (x := some (n + 24)) hf37 (fc_o1 (k := 32) hqn)
  have hf43 := fc_f0.s hf40
  have hf45 := fX4 (q := n + 32) hf43 (Nat.lt_succ_self _)
  have hf48 := fc_f0.r (q := q) (j := 5) (x := some (n + 32)) hf45 (fc_o1 (k := 213) hqn)
  have hf51 := fc_f0.s hf48
  have hf53 := fX6 (q := n + 213) hf51 (Nat.lt_succ_self _)
  have hf56 := fc_f0.r (q := q) (j := 6) (x := some (n + 213)) hf53 (fc_o1 (k := 217) hqn)
  have hf59 := fc_f0.s hf56
  have hf61 := fX0 (q := n + 217) hf59 (Nat.lt_succ_self _)
  have hf64 := fc_f0.r (q := q) (j := 7) (x := some (n + 217)) hf61 (fc_o1 (k := 230) hqn)
  have hf67 := fc_f0.s hf64
  have hf69 := fX0 (q := n + 230) hf67 (Nat.lt_succ_self _)
  have hf72 := fc_f0.r (q := q) (j := 8) (x := some (n + 230)) hf69 (fc_o1 (k := 243) hqn)
  have hf75 := fc_f0.s hf72
  have hf77 := fX5 (q := n + 243) hf75 (Nat.lt_succ_self _)
  have hf80 := fc_f0.r (q := q) (j := 9) (x := some (n + 243)) hf77 (fc_o1 (k := 247) hqn)
  have hf83 := fc_f0.s hf80
  have hf85 := fX5 (q := n + 247) hf83 (Nat.lt_succ_self _)
  have hf88 := fc_f0.r (q := q) (j := 10) (x := some (n + 247)) hf85 (fc_o1 (k := 251) hqn)
  exact hf88
theorem n_X10 {E : fc_E} {d n q : Nat} {sh : fc_Sh} {mi : fc_Mi} {ml : fc_Ml} {mr : fc_Mr} (hq : sh[q]? = some (10, 0)) (hn : sh.length = n) (hf : fc_f0 n mi ml mr) : fc_RN E mX10_init (d + 2) 251 5096 sh (sX10 sh) [.ref q] mi ml mr (fun v a b e => v = none ∧ a = (iX10 n q mi) ∧ b = ml ∧ e = kX10 n q mr) := by
  have hqn : q < n := by rw [← hn]; exact fc_shl hq
  have h0n : 0 < n := Nat.lt_of_le_of_lt (Nat.zero_le q) hqn
  refine fc_metN rfl (Nat.le_of_ble_eq_true rfl) ?_
  refine fc_n_aload_n (i := 0) dX10_init_0 rfl rfl ?_
  refine fc_n_oinit dX10_init_1 (fc_G_of 136 (by decide +kernel) rfl) (Nat.le_of_ble_eq_true rfl) ?_
  refine fc_n_aload_n (i := 0) dX10_init_4 rfl rfl ?_
  refine nw_new (cs' := (1, 8)) dX10_init_5 nkX8 (fc_G_of 139 (by decide +kernel) rfl) hn hf rfl (by decide) (by decide) ?_
  have hw1 := fc_sn (c := (8, 0)) hn
  have hn2 := fc_ln (c := (8, 0)) hn
  have hf3 := fc_f0.s hf
  have hq4 := fc_sha (l := [(8, 0)]) hq
  refine fc_n_dup dX10_init_8 rfl ?_
  refine nw_ctorN (z := mX8_init) (cs' := (2, 1008)) dX10_init_9 (n_X8 hw1 hn2 hf3) kX8_i.1 rfl rfl kX8_i.2 (by decide +kernel) (Nat.le_of_ble_eq_true rfl) rfl (by decide) (by decide) (lX8 hn2) hn2 (fc_o1 (k := 1) h0n) ?_
  rintro _ _ _ _ ⟨rfl, rfl, rfl, rfl⟩
  have hf5 := fX8 (q := n) hf3 (Nat.lt_succ_self _)
  have hn6 := lX8 hn2
  have hq7 := aX8 hq4
  refine fc_n_putF (ci := 10) (j := 0) (r := (RX10, TX10, 12)) (ty := (.object "FirstChimney$Tape")) dX10_init_12 rfl (by decide) (by decide) (fc_G_of 466 (by decide +kernel) rfl) rfl hq7 rfl rfl rfl (by decide +kernel) rfl ?_
  have hf8 := fc_f0.r (q := q) (j := 0) (x := some (n)) hf5 (fc_o1 (k := 2) hqn)
  refine fc_n_aload_n (i := 0) dX10_init_15 rfl rfl ?_
  refine nw_new (cs' := (3, 1011)) dX10_init_16 nkX1 (fc_G_of 180 (by decide +kernel) rfl) hn6 hf8 rfl (by decide) (by decide) ?_
  have hw9 := fc_sn (c := (1, 0)) hn6
  have hn10 := fc_ln (c := (1, 0)) hn6
  have hf11 := fc_f0.s hf8
  have hq12 := fc_sha (l := [(1, 0)]) hq7
  refine fc_n_dup dX10_init_19 rfl ?_
  refine nw_ctorN (z := mX1_init) (cs' := (5, 1079)) dX10_init_20 (n_X1 hw9 hn10 hf11) kX1_i.1 rfl rfl kX1_i.2 (by decide +kernel) (Nat.le_of_ble_eq_true rfl) rfl (by decide) (by decide) (lX1 hn10) hn10 (fc_o1 (k := 3) h0n) ?_
  rintro _ _ _ _ ⟨rfl, rfl, rfl, rfl⟩
  have hf13 := fX1 (q := n + 2) hf11 (Nat.lt_succ_self _)
  have hn14 := lX1 hn10
  have hq15 := aX1 hq12
  refine fc_n_putF (ci := 10) (j := 1) (r := (RX10, TX10, 12)) (ty := (.object "FirstChimney$LandReader")) dX10_init_23 rfl (by decide) (by decide) (fc_G_of 467 (by decide +kernel) rfl) rfl hq15 rfl rfl rfl (by decide +kernel) rfl ?_
  have hf16 := fc_f0.r (q := q) (j := 1) (x := some (n + 2)) hf13 (fc_o1 (k := 5) hqn)
  refine fc_n_aload_n (i := 0) dX10_init_26 rfl rfl ?_
  refine nw_new (cs' := (6, 1082)) dX10_init_27 nkX9 (fc_G_of 216 (by decide +kernel) rfl) hn14 hf16 rfl (by decide) (by decide) ?_
  have hw17 := fc_sn (c := (9, 0)) hn14
  have hn18 := fc_ln (c := (9, 0)) hn14
  have hf19 := fc_f0.s hf16
  have hq20 := fc_sha (l := [(9, 0)]) hq15
  refine fc_n_dup dX10_init_30 rfl ?_
  refine nw_ctorN (z := mX9_init) (cs' := (16, 1394)) dX10_init_31 (n_X9 hw17 hn18 hf19) kX9_i.1 rfl rfl kX9_i.2 (by decide +kernel) (Nat.le_of_ble_eq_true rfl) rfl (by decide) (by decide) (lX9 hn18) hn18 (fc_o1 (k := 6) h0n) ?_
  rintro _ _ _ _ ⟨rfl, rfl, rfl, rfl⟩
  have hf21 := fX9 (q := n + 5) hf19 (Nat.lt_succ_self _)
  have hn22 := lX9 hn18
  have hq23 := aX9 hq20
  refine fc_n_putF (ci := 10) (j := 2) (r := (RX10, TX10, 12)) (ty := (.object "FirstChimney$Ways")) dX10_init_34 rfl (by decide) (by decide) (fc_G_of 468 (by decide +kernel) rfl) rfl hq23 rfl rfl rfl (by decide +kernel) rfl ?_
  have hf24 := fc_f0.r (q := q) (j := 2) (x := some (n + 5)) hf21 (fc_o1 (k := 16) hqn)
  refine fc_n_aload_n (i := 0) dX10_init_37 rfl rfl ?_
  refine nw_new (cs' := (17, 1403)) dX10_init_38 nkX7 (fc_G_of 235 (by decide +kernel) rfl) hn22 hf24 rfl (by decide) (by decide) ?_
  have hw25 := fc_sn (c := (7, 0)) hn22
  have hn26 := fc_ln (c := (7, 0)) hn22
  have hf27 := fc_f0.s hf24
  have hq28 := fc_sha (l := [(7, 0)]) hq23
  refine fc_n_dup dX10_init_41 rfl ?_
  refine nw_ctorN (z := mX7_init) (cs' := (24, 1440)) dX10_init_42 (n_X7 hw25 hn26 hf27) kX7_i.1 rfl rfl kX7_i.2 (by decide +kernel) (Nat.le_of_ble_eq_true rfl) rfl (by decide) (by decide) (lX7 hn26) hn26 (fc_o1 (k := 17) h0n) ?_
  rintro _ _ _ _ ⟨rfl, rfl, rfl, rfl⟩
  have hf29 := fX7 (q := n + 16) hf27 (Nat.lt_succ_self _)
  have hn30 := lX7 hn26
  have hq31 := aX7 hq28
  refine fc_n_putF (ci := 10) (j := 3) (r := (RX10, TX10, 12)) (ty := (.object "FirstChimney$State")) dX10_init_45 rfl (by decide) (by decide) (fc_G_of 469 (by decide +kernel) rfl) rfl hq31 rfl rfl rfl (by decide +kernel) rfl ?_
  have hf32 := fc_f0.r (q := q) (j := 3) (x := some (n + 16)) hf29 (fc_o1 (k := 24) hqn)
  refine fc_n_aload_n (i := 0) dX10_init_48 rfl rfl ?_
  refine nw_new (cs' := (25, 1449)) dX10_init_49 nkX7 (fc_G_of 235 (by decide +kernel) rfl) hn30 hf32 rfl (by decide) (by decide) ?_
  have hw33 := fc_sn (c := (7, 0)) hn30
  have hn34 := fc_ln (c := (7, 0)) hn30
  have hf35 := fc_f0.s hf32
  have hq36 := fc_sha (l := [(7, 0)]) hq31
  refine fc_n_dup dX10_init_52 rfl ?_
  refine nw_ctorN (z := mX7_init) (cs' := (32, 1486)) dX10_init_53 (n_X7 hw33 hn34 hf35) kX7_i.1 rfl rfl kX7_i.2 (by decide +kernel) (Nat.le_of_ble_eq_true rfl) rfl (by decide) (by decide) (lX7 hn34) hn34 (fc_o1 (k := 25) h0n) ?_
  rintro _ _ _ _ ⟨rfl, rfl, rfl, rfl⟩
  have hf37 := fX7 (q := n + 24) hf35 (Nat.lt_succ_self _)
  have hn38 := lX7 hn34
  have hq39 := aX7 hq36
  refine fc_n_putF (ci := 10) (j := 4) (r := (RX10, TX10, 12)) (ty := (.object "FirstChimney$State")) dX10_init_56 rfl (by decide) (by decide) (fc_G_of 470 (by decide +kernel) rfl) rfl hq39 rfl rfl rfl (by decide +kernel) rfl ?_
  have hf40 := fc_f0.r (q := q) (j := 4) (x := some (n + 24)) hf37 (fc_o1 (k := 32) hqn)
  refine fc_n_aload_n (i := 0) dX10_init_59 rfl rfl ?_
  refine nw_new (cs' := (33, 1492)) dX10_init_60 nkX4 (fc_G_of 277 (by decide +kernel) rfl) hn38 hf40 rfl (by decide) (by decide) ?_
  have hw41 := fc_sn (c := (4, 0)) hn38
  have hn42 := fc_ln (c := (4, 0)) hn38
  have hf43 := fc_f0.s hf40
  have hq44 := fc_sha (l := [(4, 0)]) hq39
  refine fc_n_dup dX10_init_63 rfl ?_
  refine nw_ctor (z := mX4_init) (cs' := (213, 2552)) dX10_init_64 (n_X4 hw41 hn42 hf43) kX4_i.1 rfl rfl kX4_i.2 (fc_G_of 279 (by decide +kernel) rfl) (Nat.le_of_ble_eq_true rfl) rfl (by decide) (by decide) (lX4 hn42) hn42 (fc_o1 (k := 33) h0n) ?_
  rintro _ _ _ _ ⟨rfl, rfl, rfl, rfl⟩
  have hf45 := fX4 (q := n + 32) hf43 (Nat.lt_succ_self _)
  have hn46 := lX4 hn42
  have hq47 := aX4 hq44
  refine fc_n_putF (ci := 10) (j := 5) (r := (RX10, TX10, 12)) (ty := (.object "FirstChimney$Past")) dX10_init_67 rfl (by decide) (by decide) (fc_G_of 471 (by decide +kernel) rfl) rfl hq47 rfl rfl rfl (by decide +kernel) rfl ?_
  have hf48 := fc_f0.r (q := q) (j := 5) (x := some (n + 32)) hf45 (fc_o1 (k := 213) hqn)
  refine fc_n_aload_n (i := 0) dX10_init_70 rfl rfl ?_
  refine nw_new (cs' := (214, 2556)) dX10_init_71 nkX6 (fc_G_of 331 (by decide +kernel) rfl) hn46 hf48 rfl (by decide) (by decide) ?_
  have hw49 := fc_sn (c := (6, 0)) hn46
  have hn50 := fc_ln (c := (6, 0)) hn46
  have hf51 := fc_f0.s hf48
  have hq52 := fc_sha (l := [(6, 0)]) hq47
  refine fc_n_dup dX10_init_74 rfl ?_
  refine nw_ctorN (z := mX6_init) (cs' := (217, 2580)) dX10_init_75 (n_X6 hw49 hn50 hf51) kX6_i.1 rfl rfl kX6_i.2 (by decide +kernel) (Nat.le_of_ble_eq_true rfl) rfl (by decide) (by decide) (lX6 hn50) hn50 (fc_o1 (k := 214) h0n) ?_
  rintro _ _ _ _ ⟨rfl, rfl, rfl, rfl⟩
  have hf53 := fX6 (q := n + 213) hf51 (Nat.lt_succ_self _)
  have hn54 := lX6 hn50
  have hq55 := aX6 hq52
  refine fc_n_putF (ci := 10) (j := 6) (r := (RX10, TX10, 12)) (ty := (.object "FirstChimney$Seen")) dX10_init_78 rfl (by decide) (by decide) (fc_G_of 472 (by decide +kernel) rfl) rfl hq55 rfl rfl rfl (by decide +kernel) rfl ?_
  have hf56 := fc_f0.r (q := q) (j := 6) (x := some (n + 213)) hf53 (fc_o1 (k := 217) hqn)
  refine fc_n_aload_n (i := 0) dX10_init_81 rfl rfl ?_
  refine nw_new (cs' := (218, 2595)) dX10_init_82 nkX0 (fc_G_of 333 (by decide +kernel) rfl) hn54 hf56 rfl (by decide) (by decide) ?_
  have hw57 := fc_sn (c := (0, 0)) hn54
  have hn58 := fc_ln (c := (0, 0)) hn54
  have hf59 := fc_f0.s hf56
  have hq60 := fc_sha (l := [(0, 0)]) hq55
  refine fc_n_dup dX10_init_85 rfl ?_
  refine nw_ctorN (z := mX0_init) (cs' := (230, 3714)) dX10_init_86 (n_X0 hw57 hn58 hf59) kX0_i.1 rfl rfl kX0_i.2 (by decide +kernel) (Nat.le_of_ble_eq_true rfl) rfl (by decide) (by decide) (lX0 hn58) hn58 (fc_o1 (k := 218) h0n) ?_
  rintro _ _ _ _ ⟨rfl, rfl, rfl, rfl⟩
  have hf61 := fX0 (q := n + 217) hf59 (Nat.lt_succ_self _)
  have hn62 := lX0 hn58
  have hq63 := aX0 hq60
  refine fc_n_putr (ci := 10) (j := 7) (r := (RX10, TX10, 12)) (ty := (.object "FirstChimney$Land")) dX10_init_89 rfl (by decide) (by decide) (fc_G_of 473 (by decide +kernel) rfl) rfl hq63 rfl (by decide +kernel) rfl ?_
  have hf64 := fc_f0.r (q := q) (j := 7) (x := some (n + 217)) hf61 (fc_o1 (k := 230) hqn)
  refine fc_n_aload_n (i := 0) dX10_init_92 rfl rfl ?_
  refine nw_new (cs' := (231, 3729)) dX10_init_93 nkX0 (fc_G_of 333 (by decide +kernel) rfl) hn62 hf64 rfl (by decide) (by decide) ?_
  have hw65 := fc_sn (c := (0, 0)) hn62
  have hn66 := fc_ln (c := (0, 0)) hn62
  have hf67 := fc_f0.s hf64
  have hq68 := fc_sha (l := [(0, 0)]) hq63
  refine fc_n_dup dX10_init_96 rfl ?_
  refine nw_ctorN (z := mX0_init) (cs' := (243, 4848)) dX10_init_97 (n_X0 hw65 hn66 hf67) kX0_i.1 rfl rfl kX0_i.2 (by decide +kernel) (Nat.le_of_ble_eq_true rfl) rfl (by decide) (by decide) (lX0 hn66) hn66 (fc_o1 (k := 231) h0n) ?_
  rintro _ _ _ _ ⟨rfl, rfl, rfl, rfl⟩
  have hf69 := fX0 (q := n + 230) hf67 (Nat.lt_succ_self _)
  have hn70 := lX0 hn66
  have hq71 := aX0 hq68
  refine fc_n_putr (ci := 10) (j := 8) (r := (RX10, TX10, 12)) (ty := (.object "FirstChimney$Land")) dX10_init_100 rfl (by decide) (by decide) (fc_G_of 474 (by decide +kernel) rfl) rfl hq71 rfl (by decide +kernel) rfl ?_
  have hf72 := fc_f0.r (q := q) (j := 8) (x := some (n + 230)) hf69 (fc_o1 (k := 243) hqn)
  refine fc_n_aload_n (i := 0) dX10_init_103 rfl rfl ?_
  refine nw_new (cs' := (244, 4852)) dX10_init_104 nkX5 (fc_G_of 446 (by decide +kernel) rfl) hn70 hf72 rfl (by decide) (by decide) ?_
  have hw73 := fc_sn (c := (5, 0)) hn70
  have hn74 := fc_ln (c := (5, 0)) hn70
  have hf75 := fc_f0.s hf72
  have hq76 := fc_sha (l := [(5, 0)]) hq71
  refine fc_n_dup dX10_init_107 rfl ?_
  refine nw_ctorN (z := mX5_init) (cs' := (247, 4972)) dX10_init_108 (n_X5 hw73 hn74 hf75) kX5_i.1 rfl rfl kX5_i.2 (by decide +kernel) (Nat.le_of_ble_eq_true rfl) rfl (by decide) (by decide) (lX5 hn74) hn74 (fc_o1 (k := 244) h0n) ?_
  rintro _ _ _ _ ⟨rfl, rfl, rfl, rfl⟩
  have hf77 := fX5 (q := n + 243) hf75 (Nat.lt_succ_self _)
  have hn78 := lX5 hn74
  have hq79 := aX5 hq76
  refine fc_n_putr (ci := 10) (j := 9) (r := (RX10, TX10, 12)) (ty := (.object "FirstChimney$Script")) dX10_init_111 rfl (by decide) (by decide) (fc_G_of 475 (by decide +kernel) rfl) rfl hq79 rfl (by decide +kernel) rfl ?_
  have hf80 := fc_f0.r (q := q) (j := 9) (x := some (n + 243)) hf77 (fc_o1 (k := 247) hqn)
  refine fc_n_aload_n (i := 0) dX10_init_114 rfl rfl ?_
  refine nw_new (cs' := (248, 4976)) dX10_init_115 nkX5 (fc_G_of 446 (by decide +kernel) rfl) hn78 hf80 rfl (by decide) (by decide) ?_
  have hw81 := fc_sn (c := (5, 0)) hn78
  have hn82 := fc_ln (c := (5, 0)) hn78
  have hf83 := fc_f0.s hf80
  have hq84 := fc_sha (l := [(5, 0)]) hq79
  refine fc_n_dup dX10_init_118 rfl ?_
  refine nw_ctorN (z := mX5_init) (cs' := (251, 5096)) dX10_init_119 (n_X5 hw81 hn82 hf83) kX5_i.1 rfl rfl kX5_i.2 (by decide +kernel) (Nat.le_of_ble_eq_true rfl) rfl (by decide) (by decide) (lX5 hn82) hn82 (fc_o1 (k := 248) h0n) ?_
  rintro _ _ _ _ ⟨rfl, rfl, rfl, rfl⟩
  have hf85 := fX5 (q := n + 247) hf83 (Nat.lt_succ_self _)
  have hn86 := lX5 hn82
  have hq87 := aX5 hq84
  refine fc_n_putr (ci := 10) (j := 10) (r := (RX10, TX10, 12)) (ty := (.object "FirstChimney$Script")) dX10_init_122 rfl (by decide) (by decide) (fc_G_of 476 (by decide +kernel) rfl) rfl hq87 rfl (by decide +kernel) rfl ?_
  have hf88 := fc_f0.r (q := q) (j := 10) (x := some (n + 247)) hf85 (fc_o1 (k := 251) hqn)
  exact fc_n_ret (v := none) ⟨dX10_init_125, rfl⟩ ⟨rfl, rfl, rfl, rfl⟩ (by decide) (by decide)
