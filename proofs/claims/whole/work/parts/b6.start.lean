/-! ===== the reference is made ===== -/
theorem nw_last {E : fc_E} {y : fc_M} {d : Nat} {tot : Nat × Nat} {shF : fc_Sh} {b : Bool} {cs : Nat × Nat} {sh : fc_Sh} {pc : Nat} {lv : List (Option Value)} {st : List Value} {mi : fc_Mi} {ml : fc_Ml} {mr : fc_Mr} {Q : fc_Q} {q n j : Nat} {i : Int32} {x : Int64} (hd : decode y.2.1 pc = .ok (.lastore, 1)) (hsh : sh[q]? = some (21, n)) (hi : i = nI j) (hj : j < n) (hn : n < 2 ^ 31)
    (k : fc_TN E y d tot shF b cs sh (pc + 1) lv st mi (fc_u ml q j x) mr Q) : fc_TN E y d tot shF b cs sh pc lv (.long x :: .int i :: .ref q :: st) mi ml mr Q := by
  subst hi
  refine fc_n_last hd hsh (vp_in_nI hj hn) ?_
  rw [nI_clamp (by omega)]
  exact k
abbrev sX11 (sh : fc_Sh) : fc_Sh := sh ++ [(20, 1000)] ++ [(20, 1002)] ++ [(20, 1002)] ++ [(21, 1002)] ++ [(21, 25)] ++ [(20, 100)] ++ [(20, 2200)] ++ [(20, 2200)] ++ [(21, 18)] ++ [(21, 18)] ++ [(20, 18)] ++ [(20, 18)] ++ [(20, 250)] ++ [(20, 4)] ++ [(20, 1100)] ++ [(20, 1472)] ++ [(22, 4)] ++ [(20, 7)] ++ [(22, 1792)]
def kX11 (mr : fc_Mr) : fc_Mr := (fc_u (fc_u (fc_u (fc_u (fc_u (fc_u (fc_u (fc_u (fc_u (fc_u (fc_u (fc_u (fc_u (fc_u (fc_u (fc_u (fc_u (fc_u (fc_u mr 252 1 (some (253))) 252 4 (some (253 + 1))) 252 5 (some (253 + 2))) 252 6 (some (253 + 3))) 252 9 (some (253 + 4))) 252 10 (some (253 + 5))) 252 11 (some (253 + 6))) 252 12 (some (253 + 7))) 252 14 (some (253 + 8))) 252 15 (some (253 + 9))) 252 16 (some (253 + 10))) 252 17 (some (253 + 11))) 252 21 (some (253 + 12))) 252 22 (some (253 + 13))) 252 23 (some (253 + 14))) 252 24 (some (253 + 15))) 252 26 (some (253 + 16))) 252 27 (some (253 + 17))) 252 28 (some (253 + 18)))
def wX11 (ml : fc_Ml) : fc_Ml := (fc_u (fc_u (fc_u (fc_u (fc_u (fc_u (fc_u (fc_u (fc_u (fc_u (fc_u (fc_u (fc_u (fc_u (fc_u (fc_u (fc_u (fc_u (fc_u (fc_u (fc_u (fc_u (fc_u (fc_u (fc_u ml (253 + 4) 0 (30595897)) (253 + 4) 1 (812565)) (253 + 4) 2 (1119812451)) (253 + 4) 3 (347)) (253 + 4) 4 (43171619)) (253 + 4) 5 (37901290)) (253 + 4) 6 (43890888)) (253 + 4) 7 (561)) (253 + 4) 8 (36288495)) (253 + 4) 9 (4223532)) (253 + 4) 10 (919077526)) (253 + 4) 11 (1166843)) (253 + 4) 12 (367711)) (253 + 4) 13 (30696)) (253 + 4) 14 (30596128)) (253 + 4) 15 (4020872)) (253 + 4) 16 (979413)) (253 + 4) 17 (687983)) (253 + 4) 18 (19741)) (253 + 4) 19 (1891)) (253 + 4) 20 (573)) (253 + 4) 21 (6250976)) (253 + 4) 22 (30910767)) (253 + 4) 23 (6555627)) (253 + 4) 24 (19811063))
theorem fX11 {mi : fc_Mi} {ml : fc_Ml} {mr : fc_Mr} (hf : fc_f0 253 mi ml mr) : fc_f0 (253 + 19) mi (wX11 ml) (kX11 mr) := by
  have hqn : 252 < 253 := by decide
  have hf3 := fc_f0.s hf
  have hf5 := fc_f0.r (q := 252) (j := 1) (x := some (253)) hf3 (fc_o1 (k := 1) hqn)
  have hf9 := fc_f0.s hf5
  have hf11 := fc_f0.r (q := 252) (j := 4) (x := some (253 + 1)) hf9 (fc_o1 (k := 2) hqn)
  have hf16 := fc_f0.s hf11
  have hf18 := fc_f0.r (q := 252) (j := 5) (x := some (253 + 2)) hf16 (fc_o1 (k := 3) hqn)
  have hf24 := fc_f0.s hf18
  have hf26 := fc_f0.r (q := 252) (j := 6) (x := some (253 + 3)) hf24 (fc_o1 (k := 4) hqn)
  have hf33 := fc_f0.s hf26
  have hf35 := fc_f0.l (q := 253 + 4) (j := 0) (x := 30595897) hf33 (fc_o2 (k := 5) (by decide))
  have hf36 := fc_f0.l (q := 253 + 4) (j := 1) (x := 812565) hf35 (fc_o2 (k := 5) (by decide))
  have hf37 := fc_f0.l (q := 253 + 4) (j := 2) (x := 1119812451) hf36 (fc_o2 (k := 5) (by decide))
  have hf38 := fc_f0.l (q := 253 + 4) (j := 3) (x := 347) hf37 (fc_o2 (k := 5) (by decide))
  have hf39 := fc_f0.l (q := 253 + 4) (j := 4) (x := 43171619) hf38 (fc_o2 (k := 5) (by decide))
  have hf40 := fc_f0.l (q := 253 + 4) (j := 5) (x := 37901290) hf39 (fc_o2 (k := 5) (by decide))
  have hf41 := fc_f0.l (q := 253 + 4) (j := 6) (x := 43890888) hf40 (fc_o2 (k := 5) (by decide))
  have hf42 := fc_f0.l (q := 253 + 4) (j := 7) (x := 561) hf41 (fc_o2 (k := 5) (by decide))
  have hf43 := fc_f0.l (q := 253 + 4) (j := 8) (x := 36288495) hf42 (fc_o2 (k := 5) (by decide))
  have hf44 := fc_f0.l (q := 253 + 4) (j := 9) (x := 4223532) hf43 (fc_o2 (k := 5) (by decide))
  have hf45 := fc_f0.l (q := 253 + 4) (j := 10) (x := 919077526) hf44 (fc_o2 (k := 5) (by decide))
  have hf46 := fc_f0.l (q := 253 + 4) (j := 11) (x := 1166843) hf45 (fc_o2 (k := 5) (by decide))
  have hf47 := fc_f0.l (q := 253 + 4) (j := 12) (x := 367711) hf46 (fc_o2 (k := 5) (by decide))
  have hf48 := fc_f0.l (q := 253 + 4) (j := 13) (x := 30696) hf47 (fc_o2 (k := 5) (by decide))
  have hf49 := fc_f0.l (q := 253 + 4) (j := 14) (x := 30596128) hf48 (fc_o2 (k := 5) (by decide))
  have hf50 := fc_f0.l (q := 253 + 4) (j := 15) (x := 4020872) hf49 (fc_o2 (k := 5) (by decide))
  have hf51 := fc_f0.l (q := 253 + 4) (j := 16) (x := 979413) hf50 (fc_o2 (k := 5) (by decide))
  have hf52 := fc_f0.l (q := 253 + 4) (j := 17) (x := 687983) hf51 (fc_o2 (k := 5) (by decide))
  have hf53 := fc_f0.l (q := 253 + 4) (j := 18) (x := 19741) hf52 (fc_o2 (k := 5) (by decide))
  have hf54 := fc_f0.l (q := 253 + 4) (j := 19) (x := 1891) hf53 (fc_o2 (k := 5) (by decide))
  have hf55 := fc_f0.l (q := 253 + 4) (j := 20) (x := 573) hf54 (fc_o2 (k := 5) (by decide))
  have hf56 := fc_f0.l (q := 253 + 4) (j := 21) (x := 6250976) hf55 (fc_o2 (k := 5) (by decide))
  have hf57 := fc_f0.l (q := 253 + 4) (j := 22) (x := 30910767) hf56 (fc_o2 (k := 5) (by decide))
  have hf58 := fc_f0.l (q := 253 + 4) (j := 23) (x := 6555627) hf57 (fc_o2 (k := 5) (by decide))
  have hf59 := fc_f0.l (q := 253 + 4) (j := 24) (x := 19811063) hf58 (fc_o2 (k := 5) (by decide))
  have hf60 := fc_f0.r (q := 252) (j := 9) (x := some (253 + 4)) hf59 (fc_o1 (k := 5) hqn)
  have hf68 := fc_f0.s hf60
  have hf70 := fc_f0.r (q := 252) (j := 10) (x := some (253 + 5)) hf68 (fc_o1 (k := 6) hqn)
  have hf79 := fc_f0.s hf70
  have hf81 := fc_f0.r (q := 252) (j := 11) (x := some (253 + 6)) hf79 (fc_o1 (k := 7) hqn)
  have hf91 := fc_f0.s hf81
  have hf93 := fc_f0.r (q := 252) (j := 12) (x := some (253 + 7)) hf91 (fc_o1 (k := 8) hqn)
  have hf104 := fc_f0.s hf93
  have hf106 := fc_f0.r (q := 252) (j := 14) (x := some (253 + 8)) hf104 (fc_o1 (k := 9) hqn)
  have hf118 := fc_f0.s hf106
  have hf120 := fc_f0.r (q := 252) (j := 15) (x := some (253 + 9)) hf118 (fc_o1 (k := 10) hqn)
  have hf133 := fc_f0.s hf120
  have hf135 := fc_f0.r (q := 252) (j := 16) (x := some (253 + 10)) hf133 (fc_o1 (k := 11) hqn)
  have hf149 := fc_f0.s hf135
  have hf151 := fc_f0.r (q := 252) (j := 17) (x := some (253 + 11)) hf149 (fc_o1 (k := 12) hqn)
  have hf166 := fc_f0.s hf151
  have hf168 := fc_f0.r (q := 252) (j := 21) (x := some (253 + 12)) hf166 (fc_o1 (k := 13) hqn)
  have hf184 := fc_f0.s hf168
  have hf186 := fc_f0.r (q := 252) (j := 22) (x := some (253 + 13)) hf184 (fc_o1 (k := 14) hqn)
  have hf203 := fc_f0.s hf186
  have hf205 := fc_f0.r (q := 252) (j := 23) (x := some (253 + 14)) hf203 (fc_o1 (k := 15) hqn)
  have hf223 := fc_f0.s hf205
  have hf225 := fc_f0.r (q := 252) (j := 24) (x := some (253 + 15)) hf223 (fc_o1 (k := 16) hqn)
  have hf244 := fc_f0.s hf225
  have hf246 := fc_f0.r (q := 252) (j := 26) (x := some (253 + 16)) hf244 (fc_o1 (k := 17) hqn)
  have hf266 := fc_f0.s hf246
  have hf268 := fc_f0.r (q := 252) (j := 27) (x := some (253 + 17)) hf266 (fc_o1 (k := 18) hqn)
  have hf289 := fc_f0.s hf268
  have hf291 := fc_f0.r (q := 252) (j := 28) (x := some (253 + 18)) hf289 (fc_o1 (k := 19) hqn)
  exact hf291
/-- after standsAsAlways(0) -/
def saa0 (mi m1 : fc_Mi) : Prop := (∀ y, y ≠ 258 → m1 y = mi y) ∧ (∀ k, (k < 0 ∨ 0 + 50 ≤ k) → m1 258 k = mi 258 k) ∧ m1 258 (0 + 4) = 30 ∧ m1 258 (0 + 5) = -1 ∧ ∀ k, k < 50 → k ≠ 4 → k ≠ 5 → m1 258 (0 + k) = 0
theorem saa0.z {mi m1 : fc_Mi} (h : saa0 mi m1) : rz m1 0 0 0 30 (fun _ _ => 0) := by
  have h0 := h.2.2.2.2 0 (by omega) (by omega) (by omega)
  have h2 := h.2.2.2.2 2 (by omega) (by omega) (by omega)
  have h3 := h.2.2.2.2 3 (by omega) (by omega) (by omega)
  exact ⟨⟨h0, h2, h3, h.2.2.1⟩, ⟨by omega, by omega, by omega, by omega, by omega, fun p hp => absurd hp (Nat.not_lt_zero p), fun p hp => absurd hp (Nat.not_lt_zero p)⟩, ⟨fun p hp => absurd hp (Nat.not_lt_zero p), fun p hp => absurd hp (Nat.not_lt_zero p), fun p hp => absurd hp (Nat.not_lt_zero p)⟩⟩
theorem n_X11 {E : fc_E} {d : Nat} {sh : fc_Sh} {mi : fc_Mi} {ml : fc_Ml} {mr : fc_Mr} (hq : sh[252]? = some (11, 0)) (hn : sh.length = 253) (hf : fc_f0 253 mi ml mr) (hS : sX11 sh = fc_sh0) (hW : fc_Wd (kX11 mr)) : fc_RN E mX11_init (d + 3) 19 13232 sh fc_sh0 [.ref 252] mi ml mr (fun v a b e => v = none ∧ b = wX11 ml ∧ e = kX11 mr ∧ ∃ m1, saa0 mi m1 ∧ rbg 0 0 (fun _ _ => 0) m1 a) := by
  have hqn : 252 < 253 := by decide
  have h0n : 0 < 253 := by decide
  refine fc_metN rfl (Nat.le_of_ble_eq_true rfl) ?_
  refine fc_n_aload_n (i := 0) dX11_init_0 rfl rfl ?_
  refine fc_n_oinit dX11_init_1 (fc_G_of 1293 (by decide +kernel) rfl) (Nat.le_of_ble_eq_true rfl) ?_
  refine fc_n_aload_n (i := 0) dX11_init_4 rfl rfl ?_
  refine fc_n_sipush (v := 1000) dX11_init_5 rfl ?_
  refine nw_I (N := 1000) (cs' := (1, 1000)) dX11_init_8 rfl (by decide) hn hf rfl (by decide) (by decide) ?_
  have hw1 := fc_sn (c := (20, 1000)) hn
  have hn2 := fc_ln (c := (20, 1000)) hn
  have hf3 := fc_f0.s hf
  have hq4 := fc_sha (l := [(20, 1000)]) hq
  refine fc_n_putF (ci := 11) (j := 1) (r := (RX11, TX11, 30)) (ty := (.array .int)) dX11_init_10 rfl (by decide) (by decide) (fc_G_of 1348 (by decide +kernel) rfl) rfl hq4 rfl rfl rfl (by decide +kernel) rfl ?_
  have hf5 := fc_f0.r (q := 252) (j := 1) (x := some (253)) hf3 (fc_o1 (k := 1) hqn)
  refine fc_n_aload_n (i := 0) dX11_init_13 rfl rfl ?_
  refine fc_n_sipush (v := 1002) dX11_init_14 rfl ?_
  refine nw_I (N := 1002) (cs' := (2, 2002)) dX11_init_17 rfl (by decide) hn2 hf5 rfl (by decide) (by decide) ?_
  have hw6 := fc_sha (l := [(20, 1002)]) hw1
  have hw7 := fc_sn (c := (20, 1002)) hn2
  have hn8 := fc_ln (c := (20, 1002)) hn2
  have hf9 := fc_f0.s hf5
  have hq10 := fc_sha (l := [(20, 1002)]) hq4
  refine fc_n_putF (ci := 11) (j := 4) (r := (RX11, TX11, 30)) (ty := (.array .int)) dX11_init_19 rfl (by decide) (by decide) (fc_G_of 1351 (by decide +kernel) rfl) rfl hq10 rfl rfl rfl (by decide +kernel) rfl ?_
  have hf11 := fc_f0.r (q := 252) (j := 4) (x := some (253 + 1)) hf9 (fc_o1 (k := 2) hqn)
  refine fc_n_aload_n (i := 0) dX11_init_22 rfl rfl ?_
  refine fc_n_sipush (v := 1002) dX11_init_23 rfl ?_
  refine nw_I (N := 1002) (cs' := (3, 3004)) dX11_init_26 rfl (by decide) hn8 hf11 rfl (by decide) (by decide) ?_
  have hw12 := fc_sha (l := [(20, 1002)]) hw6
  have hw13 := fc_sha (l := [(20, 1002)]) hw7
  have hw14 := fc_sn (c := (20, 1002)) hn8
  have hn15 := fc_ln (c := (20, 1002)) hn8
  have hf16 := fc_f0.s hf11
  have hq17 := fc_sha (l := [(20, 1002)]) hq10
  refine fc_n_putF (ci := 11) (j := 5) (r := (RX11, TX11, 30)) (ty := (.array .int)) dX11_init_28 rfl (by decide) (by decide) (fc_G_of 1352 (by decide +kernel) rfl) rfl hq17 rfl rfl rfl (by decide +kernel) rfl ?_
  have hf18 := fc_f0.r (q := 252) (j := 5) (x := some (253 + 2)) hf16 (fc_o1 (k := 3) hqn)
  refine fc_n_aload_n (i := 0) dX11_init_31 rfl rfl ?_
  refine fc_n_sipush (v := 1002) dX11_init_32 rfl ?_
  refine nw_L (N := 1002) (cs' := (4, 4006)) dX11_init_35 rfl (by decide) hn15 hf18 rfl (by decide) (by decide) ?_
  have hw19 := fc_sha (l := [(21, 1002)]) hw12
  have hw20 := fc_sha (l := [(21, 1002)]) hw13
  have hw21 := fc_sha (l := [(21, 1002)]) hw14
  have hw22 := fc_sn (c := (21, 1002)) hn15
  have hn23 := fc_ln (c := (21, 1002)) hn15
  have hf24 := fc_f0.s hf18
  have hq25 := fc_sha (l := [(21, 1002)]) hq17
  refine fc_n_putF (ci := 11) (j := 6) (r := (RX11, TX11, 30)) (ty := (.array .long)) dX11_init_37 rfl (by decide) (by decide) (fc_G_of 1353 (by decide +kernel) rfl) rfl hq25 rfl rfl rfl (by decide +kernel) rfl ?_
  have hf26 := fc_f0.r (q := 252) (j := 6) (x := some (253 + 3)) hf24 (fc_o1 (k := 4) hqn)
  refine fc_n_aload_n (i := 0) dX11_init_40 rfl rfl ?_
  refine fc_n_bipush (v := 25) dX11_init_41 rfl ?_
  refine nw_L (N := 25) (cs' := (5, 4031)) dX11_init_43 rfl (by decide) hn23 hf26 rfl (by decide) (by decide) ?_
  have hw27 := fc_sha (l := [(21, 25)]) hw19
  have hw28 := fc_sha (l := [(21, 25)]) hw20
  have hw29 := fc_sha (l := [(21, 25)]) hw21
  have hw30 := fc_sha (l := [(21, 25)]) hw22
  have hw31 := fc_sn (c := (21, 25)) hn23
  have hn32 := fc_ln (c := (21, 25)) hn23
  have hf33 := fc_f0.s hf26
  have hq34 := fc_sha (l := [(21, 25)]) hq25
  refine fc_n_dup dX11_init_45 rfl ?_
  refine fc_n_iconst (v := 0) dX11_init_46 rfl ?_
  refine fc_n_ldc2 (x := 30595897) dX11_init_47 (fc_G_of 1294 (by decide +kernel) rfl) ?_
  refine nw_last (n := 25) (j := 0) dX11_init_50 hw31 rfl (by decide) (by decide) ?_
  have hf35 := fc_f0.l (q := 253 + 4) (j := 0) (x := 30595897) hf33 (fc_o2 (k := 5) (by decide))
  refine fc_n_dup dX11_init_51 rfl ?_
  refine fc_n_iconst (v := 1) dX11_init_52 rfl ?_
  refine fc_n_ldc2 (x := 812565) dX11_init_53 (fc_G_of 1295 (by decide +kernel) rfl) ?_
  refine nw_last (n := 25) (j := 1) dX11_init_56 hw31 rfl (by decide) (by decide) ?_
  have hf36 := fc_f0.l (q := 253 + 4) (j := 1) (x := 812565) hf35 (fc_o2 (k := 5) (by decide))
  refine fc_n_dup dX11_init_57 rfl ?_
  refine fc_n_iconst (v := 2) dX11_init_58 rfl ?_
  refine fc_n_ldc2 (x := 1119812451) dX11_init_59 (fc_G_of 1296 (by decide +kernel) rfl) ?_
  refine nw_last (n := 25) (j := 2) dX11_init_62 hw31 rfl (by decide) (by decide) ?_
  have hf37 := fc_f0.l (q := 253 + 4) (j := 2) (x := 1119812451) hf36 (fc_o2 (k := 5) (by decide))
  refine fc_n_dup dX11_init_63 rfl ?_
  refine fc_n_iconst (v := 3) dX11_init_64 rfl ?_
  refine fc_n_ldc2 (x := 347) dX11_init_65 (fc_G_of 1297 (by decide +kernel) rfl) ?_
  refine nw_last (n := 25) (j := 3) dX11_init_68 hw31 rfl (by decide) (by decide) ?_
  have hf38 := fc_f0.l (q := 253 + 4) (j := 3) (x := 347) hf37 (fc_o2 (k := 5) (by decide))
  refine fc_n_dup dX11_init_69 rfl ?_
  refine fc_n_iconst (v := 4) dX11_init_70 rfl ?_
  refine fc_n_ldc2 (x := 43171619) dX11_init_71 (fc_G_of 1298 (by decide +kernel) rfl) ?_
  refine nw_last (n := 25) (j := 4) dX11_init_74 hw31 rfl (by decide) (by decide) ?_
  have hf39 := fc_f0.l (q := 253 + 4) (j := 4) (x := 43171619) hf38 (fc_o2 (k := 5) (by decide))
  refine fc_n_dup dX11_init_75 rfl ?_
  refine fc_n_iconst (v := 5) dX11_init_76 rfl ?_
  refine fc_n_ldc2 (x := 37901290) dX11_init_77 (fc_G_of 1299 (by decide +kernel) rfl) ?_
  refine nw_last (n := 25) (j := 5) dX11_init_80 hw31 rfl (by decide) (by decide) ?_
  have hf40 := fc_f0.l (q := 253 + 4) (j := 5) (x := 37901290) hf39 (fc_o2 (k := 5) (by decide))
  refine fc_n_dup dX11_init_81 rfl ?_
  refine fc_n_bipush (v := 6) dX11_init_82 rfl ?_
  refine fc_n_ldc2 (x := 43890888) dX11_init_84 (fc_G_of 1300 (by decide +kernel) rfl) ?_
  refine nw_last (n := 25) (j := 6) dX11_init_87 hw31 rfl (by decide) (by decide) ?_
  have hf41 := fc_f0.l (q := 253 + 4) (j := 6) (x := 43890888) hf40 (fc_o2 (k := 5) (by decide))
  refine fc_n_dup dX11_init_88 rfl ?_
  refine fc_n_bipush (v := 7) dX11_init_89 rfl ?_
  refine fc_n_ldc2 (x := 561) dX11_init_91 (fc_G_of 1301 (by decide +kernel) rfl) ?_
  refine nw_last (n := 25) (j := 7) dX11_init_94 hw31 rfl (by decide) (by decide) ?_
  have hf42 := fc_f0.l (q := 253 + 4) (j := 7) (x := 561) hf41 (fc_o2 (k := 5) (by decide))
  refine fc_n_dup dX11_init_95 rfl ?_
  refine fc_n_bipush (v := 8) dX11_init_96 rfl ?_
  refine fc_n_ldc2 (x := 36288495) dX11_init_98 (fc_G_of 1302 (by decide +kernel) rfl) ?_
  refine nw_last (n := 25) (j := 8) dX11_init_101 hw31 rfl (by decide) (by decide) ?_
  have hf43 := fc_f0.l (q := 253 + 4) (j := 8) (x := 36288495) hf42 (fc_o2 (k := 5) (by decide))
  refine fc_n_dup dX11_init_102 rfl ?_
  refine fc_n_bipush (v := 9) dX11_init_103 rfl ?_
  refine fc_n_ldc2 (x := 4223532) dX11_init_105 (fc_G_of 1303 (by decide +kernel) rfl) ?_
  refine nw_last (n := 25) (j := 9) dX11_init_108 hw31 rfl (by decide) (by decide) ?_
  have hf44 := fc_f0.l (q := 253 + 4) (j := 9) (x := 4223532) hf43 (fc_o2 (k := 5) (by decide))
  refine fc_n_dup dX11_init_109 rfl ?_
  refine fc_n_bipush (v := 10) dX11_init_110 rfl ?_
  refine fc_n_ldc2 (x := 919077526) dX11_init_112 (fc_G_of 1304 (by decide +kernel) rfl) ?_
  refine nw_last (n := 25) (j := 10) dX11_init_115 hw31 rfl (by decide) (by decide) ?_
  have hf45 := fc_f0.l (q := 253 + 4) (j := 10) (x := 919077526) hf44 (fc_o2 (k := 5) (by decide))
  refine fc_n_dup dX11_init_116 rfl ?_
  refine fc_n_bipush (v := 11) dX11_init_117 rfl ?_
  refine fc_n_ldc2 (x := 1166843) dX11_init_119 (fc_G_of 1305 (by decide +kernel) rfl) ?_
  refine nw_last (n := 25) (j := 11) dX11_init_122 hw31 rfl (by decide) (by decide) ?_
  have hf46 := fc_f0.l (q := 253 + 4) (j := 11) (x := 1166843) hf45 (fc_o2 (k := 5) (by decide))
  refine fc_n_dup dX11_init_123 rfl ?_
  refine fc_n_bipush (v := 12) dX11_init_124 rfl ?_
  refine fc_n_ldc2 (x := 367711) dX11_init_126 (fc_G_of 1306 (by decide +kernel) rfl) ?_
  refine nw_last (n := 25) (j := 12) dX11_init_129 hw31 rfl (by decide) (by decide) ?_
  have hf47 := fc_f0.l (q := 253 + 4) (j := 12) (x := 367711) hf46 (fc_o2 (k := 5) (by decide))
  refine fc_n_dup dX11_init_130 rfl ?_
  refine fc_n_bipush (v := 13) dX11_init_131 rfl ?_
  refine fc_n_ldc2 (x := 30696) dX11_init_133 (fc_G_of 1307 (by decide +kernel) rfl) ?_
  refine nw_last (n := 25) (j := 13) dX11_init_136 hw31 rfl (by decide) (by decide) ?_
  have hf48 := fc_f0.l (q := 253 + 4) (j := 13) (x := 30696) hf47 (fc_o2 (k := 5) (by decide))
  refine fc_n_dup dX11_init_137 rfl ?_
  refine fc_n_bipush (v := 14) dX11_init_138 rfl ?_
  refine fc_n_ldc2 (x := 30596128) dX11_init_140 (fc_G_of 1308 (by decide +kernel) rfl) ?_
  refine nw_last (n := 25) (j := 14) dX11_init_143 hw31 rfl (by decide) (by decide) ?_
  have hf49 := fc_f0.l (q := 253 + 4) (j := 14) (x := 30596128) hf48 (fc_o2 (k := 5) (by decide))
  refine fc_n_dup dX11_init_144 rfl ?_
  refine fc_n_bipush (v := 15) dX11_init_145 rfl ?_
  refine fc_n_ldc2 (x := 4020872) dX11_init_147 (fc_G_of 1309 (by decide +kernel) rfl) ?_
  refine nw_last (n := 25) (j := 15) dX11_init_150 hw31 rfl (by decide) (by decide) ?_
  have hf50 := fc_f0.l (q := 253 + 4) (j := 15) (x := 4020872) hf49 (fc_o2 (k := 5) (by decide))
  refine fc_n_dup dX11_init_151 rfl ?_
  refine fc_n_bipush (v := 16) dX11_init_152 rfl ?_
  refine fc_n_ldc2 (x := 979413) dX11_init_154 (fc_G_of 1310 (by decide +kernel) rfl) ?_
  refine nw_last (n := 25) (j := 16) dX11_init_157 hw31 rfl (by decide) (by decide) ?_
  have hf51 := fc_f0.l (q := 253 + 4) (j := 16) (x := 979413) hf50 (fc_o2 (k := 5) (by decide))
  refine fc_n_dup dX11_init_158 rfl ?_
  refine fc_n_bipush (v := 17) dX11_init_159 rfl ?_
  refine fc_n_ldc2 (x := 687983) dX11_init_161 (fc_G_of 1311 (by decide +kernel) rfl) ?_
  refine nw_last (n := 25) (j := 17) dX11_init_164 hw31 rfl (by decide) (by decide) ?_
  have hf52 := fc_f0.l (q := 253 + 4) (j := 17) (x := 687983) hf51 (fc_o2 (k := 5) (by decide))
  refine fc_n_dup dX11_init_165 rfl ?_
  refine fc_n_bipush (v := 18) dX11_init_166 rfl ?_
  refine fc_n_ldc2 (x := 19741) dX11_init_168 (fc_G_of 1312 (by decide +kernel) rfl) ?_
  refine nw_last (n := 25) (j := 18) dX11_init_171 hw31 rfl (by decide) (by decide) ?_
  have hf53 := fc_f0.l (q := 253 + 4) (j := 18) (x := 19741) hf52 (fc_o2 (k := 5) (by decide))
  refine fc_n_dup dX11_init_172 rfl ?_
  refine fc_n_bipush (v := 19) dX11_init_173 rfl ?_
  refine fc_n_ldc2 (x := 1891) dX11_init_175 (fc_G_of 1313 (by decide +kernel) rfl) ?_
  refine nw_last (n := 25) (j := 19) dX11_init_178 hw31 rfl (by decide) (by decide) ?_
  have hf54 := fc_f0.l (q := 253 + 4) (j := 19) (x := 1891) hf53 (fc_o2 (k := 5) (by decide))
  refine fc_n_dup dX11_init_179 rfl ?_
  refine fc_n_bipush (v := 20) dX11_init_180 rfl ?_
  refine fc_n_ldc2 (x := 573) dX11_init_182 (fc_G_of 1314 (by decide +kernel) rfl) ?_
  refine nw_last (n := 25) (j := 20) dX11_init_185 hw31 rfl (by decide) (by decide) ?_
  have hf55 := fc_f0.l (q := 253 + 4) (j := 20) (x := 573) hf54 (fc_o2 (k := 5) (by decide))
  refine fc_n_dup dX11_init_186 rfl ?_
  refine fc_n_bipush (v := 21) dX11_init_187 rfl ?_
  refine fc_n_ldc2 (x := 6250976) dX11_init_189 (fc_G_of 1315 (by decide +kernel) rfl) ?_
  refine nw_last (n := 25) (j := 21) dX11_init_192 hw31 rfl (by decide) (by decide) ?_
  have hf56 := fc_f0.l (q := 253 + 4) (j := 21) (x := 6250976) hf55 (fc_o2 (k := 5) (by decide))
  refine fc_n_dup dX11_init_193 rfl ?_
  refine fc_n_bipush (v := 22) dX11_init_194 rfl ?_
  refine fc_n_ldc2 (x := 30910767) dX11_init_196 (fc_G_of 1316 (by decide +kernel) rfl) ?_
  refine nw_last (n := 25) (j := 22) dX11_init_199 hw31 rfl (by decide) (by decide) ?_
  have hf57 := fc_f0.l (q := 253 + 4) (j := 22) (x := 30910767) hf56 (fc_o2 (k := 5) (by decide))
  refine fc_n_dup dX11_init_200 rfl ?_
  refine fc_n_bipush (v := 23) dX11_init_201 rfl ?_
  refine fc_n_ldc2 (x := 6555627) dX11_init_203 (fc_G_of 1317 (by decide +kernel) rfl) ?_
  refine nw_last (n := 25) (j := 23) dX11_init_206 hw31 rfl (by decide) (by decide) ?_
  have hf58 := fc_f0.l (q := 253 + 4) (j := 23) (x := 6555627) hf57 (fc_o2 (k := 5) (by decide))
  refine fc_n_dup dX11_init_207 rfl ?_
  refine fc_n_bipush (v := 24) dX11_init_208 rfl ?_
  refine fc_n_ldc2 (x := 19811063) dX11_init_210 (fc_G_of 1318 (by decide +kernel) rfl) ?_
  refine nw_last (n := 25) (j := 24) dX11_init_213 hw31 rfl (by decide) (by decide) ?_
  have hf59 := fc_f0.l (q := 253 + 4) (j := 24) (x := 19811063) hf58 (fc_o2 (k := 5) (by decide))
  refine fc_n_putF (ci := 11) (j := 9) (r := (RX11, TX11, 30)) (ty := (.array .long)) dX11_init_214 rfl (by decide) (by decide) (fc_G_of 1356 (by decide +kernel) rfl) rfl hq34 rfl rfl rfl (by decide +kernel) rfl ?_
  have hf60 := fc_f0.r (q := 252) (j := 9) (x := some (253 + 4)) hf59 (fc_o1 (k := 5) hqn)
  refine fc_n_aload_n (i := 0) dX11_init_217 rfl rfl ?_
  refine fc_n_bipush (v := 100) dX11_init_218 rfl ?_
  refine nw_I (N := 100) (cs' := (6, 4131)) dX11_init_220 rfl (by decide) hn32 hf60 rfl (by decide) (by decide) ?_
  have hw61 := fc_sha (l := [(20, 100)]) hw27
  have hw62 := fc_sha (l := [(20, 100)]) hw28
  have hw63 := fc_sha (l := [(20, 100)]) hw29
  have hw64 := fc_sha (l := [(20, 100)]) hw30
  have hw65 := fc_sha (l := [(20, 100)]) hw31
  have hw66 := fc_sn (c := (20, 100)) hn32
  have hn67 := fc_ln (c := (20, 100)) hn32
  have hf68 := fc_f0.s hf60
  have hq69 := fc_sha (l := [(20, 100)]) hq34
  refine fc_n_putF (ci := 11) (j := 10) (r := (RX11, TX11, 30)) (ty := (.array .int)) dX11_init_222 rfl (by decide) (by decide) (fc_G_of 1357 (by decide +kernel) rfl) rfl hq69 rfl rfl rfl (by decide +kernel) rfl ?_
  have hf70 := fc_f0.r (q := 252) (j := 10) (x := some (253 + 5)) hf68 (fc_o1 (k := 6) hqn)
  refine fc_n_aload_n (i := 0) dX11_init_225 rfl rfl ?_
  refine fc_n_sipush (v := 2200) dX11_init_226 rfl ?_
  refine nw_I (N := 2200) (cs' := (7, 6331)) dX11_init_229 rfl (by decide) hn67 hf70 rfl (by decide) (by decide) ?_
  have hw71 := fc_sha (l := [(20, 2200)]) hw61
  have hw72 := fc_sha (l := [(20, 2200)]) hw62
  have hw73 := fc_sha (l := [(20, 2200)]) hw63
  have hw74 := fc_sha (l := [(20, 2200)]) hw64
  have hw75 := fc_sha (l := [(20, 2200)]) hw65
  have hw76 := fc_sha (l := [(20, 2200)]) hw66
  have hw77 := fc_sn (c := (20, 2200)) hn67
  have hn78 := fc_ln (c := (20, 2200)) hn67
  have hf79 := fc_f0.s hf70
  have hq80 := fc_sha (l := [(20, 2200)]) hq69
  refine fc_n_putF (ci := 11) (j := 11) (r := (RX11, TX11, 30)) (ty := (.array .int)) dX11_init_231 rfl (by decide) (by decide) (fc_G_of 1358 (by decide +kernel) rfl) rfl hq80 rfl rfl rfl (by decide +kernel) rfl ?_
  have hf81 := fc_f0.r (q := 252) (j := 11) (x := some (253 + 6)) hf79 (fc_o1 (k := 7) hqn)
  refine fc_n_aload_n (i := 0) dX11_init_234 rfl rfl ?_
  refine fc_n_sipush (v := 2200) dX11_init_235 rfl ?_
  refine nw_I (N := 2200) (cs' := (8, 8531)) dX11_init_238 rfl (by decide) hn78 hf81 rfl (by decide) (by decide) ?_
  have hw82 := fc_sha (l := [(20, 2200)]) hw71
  have hw83 := fc_sha (l := [(20, 2200)]) hw72
  have hw84 := fc_sha (l := [(20, 2200)]) hw73
  have hw85 := fc_sha (l := [(20, 2200)]) hw74
  have hw86 := fc_sha (l := [(20, 2200)]) hw75
  have hw87 := fc_sha (l := [(20, 2200)]) hw76
  have hw88 := fc_sha (l := [(20, 2200)]) hw77
  have hw89 := fc_sn (c := (20, 2200)) hn78
  have hn90 := fc_ln (c := (20, 2200)) hn78
  have hf91 := fc_f0.s hf81
  have hq92 := fc_sha (l := [(20, 2200)]) hq80
  refine fc_n_putF (ci := 11) (j := 12) (r := (RX11, TX11, 30)) (ty := (.array .int)) dX11_init_240 rfl (by decide) (by decide) (fc_G_of 1359 (by decide +kernel) rfl) rfl hq92 rfl rfl rfl (by decide +kernel) rfl ?_
  have hf93 := fc_f0.r (q := 252) (j := 12) (x := some (253 + 7)) hf91 (fc_o1 (k := 8) hqn)
  refine fc_n_aload_n (i := 0) dX11_init_243 rfl rfl ?_
  refine fc_n_bipush (v := 18) dX11_init_244 rfl ?_
  refine nw_L (N := 18) (cs' := (9, 8549)) dX11_init_246 rfl (by decide) hn90 hf93 rfl (by decide) (by decide) ?_
  have hw94 := fc_sha (l := [(21, 18)]) hw82
  have hw95 := fc_sha (l := [(21, 18)]) hw83
  have hw96 := fc_sha (l := [(21, 18)]) hw84
  have hw97 := fc_sha (l := [(21, 18)]) hw85
  have hw98 := fc_sha (l := [(21, 18)]) hw86
  have hw99 := fc_sha (l := [(21, 18)]) hw87
  have hw100 := fc_sha (l := [(21, 18)]) hw88
  have hw101 := fc_sha (l := [(21, 18)]) hw89
  have hw102 := fc_sn (c := (21, 18)) hn90
  have hn103 := fc_ln (c := (21, 18)) hn90
  have hf104 := fc_f0.s hf93
  have hq105 := fc_sha (l := [(21, 18)]) hq92
  refine fc_n_putF (ci := 11) (j := 14) (r := (RX11, TX11, 30)) (ty := (.array .long)) dX11_init_248 rfl (by decide) (by decide) (fc_G_of 1361 (by decide +kernel) rfl) rfl hq105 rfl rfl rfl (by decide +kernel) rfl ?_
  have hf106 := fc_f0.r (q := 252) (j := 14) (x := some (253 + 8)) hf104 (fc_o1 (k := 9) hqn)
  refine fc_n_aload_n (i := 0) dX11_init_251 rfl rfl ?_
  refine fc_n_bipush (v := 18) dX11_init_252 rfl ?_
  refine nw_L (N := 18) (cs' := (10, 8567)) dX11_init_254 rfl (by decide) hn103 hf106 rfl (by decide) (by decide) ?_
  have hw107 := fc_sha (l := [(21, 18)]) hw94
  have hw108 := fc_sha (l := [(21, 18)]) hw95
  have hw109 := fc_sha (l := [(21, 18)]) hw96
  have hw110 := fc_sha (l := [(21, 18)]) hw97
  have hw111 := fc_sha (l := [(21, 18)]) hw98
  have hw112 := fc_sha (l := [(21, 18)]) hw99
  have hw113 := fc_sha (l := [(21, 18)]) hw100
  have hw114 := fc_sha (l := [(21, 18)]) hw101
  have hw115 := fc_sha (l := [(21, 18)]) hw102
  have hw116 := fc_sn (c := (21, 18)) hn103
  have hn117 := fc_ln (c := (21, 18)) hn103
  have hf118 := fc_f0.s hf106
  have hq119 := fc_sha (l := [(21, 18)]) hq105
  refine fc_n_putF (ci := 11) (j := 15) (r := (RX11, TX11, 30)) (ty := (.array .long)) dX11_init_256 rfl (by decide) (by decide) (fc_G_of 1362 (by decide +kernel) rfl) rfl hq119 rfl rfl rfl (by decide +kernel) rfl ?_
  have hf120 := fc_f0.r (q := 252) (j := 15) (x := some (253 + 9)) hf118 (fc_o1 (k := 10) hqn)
  refine fc_n_aload_n (i := 0) dX11_init_259 rfl rfl ?_
  refine fc_n_bipush (v := 18) dX11_init_260 rfl ?_
  refine nw_I (N := 18) (cs' := (11, 8585)) dX11_init_262 rfl (by decide) hn117 hf120 rfl (by decide) (by decide) ?_
  have hw121 := fc_sha (l := [(20, 18)]) hw107
  have hw122 := fc_sha (l := [(20, 18)]) hw108
  have hw123 := fc_sha (l := [(20, 18)]) hw109
  have hw124 := fc_sha (l := [(20, 18)]) hw110
  have hw125 := fc_sha (l := [(20, 18)]) hw111
  have hw126 := fc_sha (l := [(20, 18)]) hw112
  have hw127 := fc_sha (l := [(20, 18)]) hw113
  have hw128 := fc_sha (l := [(20, 18)]) hw114
  have hw129 := fc_sha (l := [(20, 18)]) hw115
  have hw130 := fc_sha (l := [(20, 18)]) hw116
  have hw131 := fc_sn (c := (20, 18)) hn117
  have hn132 := fc_ln (c := (20, 18)) hn117
  have hf133 := fc_f0.s hf120
  have hq134 := fc_sha (l := [(20, 18)]) hq119
  refine fc_n_putF (ci := 11) (j := 16) (r := (RX11, TX11, 30)) (ty := (.array .int)) dX11_init_264 rfl (by decide) (by decide) (fc_G_of 1363 (by decide +kernel) rfl) rfl hq134 rfl rfl rfl (by decide +kernel) rfl ?_
  have hf135 := fc_f0.r (q := 252) (j := 16) (x := some (253 + 10)) hf133 (fc_o1 (k := 11) hqn)
  refine fc_n_aload_n (i := 0) dX11_init_267 rfl rfl ?_
  refine fc_n_bipush (v := 18) dX11_init_268 rfl ?_
  refine nw_I (N := 18) (cs' := (12, 8603)) dX11_init_270 rfl (by decide) hn132 hf135 rfl (by decide) (by decide) ?_
  have hw136 := fc_sha (l := [(20, 18)]) hw121
  have hw137 := fc_sha (l := [(20, 18)]) hw122
  have hw138 := fc_sha (l := [(20, 18)]) hw123
  have hw139 := fc_sha (l := [(20, 18)]) hw124
  have hw140 := fc_sha (l := [(20, 18)]) hw125
  have hw141 := fc_sha (l := [(20, 18)]) hw126
  have hw142 := fc_sha (l := [(20, 18)]) hw127
  have hw143 := fc_sha (l := [(20, 18)]) hw128
  have hw144 := fc_sha (l := [(20, 18)]) hw129
  have hw145 := fc_sha (l := [(20, 18)]) hw130
  have hw146 := fc_sha (l := [(20, 18)]) hw131
  have hw147 := fc_sn (c := (20, 18)) hn132
  have hn148 := fc_ln (c := (20, 18)) hn132
  have hf149 := fc_f0.s hf135
  have hq150 := fc_sha (l := [(20, 18)]) hq134
  refine fc_n_putF (ci := 11) (j := 17) (r := (RX11, TX11, 30)) (ty := (.array .int)) dX11_init_272 rfl (by decide) (by decide) (fc_G_of 1364 (by decide +kernel) rfl) rfl hq150 rfl rfl rfl (by decide +kernel) rfl ?_
  have hf151 := fc_f0.r (q := 252) (j := 17) (x := some (253 + 11)) hf149 (fc_o1 (k := 12) hqn)
  refine fc_n_aload_n (i := 0) dX11_init_275 rfl rfl ?_
  refine fc_n_sipush (v := 250) dX11_init_276 rfl ?_
  refine nw_I (N := 250) (cs' := (13, 8853)) dX11_init_279 rfl (by decide) hn148 hf151 rfl (by decide) (by decide) ?_
  have hw152 := fc_sha (l := [(20, 250)]) hw136
  have hw153 := fc_sha (l := [(20, 250)]) hw137
  have hw154 := fc_sha (l := [(20, 250)]) hw138
  have hw155 := fc_sha (l := [(20, 250)]) hw139
  have hw156 := fc_sha (l := [(20, 250)]) hw140
  have hw157 := fc_sha (l := [(20, 250)]) hw141
  have hw158 := fc_sha (l := [(20, 250)]) hw142
  have hw159 := fc_sha (l := [(20, 250)]) hw143
  have hw160 := fc_sha (l := [(20, 250)]) hw144
  have hw161 := fc_sha (l := [(20, 250)]) hw145
  have hw162 := fc_sha (l := [(20, 250)]) hw146
  have hw163 := fc_sha (l := [(20, 250)]) hw147
  have hw164 := fc_sn (c := (20, 250)) hn148
  have hn165 := fc_ln (c := (20, 250)) hn148
  have hf166 := fc_f0.s hf151
  have hq167 := fc_sha (l := [(20, 250)]) hq150
  refine fc_n_putF (ci := 11) (j := 21) (r := (RX11, TX11, 30)) (ty := (.array .int)) dX11_init_281 rfl (by decide) (by decide) (fc_G_of 1368 (by decide +kernel) rfl) rfl hq167 rfl rfl rfl (by decide +kernel) rfl ?_
  have hf168 := fc_f0.r (q := 252) (j := 21) (x := some (253 + 12)) hf166 (fc_o1 (k := 13) hqn)
  refine fc_n_aload_n (i := 0) dX11_init_284 rfl rfl ?_
  refine fc_n_iconst (v := 4) dX11_init_285 rfl ?_
  refine nw_I (N := 4) (cs' := (14, 8857)) dX11_init_286 rfl (by decide) hn165 hf168 rfl (by decide) (by decide) ?_
  have hw169 := fc_sha (l := [(20, 4)]) hw152
  have hw170 := fc_sha (l := [(20, 4)]) hw153
  have hw171 := fc_sha (l := [(20, 4)]) hw154
  have hw172 := fc_sha (l := [(20, 4)]) hw155
  have hw173 := fc_sha (l := [(20, 4)]) hw156
  have hw174 := fc_sha (l := [(20, 4)]) hw157
  have hw175 := fc_sha (l := [(20, 4)]) hw158
  have hw176 := fc_sha (l := [(20, 4)]) hw159
  have hw177 := fc_sha (l := [(20, 4)]) hw160
  have hw178 := fc_sha (l := [(20, 4)]) hw161
  have hw179 := fc_sha (l := [(20, 4)]) hw162
  have hw180 := fc_sha (l := [(20, 4)]) hw163
  have hw181 := fc_sha (l := [(20, 4)]) hw164
  have hw182 := fc_sn (c := (20, 4)) hn165
  have hn183 := fc_ln (c := (20, 4)) hn165
  have hf184 := fc_f0.s hf168
  have hq185 := fc_sha (l := [(20, 4)]) hq167
  refine fc_n_putF (ci := 11) (j := 22) (r := (RX11, TX11, 30)) (ty := (.array .int)) dX11_init_288 rfl (by decide) (by decide) (fc_G_of 1369 (by decide +kernel) rfl) rfl hq185 rfl rfl rfl (by decide +kernel) rfl ?_
  have hf186 := fc_f0.r (q := 252) (j := 22) (x := some (253 + 13)) hf184 (fc_o1 (k := 14) hqn)
  refine fc_n_aload_n (i := 0) dX11_init_291 rfl rfl ?_
  refine fc_n_sipush (v := 1100) dX11_init_292 rfl ?_
  refine nw_I (N := 1100) (cs' := (15, 9957)) dX11_init_295 rfl (by decide) hn183 hf186 rfl (by decide) (by decide) ?_
  have hw187 := fc_sha (l := [(20, 1100)]) hw169
  have hw188 := fc_sha (l := [(20, 1100)]) hw170
  have hw189 := fc_sha (l := [(20, 1100)]) hw171
  have hw190 := fc_sha (l := [(20, 1100)]) hw172
  have hw191 := fc_sha (l := [(20, 1100)]) hw173
  have hw192 := fc_sha (l := [(20, 1100)]) hw174
  have hw193 := fc_sha (l := [(20, 1100)]) hw175
  have hw194 := fc_sha (l := [(20, 1100)]) hw176
  have hw195 := fc_sha (l := [(20, 1100)]) hw177
  have hw196 := fc_sha (l := [(20, 1100)]) hw178
  have hw197 := fc_sha (l := [(20, 1100)]) hw179
  have hw198 := fc_sha (l := [(20, 1100)]) hw180
  have hw199 := fc_sha (l := [(20, 1100)]) hw181
  have hw200 := fc_sha (l := [(20, 1100)]) hw182
  have hw201 := fc_sn (c := (20, 1100)) hn183
  have hn202 := fc_ln (c := (20, 1100)) hn183
  have hf203 := fc_f0.s hf186
  have hq204 := fc_sha (l := [(20, 1100)]) hq185
  refine fc_n_putF (ci := 11) (j := 23) (r := (RX11, TX11, 30)) (ty := (.array .int)) dX11_init_297 rfl (by decide) (by decide) (fc_G_of 1370 (by decide +kernel) rfl) rfl hq204 rfl rfl rfl (by decide +kernel) rfl ?_
  have hf205 := fc_f0.r (q := 252) (j := 23) (x := some (253 + 14)) hf203 (fc_o1 (k := 15) hqn)
  refine fc_n_aload_n (i := 0) dX11_init_300 rfl rfl ?_
  refine fc_n_sipush (v := 1472) dX11_init_301 rfl ?_
  refine nw_I (N := 1472) (cs' := (16, 11429)) dX11_init_304 rfl (by decide) hn202 hf205 rfl (by decide) (by decide) ?_
  have hw206 := fc_sha (l := [(20, 1472)]) hw187
  have hw207 := fc_sha (l := [(20, 1472)]) hw188
  have hw208 := fc_sha (l := [(20, 1472)]) hw189
  have hw209 := fc_sha (l := [(20, 1472)]) hw190
  have hw210 := fc_sha (l := [(20, 1472)]) hw191
  have hw211 := fc_sha (l := [(20, 1472)]) hw192
  have hw212 := fc_sha (l := [(20, 1472)]) hw193
  have hw213 := fc_sha (l := [(20, 1472)]) hw194
  have hw214 := fc_sha (l := [(20, 1472)]) hw195
  have hw215 := fc_sha (l := [(20, 1472)]) hw196
  have hw216 := fc_sha (l := [(20, 1472)]) hw197
  have hw217 := fc_sha (l := [(20, 1472)]) hw198
  have hw218 := fc_sha (l := [(20, 1472)]) hw199
  have hw219 := fc_sha (l := [(20, 1472)]) hw200
  have hw220 := fc_sha (l := [(20, 1472)]) hw201
  have hw221 := fc_sn (c := (20, 1472)) hn202
  have hn222 := fc_ln (c := (20, 1472)) hn202
  have hf223 := fc_f0.s hf205
  have hq224 := fc_sha (l := [(20, 1472)]) hq204
  refine fc_n_putF (ci := 11) (j := 24) (r := (RX11, TX11, 30)) (ty := (.array .int)) dX11_init_306 rfl (by decide) (by decide) (fc_G_of 1371 (by decide +kernel) rfl) rfl hq224 rfl rfl rfl (by decide +kernel) rfl ?_
  have hf225 := fc_f0.r (q := 252) (j := 24) (x := some (253 + 15)) hf223 (fc_o1 (k := 16) hqn)
  refine fc_n_aload_n (i := 0) dX11_init_309 rfl rfl ?_
  refine fc_n_iconst (v := 4) dX11_init_310 rfl ?_
  refine nw_Z (N := 4) (cs' := (17, 11433)) dX11_init_311 rfl (by decide) hn222 hf225 rfl (by decide) (by decide) ?_
  have hw226 := fc_sha (l := [(22, 4)]) hw206
  have hw227 := fc_sha (l := [(22, 4)]) hw207
  have hw228 := fc_sha (l := [(22, 4)]) hw208
  have hw229 := fc_sha (l := [(22, 4)]) hw209
  have hw230 := fc_sha (l := [(22, 4)]) hw210
  have hw231 := fc_sha (l := [(22, 4)]) hw211
  have hw232 := fc_sha (l := [(22, 4)]) hw212
  have hw233 := fc_sha (l := [(22, 4)]) hw213
  have hw234 := fc_sha (l := [(22, 4)]) hw214
  have hw235 := fc_sha (l := [(22, 4)]) hw215
  have hw236 := fc_sha (l := [(22, 4)]) hw216
  have hw237 := fc_sha (l := [(22, 4)]) hw217
  have hw238 := fc_sha (l := [(22, 4)]) hw218
  have hw239 := fc_sha (l := [(22, 4)]) hw219
  have hw240 := fc_sha (l := [(22, 4)]) hw220
  have hw241 := fc_sha (l := [(22, 4)]) hw221
  have hw242 := fc_sn (c := (22, 4)) hn222
  have hn243 := fc_ln (c := (22, 4)) hn222
  have hf244 := fc_f0.s hf225
  have hq245 := fc_sha (l := [(22, 4)]) hq224
  refine fc_n_putF (ci := 11) (j := 26) (r := (RX11, TX11, 30)) (ty := (.array .boolean)) dX11_init_313 rfl (by decide) (by decide) (fc_G_of 1373 (by decide +kernel) rfl) rfl hq245 rfl rfl rfl (by decide +kernel) rfl ?_
  have hf246 := fc_f0.r (q := 252) (j := 26) (x := some (253 + 16)) hf244 (fc_o1 (k := 17) hqn)
  refine fc_n_aload_n (i := 0) dX11_init_316 rfl rfl ?_
  refine fc_n_bipush (v := 7) dX11_init_317 rfl ?_
  refine nw_I (N := 7) (cs' := (18, 11440)) dX11_init_319 rfl (by decide) hn243 hf246 rfl (by decide) (by decide) ?_
  have hw247 := fc_sha (l := [(20, 7)]) hw226
  have hw248 := fc_sha (l := [(20, 7)]) hw227
  have hw249 := fc_sha (l := [(20, 7)]) hw228
  have hw250 := fc_sha (l := [(20, 7)]) hw229
  have hw251 := fc_sha (l := [(20, 7)]) hw230
  have hw252 := fc_sha (l := [(20, 7)]) hw231
  have hw253 := fc_sha (l := [(20, 7)]) hw232
  have hw254 := fc_sha (l := [(20, 7)]) hw233
  have hw255 := fc_sha (l := [(20, 7)]) hw234
  have hw256 := fc_sha (l := [(20, 7)]) hw235
  have hw257 := fc_sha (l := [(20, 7)]) hw236
  have hw258 := fc_sha (l := [(20, 7)]) hw237
  have hw259 := fc_sha (l := [(20, 7)]) hw238
  have hw260 := fc_sha (l := [(20, 7)]) hw239
  have hw261 := fc_sha (l := [(20, 7)]) hw240
  have hw262 := fc_sha (l := [(20, 7)]) hw241
  have hw263 := fc_sha (l := [(20, 7)]) hw242
  have hw264 := fc_sn (c := (20, 7)) hn243
  have hn265 := fc_ln (c := (20, 7)) hn243
  have hf266 := fc_f0.s hf246
  have hq267 := fc_sha (l := [(20, 7)]) hq245
  refine fc_n_putF (ci := 11) (j := 27) (r := (RX11, TX11, 30)) (ty := (.array .int)) dX11_init_321 rfl (by decide) (by decide) (fc_G_of 1374 (by decide +kernel) rfl) rfl hq267 rfl rfl rfl (by decide +kernel) rfl ?_
  have hf268 := fc_f0.r (q := 252) (j := 27) (x := some (253 + 17)) hf266 (fc_o1 (k := 18) hqn)
  refine fc_n_aload_n (i := 0) dX11_init_324 rfl rfl ?_
  refine fc_n_sipush (v := 1792) dX11_init_325 rfl ?_
  refine nw_Z (N := 1792) (cs' := (19, 13232)) dX11_init_328 rfl (by decide) hn265 hf268 rfl (by decide) (by decide) ?_
  have hw269 := fc_sha (l := [(22, 1792)]) hw247
  have hw270 := fc_sha (l := [(22, 1792)]) hw248
  have hw271 := fc_sha (l := [(22, 1792)]) hw249
  have hw272 := fc_sha (l := [(22, 1792)]) hw250
  have hw273 := fc_sha (l := [(22, 1792)]) hw251
  have hw274 := fc_sha (l := [(22, 1792)]) hw252
  have hw275 := fc_sha (l := [(22, 1792)]) hw253
  have hw276 := fc_sha (l := [(22, 1792)]) hw254
  have hw277 := fc_sha (l := [(22, 1792)]) hw255
  have hw278 := fc_sha (l := [(22, 1792)]) hw256
  have hw279 := fc_sha (l := [(22, 1792)]) hw257
  have hw280 := fc_sha (l := [(22, 1792)]) hw258
  have hw281 := fc_sha (l := [(22, 1792)]) hw259
  have hw282 := fc_sha (l := [(22, 1792)]) hw260
  have hw283 := fc_sha (l := [(22, 1792)]) hw261
  have hw284 := fc_sha (l := [(22, 1792)]) hw262
  have hw285 := fc_sha (l := [(22, 1792)]) hw263
  have hw286 := fc_sha (l := [(22, 1792)]) hw264
  have hw287 := fc_sn (c := (22, 1792)) hn265
  have hn288 := fc_ln (c := (22, 1792)) hn265
  have hf289 := fc_f0.s hf268
  have hq290 := fc_sha (l := [(22, 1792)]) hq267
  refine fc_n_putF (ci := 11) (j := 28) (r := (RX11, TX11, 30)) (ty := (.array .boolean)) dX11_init_330 rfl (by decide) (by decide) (fc_G_of 1375 (by decide +kernel) rfl) rfl hq290 rfl rfl rfl (by decide +kernel) rfl ?_
  have hf291 := fc_f0.r (q := 252) (j := 28) (x := some (253 + 18)) hf289 (fc_o1 (k := 19) hqn)
  have key : fc_TN E mX11_init (d + 3) (19, 13232) fc_sh0 true (19, 13232) (sX11 sh) 333 [some (.ref 252)] [] mi (wX11 ml) (kX11 mr) (fun v a b e => v = none ∧ b = wX11 ml ∧ e = kX11 mr ∧ ∃ m1, saa0 mi m1 ∧ rbg 0 0 (fun _ _ => 0) m1 a) := by
    rw [hS]
    refine fc_n_fall ?_
    refine fc_r_aload_n (i := 0) dX11_init_333 rfl rfl ?_
    refine fc_r_iconst (v := 0) dX11_init_334 rfl ?_
    refine fc_r_callV (ci := 11) (q := 252) (r := (RX11, TX11, 30)) (As := [.int 0]) dX11_init_335 (c_rsaa_0 hW (a := 0) rfl (by omega)) kX11_standsAsAlways.1 rfl (kX11_standsAsAlways.2.1 rfl).1 (kX11_standsAsAlways.2.1 rfl).2 (fc_G_of 1319 (by decide +kernel) rfl) rfl rfl (by decide) rfl (Nat.le_of_ble_eq_true rfl) ?_
    rintro _ m1 _ _ ⟨rfl, rfl, rfl, hs⟩
    refine fc_r_aload_n (i := 0) dX11_init_338 rfl rfl ?_
    refine fc_r_callV (ci := 11) (q := 252) (r := (RX11, TX11, 30)) (As := []) dX11_init_339 (c_rbegins_0 hW (saa0.z (mi := mi) hs)) kX11_begins.1 rfl (kX11_begins.2.1 rfl).1 (kX11_begins.2.1 rfl).2 (fc_G_of 1323 (by decide +kernel) rfl) rfl rfl (by decide) rfl (Nat.le_of_ble_eq_true rfl) ?_
    rintro _ m2 _ _ ⟨rfl, rfl, rfl, hb⟩
    exact fc_r_ret (v := none) ⟨dX11_init_342, rfl⟩ ⟨rfl, rfl, rfl, m1, hs, hb⟩
  exact key
