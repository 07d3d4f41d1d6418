/-! ===== the constructors ===== -/
def mX0_init : fc_M := (yX0_init, cX0_init, 1, none)
theorem kX0_i : fc_mw mX0_init 0 ∧ Cond.instanceMethod mX0_init.1 ∈ fc_G := ⟨⟨(fc_G_of 337 (by decide +kernel) rfl), (fc_G_of 114 (by decide +kernel) rfl), by decide +kernel, by decide⟩, (fc_G_of 336 (by decide +kernel) rfl)⟩
def mX1_init : fc_M := (yX1_init, cX1_init, 1, none)
theorem kX1_i : fc_mw mX1_init 0 ∧ Cond.instanceMethod mX1_init.1 ∈ fc_G := ⟨⟨(fc_G_of 184 (by decide +kernel) rfl), (fc_G_of 108 (by decide +kernel) rfl), by decide +kernel, by decide⟩, (fc_G_of 183 (by decide +kernel) rfl)⟩
def mX2_init : fc_M := (yX2_init, cX2_init, 1, none)
theorem kX2_i : fc_mw mX2_init 0 ∧ Cond.instanceMethod mX2_init.1 ∈ fc_G := ⟨⟨(fc_G_of 343 (by decide +kernel) rfl), (fc_G_of 115 (by decide +kernel) rfl), by decide +kernel, by decide⟩, (fc_G_of 342 (by decide +kernel) rfl)⟩
def mX3_init : fc_M := (yX3_init, cX3_init, 1, none)
theorem kX3_i : fc_mw mX3_init 0 ∧ Cond.instanceMethod mX3_init.1 ∈ fc_G := ⟨⟨(fc_G_of 190 (by decide +kernel) rfl), (fc_G_of 109 (by decide +kernel) rfl), by decide +kernel, by decide⟩, (fc_G_of 189 (by decide +kernel) rfl)⟩
def mX4_init : fc_M := (yX4_init, cX4_init, 2, none)
theorem kX4_i : fc_mw mX4_init 0 ∧ Cond.instanceMethod mX4_init.1 ∈ fc_G := ⟨⟨(fc_G_of 281 (by decide +kernel) rfl), (fc_G_of 112 (by decide +kernel) rfl), by decide +kernel, by decide⟩, (fc_G_of 280 (by decide +kernel) rfl)⟩
def mX5_init : fc_M := (yX5_init, cX5_init, 1, none)
theorem kX5_i : fc_mw mX5_init 0 ∧ Cond.instanceMethod mX5_init.1 ∈ fc_G := ⟨⟨(fc_G_of 450 (by decide +kernel) rfl), (fc_G_of 116 (by decide +kernel) rfl), by decide +kernel, by decide⟩, (fc_G_of 449 (by decide +kernel) rfl)⟩
def mX6_init : fc_M := (yX6_init, cX6_init, 1, none)
theorem kX6_i : fc_mw mX6_init 0 ∧ Cond.instanceMethod mX6_init.1 ∈ fc_G := ⟨⟨(fc_G_of 291 (by decide +kernel) rfl), (fc_G_of 113 (by decide +kernel) rfl), by decide +kernel, by decide⟩, (fc_G_of 290 (by decide +kernel) rfl)⟩
def mX7_init : fc_M := (yX7_init, cX7_init, 1, none)
theorem kX7_i : fc_mw mX7_init 0 ∧ Cond.instanceMethod mX7_init.1 ∈ fc_G := ⟨⟨(fc_G_of 239 (by decide +kernel) rfl), (fc_G_of 111 (by decide +kernel) rfl), by decide +kernel, by decide⟩, (fc_G_of 238 (by decide +kernel) rfl)⟩
def mX8_init : fc_M := (yX8_init, cX8_init, 1, none)
theorem kX8_i : fc_mw mX8_init 0 ∧ Cond.instanceMethod mX8_init.1 ∈ fc_G := ⟨⟨(fc_G_of 143 (by decide +kernel) rfl), (fc_G_of 107 (by decide +kernel) rfl), by decide +kernel, by decide⟩, (fc_G_of 142 (by decide +kernel) rfl)⟩
def mX9_init : fc_M := (yX9_init, cX9_init, 1, none)
theorem kX9_i : fc_mw mX9_init 0 ∧ Cond.instanceMethod mX9_init.1 ∈ fc_G := ⟨⟨(fc_G_of 220 (by decide +kernel) rfl), (fc_G_of 110 (by decide +kernel) rfl), by decide +kernel, by decide⟩, (fc_G_of 219 (by decide +kernel) rfl)⟩
def mX10_init : fc_M := (yX10_init, cX10_init, 1, none)
theorem kX10_i : fc_mw mX10_init 0 ∧ Cond.instanceMethod mX10_init.1 ∈ fc_G := ⟨⟨(fc_G_of 135 (by decide +kernel) rfl), (fc_G_of 106 (by decide +kernel) rfl), by decide +kernel, by decide⟩, (fc_G_of 134 (by decide +kernel) rfl)⟩
def mX11_init : fc_M := (yX11_init, cX11_init, 1, none)
theorem kX11_i : fc_mw mX11_init 0 ∧ Cond.instanceMethod mX11_init.1 ∈ fc_G := ⟨⟨(fc_G_of 1292 (by decide +kernel) rfl), (fc_G_of 117 (by decide +kernel) rfl), by decide +kernel, by decide⟩, (fc_G_of 1291 (by decide +kernel) rfl)⟩
theorem dX0_init_0 : decode cX0_init 0 = .ok (.aload_n 0, 1) := by decide +kernel
theorem dX0_init_1 : decode cX0_init 1 = .ok (.invokespecial 3, 3) := by decide +kernel
theorem dX0_init_4 : decode cX0_init 4 = .ok (.aload_n 0, 1) := by decide +kernel
theorem dX0_init_5 : decode cX0_init 5 = .ok (.bipush 7, 2) := by decide +kernel
theorem dX0_init_7 : decode cX0_init 7 = .ok (.newarray .long, 2) := by decide +kernel
theorem dX0_init_9 : decode cX0_init 9 = .ok (.putfield 9, 3) := by decide +kernel
theorem dX0_init_12 : decode cX0_init 12 = .ok (.aload_n 0, 1) := by decide +kernel
theorem dX0_init_13 : decode cX0_init 13 = .ok (.iconst 5, 1) := by decide +kernel
theorem dX0_init_14 : decode cX0_init 14 = .ok (.newarray .long, 2) := by decide +kernel
theorem dX0_init_16 : decode cX0_init 16 = .ok (.putfield 15, 3) := by decide +kernel
theorem dX0_init_19 : decode cX0_init 19 = .ok (.aload_n 0, 1) := by decide +kernel
theorem dX0_init_20 : decode cX0_init 20 = .ok (.bipush 6, 2) := by decide +kernel
theorem dX0_init_22 : decode cX0_init 22 = .ok (.newarray .long, 2) := by decide +kernel
theorem dX0_init_24 : decode cX0_init 24 = .ok (.putfield 18, 3) := by decide +kernel
theorem dX0_init_27 : decode cX0_init 27 = .ok (.aload_n 0, 1) := by decide +kernel
theorem dX0_init_28 : decode cX0_init 28 = .ok (.bipush 7, 2) := by decide +kernel
theorem dX0_init_30 : decode cX0_init 30 = .ok (.newarray .int, 2) := by decide +kernel
theorem dX0_init_32 : decode cX0_init 32 = .ok (.putfield 21, 3) := by decide +kernel
theorem dX0_init_35 : decode cX0_init 35 = .ok (.aload_n 0, 1) := by decide +kernel
theorem dX0_init_36 : decode cX0_init 36 = .ok (.iconst 5, 1) := by decide +kernel
theorem dX0_init_37 : decode cX0_init 37 = .ok (.newarray .int, 2) := by decide +kernel
theorem dX0_init_39 : decode cX0_init 39 = .ok (.putfield 25, 3) := by decide +kernel
theorem dX0_init_42 : decode cX0_init 42 = .ok (.aload_n 0, 1) := by decide +kernel
theorem dX0_init_43 : decode cX0_init 43 = .ok (.iconst 5, 1) := by decide +kernel
theorem dX0_init_44 : decode cX0_init 44 = .ok (.newarray .int, 2) := by decide +kernel
theorem dX0_init_46 : decode cX0_init 46 = .ok (.putfield 28, 3) := by decide +kernel
theorem dX0_init_49 : decode cX0_init 49 = .ok (.aload_n 0, 1) := by decide +kernel
theorem dX0_init_50 : decode cX0_init 50 = .ok (.iconst 5, 1) := by decide +kernel
theorem dX0_init_51 : decode cX0_init 51 = .ok (.newarray .int, 2) := by decide +kernel
theorem dX0_init_53 : decode cX0_init 53 = .ok (.putfield 31, 3) := by decide +kernel
theorem dX0_init_56 : decode cX0_init 56 = .ok (.aload_n 0, 1) := by decide +kernel
theorem dX0_init_57 : decode cX0_init 57 = .ok (.bipush 6, 2) := by decide +kernel
theorem dX0_init_59 : decode cX0_init 59 = .ok (.newarray .int, 2) := by decide +kernel
theorem dX0_init_61 : decode cX0_init 61 = .ok (.putfield 34, 3) := by decide +kernel
theorem dX0_init_64 : decode cX0_init 64 = .ok (.aload_n 0, 1) := by decide +kernel
theorem dX0_init_65 : decode cX0_init 65 = .ok (.bipush 6, 2) := by decide +kernel
theorem dX0_init_67 : decode cX0_init 67 = .ok (.newarray .int, 2) := by decide +kernel
theorem dX0_init_69 : decode cX0_init 69 = .ok (.putfield 37, 3) := by decide +kernel
theorem dX0_init_72 : decode cX0_init 72 = .ok (.aload_n 0, 1) := by decide +kernel
theorem dX0_init_73 : decode cX0_init 73 = .ok (.new 40, 3) := by decide +kernel
theorem dX0_init_76 : decode cX0_init 76 = .ok (.dup, 1) := by decide +kernel
theorem dX0_init_77 : decode cX0_init 77 = .ok (.invokespecial 42, 3) := by decide +kernel
theorem dX0_init_80 : decode cX0_init 80 = .ok (.putfield 43, 3) := by decide +kernel
theorem dX0_init_83 : decode cX0_init 83 = .ok (.aload_n 0, 1) := by decide +kernel
theorem dX0_init_84 : decode cX0_init 84 = .ok (.bipush 30, 2) := by decide +kernel
theorem dX0_init_86 : decode cX0_init 86 = .ok (.putfield 47, 3) := by decide +kernel
theorem dX0_init_89 : decode cX0_init 89 = .ok (.return_, 1) := by decide +kernel
theorem dX1_init_0 : decode cX1_init 0 = .ok (.aload_n 0, 1) := by decide +kernel
theorem dX1_init_1 : decode cX1_init 1 = .ok (.invokespecial 3, 3) := by decide +kernel
theorem dX1_init_4 : decode cX1_init 4 = .ok (.aload_n 0, 1) := by decide +kernel
theorem dX1_init_5 : decode cX1_init 5 = .ok (.new 9, 3) := by decide +kernel
theorem dX1_init_8 : decode cX1_init 8 = .ok (.dup, 1) := by decide +kernel
theorem dX1_init_9 : decode cX1_init 9 = .ok (.invokespecial 11, 3) := by decide +kernel
theorem dX1_init_12 : decode cX1_init 12 = .ok (.putfield 12, 3) := by decide +kernel
theorem dX1_init_15 : decode cX1_init 15 = .ok (.return_, 1) := by decide +kernel
theorem dX2_init_0 : decode cX2_init 0 = .ok (.aload_n 0, 1) := by decide +kernel
theorem dX2_init_1 : decode cX2_init 1 = .ok (.invokespecial 3, 3) := by decide +kernel
theorem dX2_init_4 : decode cX2_init 4 = .ok (.aload_n 0, 1) := by decide +kernel
theorem dX2_init_5 : decode cX2_init 5 = .ok (.sipush 1000, 3) := by decide +kernel
theorem dX2_init_8 : decode cX2_init 8 = .ok (.newarray .int, 2) := by decide +kernel
theorem dX2_init_10 : decode cX2_init 10 = .ok (.putfield 9, 3) := by decide +kernel
theorem dX2_init_13 : decode cX2_init 13 = .ok (.aload_n 0, 1) := by decide +kernel
theorem dX2_init_14 : decode cX2_init 14 = .ok (.bipush 64, 2) := by decide +kernel
theorem dX2_init_16 : decode cX2_init 16 = .ok (.newarray .int, 2) := by decide +kernel
theorem dX2_init_18 : decode cX2_init 18 = .ok (.putfield 15, 3) := by decide +kernel
theorem dX2_init_21 : decode cX2_init 21 = .ok (.return_, 1) := by decide +kernel
theorem dX3_init_0 : decode cX3_init 0 = .ok (.aload_n 0, 1) := by decide +kernel
theorem dX3_init_1 : decode cX3_init 1 = .ok (.invokespecial 3, 3) := by decide +kernel
theorem dX3_init_4 : decode cX3_init 4 = .ok (.aload_n 0, 1) := by decide +kernel
theorem dX3_init_5 : decode cX3_init 5 = .ok (.bipush 64, 2) := by decide +kernel
theorem dX3_init_7 : decode cX3_init 7 = .ok (.newarray .int, 2) := by decide +kernel
theorem dX3_init_9 : decode cX3_init 9 = .ok (.putfield 9, 3) := by decide +kernel
theorem dX3_init_12 : decode cX3_init 12 = .ok (.return_, 1) := by decide +kernel
theorem dX4_init_0 : decode cX4_init 0 = .ok (.aload_n 0, 1) := by decide +kernel
theorem dX4_init_1 : decode cX4_init 1 = .ok (.invokespecial 3, 3) := by decide +kernel
theorem dX4_init_4 : decode cX4_init 4 = .ok (.aload_n 0, 1) := by decide +kernel
theorem dX4_init_5 : decode cX4_init 5 = .ok (.bipush 16, 2) := by decide +kernel
theorem dX4_init_7 : decode cX4_init 7 = .ok (.anewarray 9, 3) := by decide +kernel
theorem dX4_init_10 : decode cX4_init 10 = .ok (.putfield 11, 3) := by decide +kernel
theorem dX4_init_13 : decode cX4_init 13 = .ok (.aload_n 0, 1) := by decide +kernel
theorem dX4_init_14 : decode cX4_init 14 = .ok (.iconst 4, 1) := by decide +kernel
theorem dX4_init_15 : decode cX4_init 15 = .ok (.anewarray 9, 3) := by decide +kernel
theorem dX4_init_18 : decode cX4_init 18 = .ok (.putfield 17, 3) := by decide +kernel
theorem dX4_init_21 : decode cX4_init 21 = .ok (.aload_n 0, 1) := by decide +kernel
theorem dX4_init_22 : decode cX4_init 22 = .ok (.iconst 4, 1) := by decide +kernel
theorem dX4_init_23 : decode cX4_init 23 = .ok (.anewarray 20, 3) := by decide +kernel
theorem dX4_init_26 : decode cX4_init 26 = .ok (.putfield 22, 3) := by decide +kernel
theorem dX4_init_29 : decode cX4_init 29 = .ok (.aload_n 0, 1) := by decide +kernel
theorem dX4_init_30 : decode cX4_init 30 = .ok (.iconst 4, 1) := by decide +kernel
theorem dX4_init_31 : decode cX4_init 31 = .ok (.newarray .boolean, 2) := by decide +kernel
theorem dX4_init_33 : decode cX4_init 33 = .ok (.putfield 26, 3) := by decide +kernel
theorem dX4_init_36 : decode cX4_init 36 = .ok (.iconst 0, 1) := by decide +kernel
theorem dX4_init_37 : decode cX4_init 37 = .ok (.istore_n 1, 1) := by decide +kernel
theorem dX4_init_38 : decode cX4_init 38 = .ok (.iload_n 1, 1) := by decide +kernel
theorem dX4_init_39 : decode cX4_init 39 = .ok (.bipush 16, 2) := by decide +kernel
theorem dX4_init_41 : decode cX4_init 41 = .ok (.if_icmp .ge 22, 3) := by decide +kernel
theorem dX4_init_44 : decode cX4_init 44 = .ok (.aload_n 0, 1) := by decide +kernel
theorem dX4_init_45 : decode cX4_init 45 = .ok (.getfield 11, 3) := by decide +kernel
theorem dX4_init_48 : decode cX4_init 48 = .ok (.iload_n 1, 1) := by decide +kernel
theorem dX4_init_49 : decode cX4_init 49 = .ok (.new 9, 3) := by decide +kernel
theorem dX4_init_52 : decode cX4_init 52 = .ok (.dup, 1) := by decide +kernel
theorem dX4_init_53 : decode cX4_init 53 = .ok (.invokespecial 30, 3) := by decide +kernel
theorem dX4_init_56 : decode cX4_init 56 = .ok (.aastore, 1) := by decide +kernel
theorem dX4_init_57 : decode cX4_init 57 = .ok (.iinc 1 1, 3) := by decide +kernel
theorem dX4_init_60 : decode cX4_init 60 = .ok (.goto (-22), 3) := by decide +kernel
theorem dX4_init_63 : decode cX4_init 63 = .ok (.iconst 0, 1) := by decide +kernel
theorem dX4_init_64 : decode cX4_init 64 = .ok (.istore_n 1, 1) := by decide +kernel
theorem dX4_init_65 : decode cX4_init 65 = .ok (.iload_n 1, 1) := by decide +kernel
theorem dX4_init_66 : decode cX4_init 66 = .ok (.iconst 4, 1) := by decide +kernel
theorem dX4_init_67 : decode cX4_init 67 = .ok (.if_icmp .ge 35, 3) := by decide +kernel
theorem dX4_init_70 : decode cX4_init 70 = .ok (.aload_n 0, 1) := by decide +kernel
theorem dX4_init_71 : decode cX4_init 71 = .ok (.getfield 17, 3) := by decide +kernel
theorem dX4_init_74 : decode cX4_init 74 = .ok (.iload_n 1, 1) := by decide +kernel
theorem dX4_init_75 : decode cX4_init 75 = .ok (.new 9, 3) := by decide +kernel
theorem dX4_init_78 : decode cX4_init 78 = .ok (.dup, 1) := by decide +kernel
theorem dX4_init_79 : decode cX4_init 79 = .ok (.invokespecial 30, 3) := by decide +kernel
theorem dX4_init_82 : decode cX4_init 82 = .ok (.aastore, 1) := by decide +kernel
theorem dX4_init_83 : decode cX4_init 83 = .ok (.aload_n 0, 1) := by decide +kernel
theorem dX4_init_84 : decode cX4_init 84 = .ok (.getfield 22, 3) := by decide +kernel
theorem dX4_init_87 : decode cX4_init 87 = .ok (.iload_n 1, 1) := by decide +kernel
theorem dX4_init_88 : decode cX4_init 88 = .ok (.new 20, 3) := by decide +kernel
theorem dX4_init_91 : decode cX4_init 91 = .ok (.dup, 1) := by decide +kernel
theorem dX4_init_92 : decode cX4_init 92 = .ok (.invokespecial 31, 3) := by decide +kernel
theorem dX4_init_95 : decode cX4_init 95 = .ok (.aastore, 1) := by decide +kernel
theorem dX4_init_96 : decode cX4_init 96 = .ok (.iinc 1 1, 3) := by decide +kernel
theorem dX4_init_99 : decode cX4_init 99 = .ok (.goto (-34), 3) := by decide +kernel
theorem dX4_init_102 : decode cX4_init 102 = .ok (.return_, 1) := by decide +kernel
theorem dX5_init_0 : decode cX5_init 0 = .ok (.aload_n 0, 1) := by decide +kernel
theorem dX5_init_1 : decode cX5_init 1 = .ok (.invokespecial 3, 3) := by decide +kernel
theorem dX5_init_4 : decode cX5_init 4 = .ok (.aload_n 0, 1) := by decide +kernel
theorem dX5_init_5 : decode cX5_init 5 = .ok (.bipush 40, 2) := by decide +kernel
theorem dX5_init_7 : decode cX5_init 7 = .ok (.newarray .int, 2) := by decide +kernel
theorem dX5_init_9 : decode cX5_init 9 = .ok (.putfield 9, 3) := by decide +kernel
theorem dX5_init_12 : decode cX5_init 12 = .ok (.aload_n 0, 1) := by decide +kernel
theorem dX5_init_13 : decode cX5_init 13 = .ok (.bipush 40, 2) := by decide +kernel
theorem dX5_init_15 : decode cX5_init 15 = .ok (.newarray .int, 2) := by decide +kernel
theorem dX5_init_17 : decode cX5_init 17 = .ok (.putfield 15, 3) := by decide +kernel
theorem dX5_init_20 : decode cX5_init 20 = .ok (.aload_n 0, 1) := by decide +kernel
theorem dX5_init_21 : decode cX5_init 21 = .ok (.bipush 40, 2) := by decide +kernel
theorem dX5_init_23 : decode cX5_init 23 = .ok (.newarray .int, 2) := by decide +kernel
theorem dX5_init_25 : decode cX5_init 25 = .ok (.putfield 18, 3) := by decide +kernel
theorem dX5_init_28 : decode cX5_init 28 = .ok (.return_, 1) := by decide +kernel
theorem dX6_init_0 : decode cX6_init 0 = .ok (.aload_n 0, 1) := by decide +kernel
theorem dX6_init_1 : decode cX6_init 1 = .ok (.invokespecial 3, 3) := by decide +kernel
theorem dX6_init_4 : decode cX6_init 4 = .ok (.aload_n 0, 1) := by decide +kernel
theorem dX6_init_5 : decode cX6_init 5 = .ok (.bipush 8, 2) := by decide +kernel
theorem dX6_init_7 : decode cX6_init 7 = .ok (.newarray .int, 2) := by decide +kernel
theorem dX6_init_9 : decode cX6_init 9 = .ok (.putfield 9, 3) := by decide +kernel
theorem dX6_init_12 : decode cX6_init 12 = .ok (.aload_n 0, 1) := by decide +kernel
theorem dX6_init_13 : decode cX6_init 13 = .ok (.bipush 8, 2) := by decide +kernel
theorem dX6_init_15 : decode cX6_init 15 = .ok (.newarray .int, 2) := by decide +kernel
theorem dX6_init_17 : decode cX6_init 17 = .ok (.putfield 15, 3) := by decide +kernel
theorem dX6_init_20 : decode cX6_init 20 = .ok (.aload_n 0, 1) := by decide +kernel
theorem dX6_init_21 : decode cX6_init 21 = .ok (.bipush 8, 2) := by decide +kernel
theorem dX6_init_23 : decode cX6_init 23 = .ok (.newarray .boolean, 2) := by decide +kernel
theorem dX6_init_25 : decode cX6_init 25 = .ok (.putfield 18, 3) := by decide +kernel
theorem dX6_init_28 : decode cX6_init 28 = .ok (.return_, 1) := by decide +kernel
theorem dX7_init_0 : decode cX7_init 0 = .ok (.aload_n 0, 1) := by decide +kernel
theorem dX7_init_1 : decode cX7_init 1 = .ok (.invokespecial 3, 3) := by decide +kernel
theorem dX7_init_4 : decode cX7_init 4 = .ok (.aload_n 0, 1) := by decide +kernel
theorem dX7_init_5 : decode cX7_init 5 = .ok (.iconst 5, 1) := by decide +kernel
theorem dX7_init_6 : decode cX7_init 6 = .ok (.newarray .int, 2) := by decide +kernel
theorem dX7_init_8 : decode cX7_init 8 = .ok (.putfield 9, 3) := by decide +kernel
theorem dX7_init_11 : decode cX7_init 11 = .ok (.aload_n 0, 1) := by decide +kernel
theorem dX7_init_12 : decode cX7_init 12 = .ok (.iconst 5, 1) := by decide +kernel
theorem dX7_init_13 : decode cX7_init 13 = .ok (.newarray .int, 2) := by decide +kernel
theorem dX7_init_15 : decode cX7_init 15 = .ok (.putfield 15, 3) := by decide +kernel
theorem dX7_init_18 : decode cX7_init 18 = .ok (.aload_n 0, 1) := by decide +kernel
theorem dX7_init_19 : decode cX7_init 19 = .ok (.iconst 5, 1) := by decide +kernel
theorem dX7_init_20 : decode cX7_init 20 = .ok (.newarray .int, 2) := by decide +kernel
theorem dX7_init_22 : decode cX7_init 22 = .ok (.putfield 18, 3) := by decide +kernel
theorem dX7_init_25 : decode cX7_init 25 = .ok (.aload_n 0, 1) := by decide +kernel
theorem dX7_init_26 : decode cX7_init 26 = .ok (.iconst 5, 1) := by decide +kernel
theorem dX7_init_27 : decode cX7_init 27 = .ok (.newarray .int, 2) := by decide +kernel
theorem dX7_init_29 : decode cX7_init 29 = .ok (.putfield 21, 3) := by decide +kernel
theorem dX7_init_32 : decode cX7_init 32 = .ok (.aload_n 0, 1) := by decide +kernel
theorem dX7_init_33 : decode cX7_init 33 = .ok (.iconst 5, 1) := by decide +kernel
theorem dX7_init_34 : decode cX7_init 34 = .ok (.newarray .int, 2) := by decide +kernel
theorem dX7_init_36 : decode cX7_init 36 = .ok (.putfield 24, 3) := by decide +kernel
theorem dX7_init_39 : decode cX7_init 39 = .ok (.aload_n 0, 1) := by decide +kernel
theorem dX7_init_40 : decode cX7_init 40 = .ok (.bipush 6, 2) := by decide +kernel
theorem dX7_init_42 : decode cX7_init 42 = .ok (.newarray .int, 2) := by decide +kernel
theorem dX7_init_44 : decode cX7_init 44 = .ok (.putfield 27, 3) := by decide +kernel
theorem dX7_init_47 : decode cX7_init 47 = .ok (.aload_n 0, 1) := by decide +kernel
theorem dX7_init_48 : decode cX7_init 48 = .ok (.bipush 6, 2) := by decide +kernel
theorem dX7_init_50 : decode cX7_init 50 = .ok (.newarray .int, 2) := by decide +kernel
theorem dX7_init_52 : decode cX7_init 52 = .ok (.putfield 30, 3) := by decide +kernel
theorem dX7_init_55 : decode cX7_init 55 = .ok (.return_, 1) := by decide +kernel
theorem dX8_init_0 : decode cX8_init 0 = .ok (.aload_n 0, 1) := by decide +kernel
theorem dX8_init_1 : decode cX8_init 1 = .ok (.invokespecial 3, 3) := by decide +kernel
theorem dX8_init_4 : decode cX8_init 4 = .ok (.aload_n 0, 1) := by decide +kernel
theorem dX8_init_5 : decode cX8_init 5 = .ok (.sipush 1000, 3) := by decide +kernel
theorem dX8_init_8 : decode cX8_init 8 = .ok (.newarray .char, 2) := by decide +kernel
theorem dX8_init_10 : decode cX8_init 10 = .ok (.putfield 9, 3) := by decide +kernel
theorem dX8_init_13 : decode cX8_init 13 = .ok (.return_, 1) := by decide +kernel
theorem dX9_init_0 : decode cX9_init 0 = .ok (.aload_n 0, 1) := by decide +kernel
theorem dX9_init_1 : decode cX9_init 1 = .ok (.invokespecial 3, 3) := by decide +kernel
theorem dX9_init_4 : decode cX9_init 4 = .ok (.aload_n 0, 1) := by decide +kernel
theorem dX9_init_5 : decode cX9_init 5 = .ok (.bipush 7, 2) := by decide +kernel
theorem dX9_init_7 : decode cX9_init 7 = .ok (.bipush 7, 2) := by decide +kernel
theorem dX9_init_9 : decode cX9_init 9 = .ok (.multianewarray 9 2, 4) := by decide +kernel
theorem dX9_init_13 : decode cX9_init 13 = .ok (.putfield 11, 3) := by decide +kernel
theorem dX9_init_16 : decode cX9_init 16 = .ok (.aload_n 0, 1) := by decide +kernel
theorem dX9_init_17 : decode cX9_init 17 = .ok (.sipush 128, 3) := by decide +kernel
theorem dX9_init_20 : decode cX9_init 20 = .ok (.newarray .int, 2) := by decide +kernel
theorem dX9_init_22 : decode cX9_init 22 = .ok (.putfield 16, 3) := by decide +kernel
theorem dX9_init_25 : decode cX9_init 25 = .ok (.aload_n 0, 1) := by decide +kernel
theorem dX9_init_26 : decode cX9_init 26 = .ok (.sipush 128, 3) := by decide +kernel
theorem dX9_init_29 : decode cX9_init 29 = .ok (.newarray .int, 2) := by decide +kernel
theorem dX9_init_31 : decode cX9_init 31 = .ok (.putfield 20, 3) := by decide +kernel
theorem dX9_init_34 : decode cX9_init 34 = .ok (.return_, 1) := by decide +kernel
theorem dX10_init_0 : decode cX10_init 0 = .ok (.aload_n 0, 1) := by decide +kernel
theorem dX10_init_1 : decode cX10_init 1 = .ok (.invokespecial 3, 3) := by decide +kernel
theorem dX10_init_4 : decode cX10_init 4 = .ok (.aload_n 0, 1) := by decide +kernel
theorem dX10_init_5 : decode cX10_init 5 = .ok (.new 9, 3) := by decide +kernel
theorem dX10_init_8 : decode cX10_init 8 = .ok (.dup, 1) := by decide +kernel
theorem dX10_init_9 : decode cX10_init 9 = .ok (.invokespecial 11, 3) := by decide +kernel
theorem dX10_init_12 : decode cX10_init 12 = .ok (.putfield 12, 3) := by decide +kernel
theorem dX10_init_15 : decode cX10_init 15 = .ok (.aload_n 0, 1) := by decide +kernel
theorem dX10_init_16 : decode cX10_init 16 = .ok (.new 16, 3) := by decide +kernel
theorem dX10_init_19 : decode cX10_init 19 = .ok (.dup, 1) := by decide +kernel
theorem dX10_init_20 : decode cX10_init 20 = .ok (.invokespecial 18, 3) := by decide +kernel
theorem dX10_init_23 : decode cX10_init 23 = .ok (.putfield 19, 3) := by decide +kernel
theorem dX10_init_26 : decode cX10_init 26 = .ok (.aload_n 0, 1) := by decide +kernel
theorem dX10_init_27 : decode cX10_init 27 = .ok (.new 23, 3) := by decide +kernel
theorem dX10_init_30 : decode cX10_init 30 = .ok (.dup, 1) := by decide +kernel
theorem dX10_init_31 : decode cX10_init 31 = .ok (.invokespecial 25, 3) := by decide +kernel
theorem dX10_init_34 : decode cX10_init 34 = .ok (.putfield 26, 3) := by decide +kernel
theorem dX10_init_37 : decode cX10_init 37 = .ok (.aload_n 0, 1) := by decide +kernel
theorem dX10_init_38 : decode cX10_init 38 = .ok (.new 30, 3) := by decide +kernel
theorem dX10_init_41 : decode cX10_init 41 = .ok (.dup, 1) := by decide +kernel
theorem dX10_init_42 : decode cX10_init 42 = .ok (.invokespecial 32, 3) := by decide +kernel
theorem dX10_init_45 : decode cX10_init 45 = .ok (.putfield 33, 3) := by decide +kernel
theorem dX10_init_48 : decode cX10_init 48 = .ok (.aload_n 0, 1) := by decide +kernel
theorem dX10_init_49 : decode cX10_init 49 = .ok (.new 30, 3) := by decide +kernel
theorem dX10_init_52 : decode cX10_init 52 = .ok (.dup, 1) := by decide +kernel
theorem dX10_init_53 : decode cX10_init 53 = .ok (.invokespecial 32, 3) := by decide +kernel
theorem dX10_init_56 : decode cX10_init 56 = .ok (.putfield 37, 3) := by decide +kernel
theorem dX10_init_59 : decode cX10_init 59 = .ok (.aload_n 0, 1) := by decide +kernel
theorem dX10_init_60 : decode cX10_init 60 = .ok (.new 40, 3) := by decide +kernel
theorem dX10_init_63 : decode cX10_init 63 = .ok (.dup, 1) := by decide +kernel
theorem dX10_init_64 : decode cX10_init 64 = .ok (.invokespecial 42, 3) := by decide +kernel
theorem dX10_init_67 : decode cX10_init 67 = .ok (.putfield 43, 3) := by decide +kernel
theorem dX10_init_70 : decode cX10_init 70 = .ok (.aload_n 0, 1) := by decide +kernel
theorem dX10_init_71 : decode cX10_init 71 = .ok (.new 47, 3) := by decide +kernel
theorem dX10_init_74 : decode cX10_init 74 = .ok (.dup, 1) := by decide +kernel
theorem dX10_init_75 : decode cX10_init 75 = .ok (.invokespecial 49, 3) := by decide +kernel
theorem dX10_init_78 : decode cX10_init 78 = .ok (.putfield 50, 3) := by decide +kernel
theorem dX10_init_81 : decode cX10_init 81 = .ok (.aload_n 0, 1) := by decide +kernel
theorem dX10_init_82 : decode cX10_init 82 = .ok (.new 54, 3) := by decide +kernel
theorem dX10_init_85 : decode cX10_init 85 = .ok (.dup, 1) := by decide +kernel
theorem dX10_init_86 : decode cX10_init 86 = .ok (.invokespecial 56, 3) := by decide +kernel
theorem dX10_init_89 : decode cX10_init 89 = .ok (.putfield 57, 3) := by decide +kernel
theorem dX10_init_92 : decode cX10_init 92 = .ok (.aload_n 0, 1) := by decide +kernel
theorem dX10_init_93 : decode cX10_init 93 = .ok (.new 54, 3) := by decide +kernel
theorem dX10_init_96 : decode cX10_init 96 = .ok (.dup, 1) := by decide +kernel
theorem dX10_init_97 : decode cX10_init 97 = .ok (.invokespecial 56, 3) := by decide +kernel
theorem dX10_init_100 : decode cX10_init 100 = .ok (.putfield 61, 3) := by decide +kernel
theorem dX10_init_103 : decode cX10_init 103 = .ok (.aload_n 0, 1) := by decide +kernel
theorem dX10_init_104 : decode cX10_init 104 = .ok (.new 64, 3) := by decide +kernel
theorem dX10_init_107 : decode cX10_init 107 = .ok (.dup, 1) := by decide +kernel
theorem dX10_init_108 : decode cX10_init 108 = .ok (.invokespecial 66, 3) := by decide +kernel
theorem dX10_init_111 : decode cX10_init 111 = .ok (.putfield 67, 3) := by decide +kernel
theorem dX10_init_114 : decode cX10_init 114 = .ok (.aload_n 0, 1) := by decide +kernel
theorem dX10_init_115 : decode cX10_init 115 = .ok (.new 64, 3) := by decide +kernel
theorem dX10_init_118 : decode cX10_init 118 = .ok (.dup, 1) := by decide +kernel
theorem dX10_init_119 : decode cX10_init 119 = .ok (.invokespecial 66, 3) := by decide +kernel
theorem dX10_init_122 : decode cX10_init 122 = .ok (.putfield 71, 3) := by decide +kernel
theorem dX10_init_125 : decode cX10_init 125 = .ok (.return_, 1) := by decide +kernel
theorem dX11_init_0 : decode cX11_init 0 = .ok (.aload_n 0, 1) := by decide +kernel
theorem dX11_init_1 : decode cX11_init 1 = .ok (.invokespecial 18, 3) := by decide +kernel
theorem dX11_init_4 : decode cX11_init 4 = .ok (.aload_n 0, 1) := by decide +kernel
theorem dX11_init_5 : decode cX11_init 5 = .ok (.sipush 1000, 3) := by decide +kernel
theorem dX11_init_8 : decode cX11_init 8 = .ok (.newarray .int, 2) := by decide +kernel
theorem dX11_init_10 : decode cX11_init 10 = .ok (.putfield 14, 3) := by decide +kernel
theorem dX11_init_13 : decode cX11_init 13 = .ok (.aload_n 0, 1) := by decide +kernel
theorem dX11_init_14 : decode cX11_init 14 = .ok (.sipush 1002, 3) := by decide +kernel
theorem dX11_init_17 : decode cX11_init 17 = .ok (.newarray .int, 2) := by decide +kernel
theorem dX11_init_19 : decode cX11_init 19 = .ok (.putfield 24, 3) := by decide +kernel
theorem dX11_init_22 : decode cX11_init 22 = .ok (.aload_n 0, 1) := by decide +kernel
theorem dX11_init_23 : decode cX11_init 23 = .ok (.sipush 1002, 3) := by decide +kernel
theorem dX11_init_26 : decode cX11_init 26 = .ok (.newarray .int, 2) := by decide +kernel
theorem dX11_init_28 : decode cX11_init 28 = .ok (.putfield 27, 3) := by decide +kernel
theorem dX11_init_31 : decode cX11_init 31 = .ok (.aload_n 0, 1) := by decide +kernel
theorem dX11_init_32 : decode cX11_init 32 = .ok (.sipush 1002, 3) := by decide +kernel
theorem dX11_init_35 : decode cX11_init 35 = .ok (.newarray .long, 2) := by decide +kernel
theorem dX11_init_37 : decode cX11_init 37 = .ok (.putfield 30, 3) := by decide +kernel
theorem dX11_init_40 : decode cX11_init 40 = .ok (.aload_n 0, 1) := by decide +kernel
theorem dX11_init_41 : decode cX11_init 41 = .ok (.bipush 25, 2) := by decide +kernel
theorem dX11_init_43 : decode cX11_init 43 = .ok (.newarray .long, 2) := by decide +kernel
theorem dX11_init_45 : decode cX11_init 45 = .ok (.dup, 1) := by decide +kernel
theorem dX11_init_46 : decode cX11_init 46 = .ok (.iconst 0, 1) := by decide +kernel
theorem dX11_init_47 : decode cX11_init 47 = .ok (.ldc2_w 34, 3) := by decide +kernel
theorem dX11_init_50 : decode cX11_init 50 = .ok (.lastore, 1) := by decide +kernel
theorem dX11_init_51 : decode cX11_init 51 = .ok (.dup, 1) := by decide +kernel
theorem dX11_init_52 : decode cX11_init 52 = .ok (.iconst 1, 1) := by decide +kernel
theorem dX11_init_53 : decode cX11_init 53 = .ok (.ldc2_w 36, 3) := by decide +kernel
theorem dX11_init_56 : decode cX11_init 56 = .ok (.lastore, 1) := by decide +kernel
theorem dX11_init_57 : decode cX11_init 57 = .ok (.dup, 1) := by decide +kernel
theorem dX11_init_58 : decode cX11_init 58 = .ok (.iconst 2, 1) := by decide +kernel
theorem dX11_init_59 : decode cX11_init 59 = .ok (.ldc2_w 38, 3) := by decide +kernel
theorem dX11_init_62 : decode cX11_init 62 = .ok (.lastore, 1) := by decide +kernel
theorem dX11_init_63 : decode cX11_init 63 = .ok (.dup, 1) := by decide +kernel
theorem dX11_init_64 : decode cX11_init 64 = .ok (.iconst 3, 1) := by decide +kernel
theorem dX11_init_65 : decode cX11_init 65 = .ok (.ldc2_w 40, 3) := by decide +kernel
theorem dX11_init_68 : decode cX11_init 68 = .ok (.lastore, 1) := by decide +kernel
theorem dX11_init_69 : decode cX11_init 69 = .ok (.dup, 1) := by decide +kernel
theorem dX11_init_70 : decode cX11_init 70 = .ok (.iconst 4, 1) := by decide +kernel
theorem dX11_init_71 : decode cX11_init 71 = .ok (.ldc2_w 42, 3) := by decide +kernel
theorem dX11_init_74 : decode cX11_init 74 = .ok (.lastore, 1) := by decide +kernel
theorem dX11_init_75 : decode cX11_init 75 = .ok (.dup, 1) := by decide +kernel
theorem dX11_init_76 : decode cX11_init 76 = .ok (.iconst 5, 1) := by decide +kernel
theorem dX11_init_77 : decode cX11_init 77 = .ok (.ldc2_w 44, 3) := by decide +kernel
theorem dX11_init_80 : decode cX11_init 80 = .ok (.lastore, 1) := by decide +kernel
theorem dX11_init_81 : decode cX11_init 81 = .ok (.dup, 1) := by decide +kernel
theorem dX11_init_82 : decode cX11_init 82 = .ok (.bipush 6, 2) := by decide +kernel
theorem dX11_init_84 : decode cX11_init 84 = .ok (.ldc2_w 46, 3) := by decide +kernel
theorem dX11_init_87 : decode cX11_init 87 = .ok (.lastore, 1) := by decide +kernel
theorem dX11_init_88 : decode cX11_init 88 = .ok (.dup, 1) := by decide +kernel
theorem dX11_init_89 : decode cX11_init 89 = .ok (.bipush 7, 2) := by decide +kernel
theorem dX11_init_91 : decode cX11_init 91 = .ok (.ldc2_w 48, 3) := by decide +kernel
theorem dX11_init_94 : decode cX11_init 94 = .ok (.lastore, 1) := by decide +kernel
theorem dX11_init_95 : decode cX11_init 95 = .ok (.dup, 1) := by decide +kernel
theorem dX11_init_96 : decode cX11_init 96 = .ok (.bipush 8, 2) := by decide +kernel
theorem dX11_init_98 : decode cX11_init 98 = .ok (.ldc2_w 50, 3) := by decide +kernel
theorem dX11_init_101 : decode cX11_init 101 = .ok (.lastore, 1) := by decide +kernel
theorem dX11_init_102 : decode cX11_init 102 = .ok (.dup, 1) := by decide +kernel
theorem dX11_init_103 : decode cX11_init 103 = .ok (.bipush 9, 2) := by decide +kernel
theorem dX11_init_105 : decode cX11_init 105 = .ok (.ldc2_w 52, 3) := by decide +kernel
theorem dX11_init_108 : decode cX11_init 108 = .ok (.lastore, 1) := by decide +kernel
theorem dX11_init_109 : decode cX11_init 109 = .ok (.dup, 1) := by decide +kernel
theorem dX11_init_110 : decode cX11_init 110 = .ok (.bipush 10, 2) := by decide +kernel
theorem dX11_init_112 : decode cX11_init 112 = .ok (.ldc2_w 54, 3) := by decide +kernel
theorem dX11_init_115 : decode cX11_init 115 = .ok (.lastore, 1) := by decide +kernel
theorem dX11_init_116 : decode cX11_init 116 = .ok (.dup, 1) := by decide +kernel
theorem dX11_init_117 : decode cX11_init 117 = .ok (.bipush 11, 2) := by decide +kernel
theorem dX11_init_119 : decode cX11_init 119 = .ok (.ldc2_w 56, 3) := by decide +kernel
theorem dX11_init_122 : decode cX11_init 122 = .ok (.lastore, 1) := by decide +kernel
theorem dX11_init_123 : decode cX11_init 123 = .ok (.dup, 1) := by decide +kernel
theorem dX11_init_124 : decode cX11_init 124 = .ok (.bipush 12, 2) := by decide +kernel
theorem dX11_init_126 : decode cX11_init 126 = .ok (.ldc2_w 58, 3) := by decide +kernel
theorem dX11_init_129 : decode cX11_init 129 = .ok (.lastore, 1) := by decide +kernel
theorem dX11_init_130 : decode cX11_init 130 = .ok (.dup, 1) := by decide +kernel
theorem dX11_init_131 : decode cX11_init 131 = .ok (.bipush 13, 2) := by decide +kernel
theorem dX11_init_133 : decode cX11_init 133 = .ok (.ldc2_w 60, 3) := by decide +kernel
theorem dX11_init_136 : decode cX11_init 136 = .ok (.lastore, 1) := by decide +kernel
theorem dX11_init_137 : decode cX11_init 137 = .ok (.dup, 1) := by decide +kernel
theorem dX11_init_138 : decode cX11_init 138 = .ok (.bipush 14, 2) := by decide +kernel
theorem dX11_init_140 : decode cX11_init 140 = .ok (.ldc2_w 62, 3) := by decide +kernel
theorem dX11_init_143 : decode cX11_init 143 = .ok (.lastore, 1) := by decide +kernel
theorem dX11_init_144 : decode cX11_init 144 = .ok (.dup, 1) := by decide +kernel
theorem dX11_init_145 : decode cX11_init 145 = .ok (.bipush 15, 2) := by decide +kernel
theorem dX11_init_147 : decode cX11_init 147 = .ok (.ldc2_w 64, 3) := by decide +kernel
theorem dX11_init_150 : decode cX11_init 150 = .ok (.lastore, 1) := by decide +kernel
theorem dX11_init_151 : decode cX11_init 151 = .ok (.dup, 1) := by decide +kernel
theorem dX11_init_152 : decode cX11_init 152 = .ok (.bipush 16, 2) := by decide +kernel
theorem dX11_init_154 : decode cX11_init 154 = .ok (.ldc2_w 66, 3) := by decide +kernel
theorem dX11_init_157 : decode cX11_init 157 = .ok (.lastore, 1) := by decide +kernel
theorem dX11_init_158 : decode cX11_init 158 = .ok (.dup, 1) := by decide +kernel
theorem dX11_init_159 : decode cX11_init 159 = .ok (.bipush 17, 2) := by decide +kernel
theorem dX11_init_161 : decode cX11_init 161 = .ok (.ldc2_w 68, 3) := by decide +kernel
theorem dX11_init_164 : decode cX11_init 164 = .ok (.lastore, 1) := by decide +kernel
theorem dX11_init_165 : decode cX11_init 165 = .ok (.dup, 1) := by decide +kernel
theorem dX11_init_166 : decode cX11_init 166 = .ok (.bipush 18, 2) := by decide +kernel
theorem dX11_init_168 : decode cX11_init 168 = .ok (.ldc2_w 70, 3) := by decide +kernel
theorem dX11_init_171 : decode cX11_init 171 = .ok (.lastore, 1) := by decide +kernel
theorem dX11_init_172 : decode cX11_init 172 = .ok (.dup, 1) := by decide +kernel
theorem dX11_init_173 : decode cX11_init 173 = .ok (.bipush 19, 2) := by decide +kernel
theorem dX11_init_175 : decode cX11_init 175 = .ok (.ldc2_w 72, 3) := by decide +kernel
theorem dX11_init_178 : decode cX11_init 178 = .ok (.lastore, 1) := by decide +kernel
theorem dX11_init_179 : decode cX11_init 179 = .ok (.dup, 1) := by decide +kernel
theorem dX11_init_180 : decode cX11_init 180 = .ok (.bipush 20, 2) := by decide +kernel
theorem dX11_init_182 : decode cX11_init 182 = .ok (.ldc2_w 74, 3) := by decide +kernel
theorem dX11_init_185 : decode cX11_init 185 = .ok (.lastore, 1) := by decide +kernel
theorem dX11_init_186 : decode cX11_init 186 = .ok (.dup, 1) := by decide +kernel
theorem dX11_init_187 : decode cX11_init 187 = .ok (.bipush 21, 2) := by decide +kernel
theorem dX11_init_189 : decode cX11_init 189 = .ok (.ldc2_w 76, 3) := by decide +kernel
theorem dX11_init_192 : decode cX11_init 192 = .ok (.lastore, 1) := by decide +kernel
theorem dX11_init_193 : decode cX11_init 193 = .ok (.dup, 1) := by decide +kernel
theorem dX11_init_194 : decode cX11_init 194 = .ok (.bipush 22, 2) := by decide +kernel
theorem dX11_init_196 : decode cX11_init 196 = .ok (.ldc2_w 78, 3) := by decide +kernel
theorem dX11_init_199 : decode cX11_init 199 = .ok (.lastore, 1) := by decide +kernel
theorem dX11_init_200 : decode cX11_init 200 = .ok (.dup, 1) := by decide +kernel
theorem dX11_init_201 : decode cX11_init 201 = .ok (.bipush 23, 2) := by decide +kernel
theorem dX11_init_203 : decode cX11_init 203 = .ok (.ldc2_w 80, 3) := by decide +kernel
theorem dX11_init_206 : decode cX11_init 206 = .ok (.lastore, 1) := by decide +kernel
theorem dX11_init_207 : decode cX11_init 207 = .ok (.dup, 1) := by decide +kernel
theorem dX11_init_208 : decode cX11_init 208 = .ok (.bipush 24, 2) := by decide +kernel
theorem dX11_init_210 : decode cX11_init 210 = .ok (.ldc2_w 82, 3) := by decide +kernel
theorem dX11_init_213 : decode cX11_init 213 = .ok (.lastore, 1) := by decide +kernel
theorem dX11_init_214 : decode cX11_init 214 = .ok (.putfield 84, 3) := by decide +kernel
theorem dX11_init_217 : decode cX11_init 217 = .ok (.aload_n 0, 1) := by decide +kernel
theorem dX11_init_218 : decode cX11_init 218 = .ok (.bipush 100, 2) := by decide +kernel
theorem dX11_init_220 : decode cX11_init 220 = .ok (.newarray .int, 2) := by decide +kernel
theorem dX11_init_222 : decode cX11_init 222 = .ok (.putfield 87, 3) := by decide +kernel
theorem dX11_init_225 : decode cX11_init 225 = .ok (.aload_n 0, 1) := by decide +kernel
theorem dX11_init_226 : decode cX11_init 226 = .ok (.sipush 2200, 3) := by decide +kernel
theorem dX11_init_229 : decode cX11_init 229 = .ok (.newarray .int, 2) := by decide +kernel
theorem dX11_init_231 : decode cX11_init 231 = .ok (.putfield 90, 3) := by decide +kernel
theorem dX11_init_234 : decode cX11_init 234 = .ok (.aload_n 0, 1) := by decide +kernel
theorem dX11_init_235 : decode cX11_init 235 = .ok (.sipush 2200, 3) := by decide +kernel
theorem dX11_init_238 : decode cX11_init 238 = .ok (.newarray .int, 2) := by decide +kernel
theorem dX11_init_240 : decode cX11_init 240 = .ok (.putfield 93, 3) := by decide +kernel
theorem dX11_init_243 : decode cX11_init 243 = .ok (.aload_n 0, 1) := by decide +kernel
theorem dX11_init_244 : decode cX11_init 244 = .ok (.bipush 18, 2) := by decide +kernel
theorem dX11_init_246 : decode cX11_init 246 = .ok (.newarray .long, 2) := by decide +kernel
theorem dX11_init_248 : decode cX11_init 248 = .ok (.putfield 96, 3) := by decide +kernel
theorem dX11_init_251 : decode cX11_init 251 = .ok (.aload_n 0, 1) := by decide +kernel
theorem dX11_init_252 : decode cX11_init 252 = .ok (.bipush 18, 2) := by decide +kernel
theorem dX11_init_254 : decode cX11_init 254 = .ok (.newarray .long, 2) := by decide +kernel
theorem dX11_init_256 : decode cX11_init 256 = .ok (.putfield 99, 3) := by decide +kernel
theorem dX11_init_259 : decode cX11_init 259 = .ok (.aload_n 0, 1) := by decide +kernel
theorem dX11_init_260 : decode cX11_init 260 = .ok (.bipush 18, 2) := by decide +kernel
theorem dX11_init_262 : decode cX11_init 262 = .ok (.newarray .int, 2) := by decide +kernel
theorem dX11_init_264 : decode cX11_init 264 = .ok (.putfield 102, 3) := by decide +kernel
theorem dX11_init_267 : decode cX11_init 267 = .ok (.aload_n 0, 1) := by decide +kernel
theorem dX11_init_268 : decode cX11_init 268 = .ok (.bipush 18, 2) := by decide +kernel
theorem dX11_init_270 : decode cX11_init 270 = .ok (.newarray .int, 2) := by decide +kernel
theorem dX11_init_272 : decode cX11_init 272 = .ok (.putfield 105, 3) := by decide +kernel
theorem dX11_init_275 : decode cX11_init 275 = .ok (.aload_n 0, 1) := by decide +kernel
theorem dX11_init_276 : decode cX11_init 276 = .ok (.sipush 250, 3) := by decide +kernel
theorem dX11_init_279 : decode cX11_init 279 = .ok (.newarray .int, 2) := by decide +kernel
theorem dX11_init_281 : decode cX11_init 281 = .ok (.putfield 108, 3) := by decide +kernel
theorem dX11_init_284 : decode cX11_init 284 = .ok (.aload_n 0, 1) := by decide +kernel
theorem dX11_init_285 : decode cX11_init 285 = .ok (.iconst 4, 1) := by decide +kernel
theorem dX11_init_286 : decode cX11_init 286 = .ok (.newarray .int, 2) := by decide +kernel
theorem dX11_init_288 : decode cX11_init 288 = .ok (.putfield 111, 3) := by decide +kernel
theorem dX11_init_291 : decode cX11_init 291 = .ok (.aload_n 0, 1) := by decide +kernel
theorem dX11_init_292 : decode cX11_init 292 = .ok (.sipush 1100, 3) := by decide +kernel
theorem dX11_init_295 : decode cX11_init 295 = .ok (.newarray .int, 2) := by decide +kernel
theorem dX11_init_297 : decode cX11_init 297 = .ok (.putfield 114, 3) := by decide +kernel
theorem dX11_init_300 : decode cX11_init 300 = .ok (.aload_n 0, 1) := by decide +kernel
theorem dX11_init_301 : decode cX11_init 301 = .ok (.sipush 1472, 3) := by decide +kernel
theorem dX11_init_304 : decode cX11_init 304 = .ok (.newarray .int, 2) := by decide +kernel
theorem dX11_init_306 : decode cX11_init 306 = .ok (.putfield 117, 3) := by decide +kernel
theorem dX11_init_309 : decode cX11_init 309 = .ok (.aload_n 0, 1) := by decide +kernel
theorem dX11_init_310 : decode cX11_init 310 = .ok (.iconst 4, 1) := by decide +kernel
theorem dX11_init_311 : decode cX11_init 311 = .ok (.newarray .boolean, 2) := by decide +kernel
theorem dX11_init_313 : decode cX11_init 313 = .ok (.putfield 120, 3) := by decide +kernel
theorem dX11_init_316 : decode cX11_init 316 = .ok (.aload_n 0, 1) := by decide +kernel
theorem dX11_init_317 : decode cX11_init 317 = .ok (.bipush 7, 2) := by decide +kernel
theorem dX11_init_319 : decode cX11_init 319 = .ok (.newarray .int, 2) := by decide +kernel
theorem dX11_init_321 : decode cX11_init 321 = .ok (.putfield 124, 3) := by decide +kernel
theorem dX11_init_324 : decode cX11_init 324 = .ok (.aload_n 0, 1) := by decide +kernel
theorem dX11_init_325 : decode cX11_init 325 = .ok (.sipush 1792, 3) := by decide +kernel
theorem dX11_init_328 : decode cX11_init 328 = .ok (.newarray .boolean, 2) := by decide +kernel
theorem dX11_init_330 : decode cX11_init 330 = .ok (.putfield 127, 3) := by decide +kernel
theorem dX11_init_333 : decode cX11_init 333 = .ok (.aload_n 0, 1) := by decide +kernel
theorem dX11_init_334 : decode cX11_init 334 = .ok (.iconst 0, 1) := by decide +kernel
theorem dX11_init_335 : decode cX11_init 335 = .ok (.invokevirtual 130, 3) := by decide +kernel
theorem dX11_init_338 : decode cX11_init 338 = .ok (.aload_n 0, 1) := by decide +kernel
theorem dX11_init_339 : decode cX11_init 339 = .ok (.invokevirtual 134, 3) := by decide +kernel
theorem dX11_init_342 : decode cX11_init 342 = .ok (.return_, 1) := by decide +kernel
theorem fc_o1 {q n k : Nat} (h : q < n) : q < n + k := Nat.lt_of_lt_of_le h (Nat.le_add_right n k)
theorem fc_o2 {n a k : Nat} (h : a < k) : n + a < n + k := Nat.add_lt_add_left h n
theorem fc_ln {sh : fc_Sh} {n : Nat} {c : Nat × Nat} (h : sh.length = n) : (sh ++ [c]).length = n + 1 := by rw [List.length_append, h]; rfl
theorem fc_ln8 {sh : fc_Sh} {n : Nat} (h : sh.length = n) : (sh ++ [(26, 7), (20, 7), (20, 7), (20, 7), (20, 7), (20, 7), (20, 7), (20, 7)]).length = n + 8 := by rw [List.length_append, h]; rfl
theorem fc_sn {sh : fc_Sh} {n : Nat} {c : Nat × Nat} (h : sh.length = n) : (sh ++ [c])[n]? = some c := by subst h; exact fc_shn
theorem fc_f0.s {n : Nat} {mi : fc_Mi} {ml : fc_Ml} {mr : fc_Mr} (h : fc_f0 n mi ml mr) : fc_f0 (n + 1) mi ml mr := h.mono (Nat.le_succ n)
theorem fc_f0.m8 {n : Nat} {g : Nat → Option Nat} {mi : fc_Mi} {ml : fc_Ml} {mr : fc_Mr} (h : fc_f0 n mi ml mr) : fc_f0 (n + 8) mi ml (fc_ur mr n g) := fun k hk => ⟨(h k (by omega)).1, (h k (by omega)).2.1, by rw [fc_ur_off _ _ (by omega)]; exact (h k (by omega)).2.2⟩
section N3
variable {E : fc_E} {y : fc_M} {d : Nat} {tot : Nat × Nat} {shF : fc_Sh} {cs : Nat × Nat} {sh : fc_Sh} {pc : Nat} {lv : List (Option Value)} {st : List Value} {mi : fc_Mi} {ml : fc_Ml} {mr : fc_Mr} {Q Q' : fc_Q}
theorem nw_I {N x : Nat} {n : Int32} {cs' : Nat × Nat} (hd : decode y.2.1 pc = .ok (.newarray .int, 2)) (hN : n = nI N) (hN2 : N ≤ 10000) (hx : sh.length = x) (hf : fc_f0 x mi ml mr) (hcs : (cs.1 + 1, cs.2 + N) = cs') (h1 : cs'.1 ≤ tot.1) (h2 : cs'.2 ≤ tot.2)
    (k : fc_TN E y d tot shF true cs' (sh ++ [(20, N)]) (pc + 2) lv (.ref x :: st) mi ml mr Q) : fc_TN E y d tot shF true cs sh pc lv (.int n :: st) mi ml mr Q := by
  subst hx; subst hcs; exact fc_n_newI hd hN hN2 h1 h2 hf k
theorem nw_L {N x : Nat} {n : Int32} {cs' : Nat × Nat} (hd : decode y.2.1 pc = .ok (.newarray .long, 2)) (hN : n = nI N) (hN2 : N ≤ 10000) (hx : sh.length = x) (hf : fc_f0 x mi ml mr) (hcs : (cs.1 + 1, cs.2 + N) = cs') (h1 : cs'.1 ≤ tot.1) (h2 : cs'.2 ≤ tot.2)
    (k : fc_TN E y d tot shF true cs' (sh ++ [(21, N)]) (pc + 2) lv (.ref x :: st) mi ml mr Q) : fc_TN E y d tot shF true cs sh pc lv (.int n :: st) mi ml mr Q := by
  subst hx; subst hcs; exact fc_n_newL hd hN hN2 h1 h2 hf k
theorem nw_Z {N x : Nat} {n : Int32} {cs' : Nat × Nat} (hd : decode y.2.1 pc = .ok (.newarray .boolean, 2)) (hN : n = nI N) (hN2 : N ≤ 10000) (hx : sh.length = x) (hf : fc_f0 x mi ml mr) (hcs : (cs.1 + 1, cs.2 + N) = cs') (h1 : cs'.1 ≤ tot.1) (h2 : cs'.2 ≤ tot.2)
    (k : fc_TN E y d tot shF true cs' (sh ++ [(22, N)]) (pc + 2) lv (.ref x :: st) mi ml mr Q) : fc_TN E y d tot shF true cs sh pc lv (.int n :: st) mi ml mr Q := by
  subst hx; subst hcs; exact fc_n_newZ hd hN hN2 h1 h2 hf k
theorem nw_C {N x : Nat} {n : Int32} {cs' : Nat × Nat} (hd : decode y.2.1 pc = .ok (.newarray .char, 2)) (hN : n = nI N) (hN2 : N ≤ 10000) (hx : sh.length = x) (hf : fc_f0 x mi ml mr) (hcs : (cs.1 + 1, cs.2 + N) = cs') (h1 : cs'.1 ≤ tot.1) (h2 : cs'.2 ≤ tot.2)
    (k : fc_TN E y d tot shF true cs' (sh ++ [(23, N)]) (pc + 2) lv (.ref x :: st) mi ml mr Q) : fc_TN E y d tot shF true cs sh pc lv (.int n :: st) mi ml mr Q := by
  subst hx; subst hcs; exact fc_n_newC hd hN hN2 h1 h2 hf k
theorem nw_new {idx ci x : Nat} {r : vw_C} {cs' : Nat × Nat} (hd : decode y.2.1 pc = .ok (.new idx, 3)) (hnk : fc_nok ci r) (hclink : Cond.classLink y.1.cls idx r.1 ∈ fc_G) (hx : sh.length = x) (hf : fc_f0 x mi ml mr) (hcs : (cs.1 + 1, cs.2 + r.2.2) = cs') (h1 : cs'.1 ≤ tot.1) (h2 : cs'.2 ≤ tot.2)
    (k : fc_TN E y d tot shF true cs' (sh ++ [(ci, 0)]) (pc + 3) lv (.ref x :: st) mi ml mr Q) : fc_TN E y d tot shF true cs sh pc lv st mi ml mr Q := by
  subst hx; subst hcs; exact fc_n_new hd hnk hclink h1 h2 hf k
theorem nw_multi {idx x : Nat} {cs' : Nat × Nat} (hd : decode y.2.1 pc = .ok (.multianewarray idx 2, 4)) (hclink : Cond.classLink y.1.cls idx ("[" ++ (FieldType.array .int).toString) ∈ fc_G) (hx : sh.length = x) (hf : fc_f0 x mi ml mr) (hcs : (cs.1 + 8, cs.2 + 56) = cs') (h1 : cs'.1 ≤ tot.1) (h2 : cs'.2 ≤ tot.2)
    (k : fc_TN E y d tot shF true cs' (sh ++ [(26, 7), (20, 7), (20, 7), (20, 7), (20, 7), (20, 7), (20, 7), (20, 7)]) (pc + 4) lv (.ref x :: st) mi ml (fc_ur mr x (fun j => if j < 7 then some (x + 1 + j) else none)) Q) : fc_TN E y d tot shF true cs sh pc lv (.int 7 :: .int 7 :: st) mi ml mr Q := by
  subst hx; subst hcs; exact fc_n_multi hd hclink h1 h2 hf k
theorem nw_anew {κ t0 idx N x : Nat} {n : Int32} {C : String} {cs' : Nat × Nat} (hd : decode y.2.1 pc = .ok (.anewarray idx, 3)) (hκ : ∀ (f : Nat → Int32) (g : Nat → Int64) (h : Nat → Option Nat), fc_cell E.2.2.2.1 E.2.2.1 f g h (κ, N) = .inl (E.2.2.1 t0, N, .inr (.inr (.inr (.inr (fc_rows E.2.2.2.1 h)))))) (htt : (fc_tys E.2.2.1)[t0]? = some (E.2.2.1 t0, .object C)) (hao : ∀ U : State, fc_AO U → va_AO C U)
    (hclink : Cond.classLink y.1.cls idx C ∈ fc_G) (hN : n = nI N) (hN2 : N ≤ 10000) (hx : sh.length = x) (hf : fc_f0 x mi ml mr) (hcs : (cs.1 + 1, cs.2 + N) = cs') (h1 : cs'.1 ≤ tot.1) (h2 : cs'.2 ≤ tot.2) (k : fc_TN E y d tot shF true cs' (sh ++ [(κ, N)]) (pc + 3) lv (.ref x :: st) mi ml mr Q) : fc_TN E y d tot shF true cs sh pc lv (.int n :: st) mi ml mr Q := by
  subst hx; subst hcs; exact fc_n_anew hd hκ htt hao hclink hN hN2 h1 h2 hf k
theorem nw_ctor {z : fc_M} {idx q mc ms x : Nat} {shC : fc_Sh} {cs' : Nat × Nat} (hd : decode y.2.1 pc = .ok (.invokespecial idx, 3)) (hM : fc_RN E z d mc ms sh shC [.ref q] mi ml mr Q') (hz : fc_mw z 0) (hz0 : z.2.2.2 = none) (hnm : z.1.name = "<init>") (hinst : Cond.instanceMethod z.1 ∈ fc_G) (hlink : Cond.methodLink y.1.cls idx z.1 ∈ fc_G)
    (hroom : (st.map fun v => v.category).sum ≤ 8) (hcs : (cs.1 + mc, cs.2 + ms) = cs') (h1 : cs'.1 ≤ tot.1) (h2 : cs'.2 ≤ tot.2) (hlen : shC.length = x + mc) (hx : sh.length = x) (hpos : 0 < x) (k : ∀ v mi' ml' mr', Q' v mi' ml' mr' → fc_TN E y (d + 1) tot shF true cs' shC (pc + 3) lv (v.toList ++ st) mi' ml' mr' Q) : fc_TN E y (d + 1) tot shF true cs sh pc lv (.ref q :: st) mi ml mr Q := by
  subst hx; subst hcs; exact fc_n_ctor hd hM hz hz0 hnm hinst hlink hroom h1 h2 hlen (by omega) k
theorem nw_ctorN {z : fc_M} {idx q mc ms x : Nat} {shC : fc_Sh} {cs' : Nat × Nat} (hd : decode y.2.1 pc = .ok (.invokespecial idx, 3)) (hM : fc_RN E z d mc ms sh shC [.ref q] mi ml mr Q') (hz : fc_mw z 0) (hz0 : z.2.2.2 = none) (hnm : z.1.name = "<init>") (hinst : Cond.instanceMethod z.1 ∈ fc_G) (hlink : (y.1.cls, idx, z.1) ∈ fc_N2)
    (hroom : (st.map fun v => v.category).sum ≤ 8) (hcs : (cs.1 + mc, cs.2 + ms) = cs') (h1 : cs'.1 ≤ tot.1) (h2 : cs'.2 ≤ tot.2) (hlen : shC.length = x + mc) (hx : sh.length = x) (hpos : 0 < x) (k : ∀ v mi' ml' mr', Q' v mi' ml' mr' → fc_TN E y (d + 1) tot shF true cs' shC (pc + 3) lv (v.toList ++ st) mi' ml' mr' Q) : fc_TN E y (d + 1) tot shF true cs sh pc lv (.ref q :: st) mi ml mr Q := by
  subst hx; subst hcs; exact fc_n_ctorN hd hM hz hz0 hnm hinst hlink hroom h1 h2 hlen (by omega) k
end N3
abbrev sX7 (sh : fc_Sh) : fc_Sh := sh ++ [(20, 5)] ++ [(20, 5)] ++ [(20, 5)] ++ [(20, 5)] ++ [(20, 5)] ++ [(20, 6)] ++ [(20, 6)]
def kX7 (n q : Nat) (mr : fc_Mr) : fc_Mr := (fc_u (fc_u (fc_u (fc_u (fc_u (fc_u (fc_u mr q 2 (some (n))) q 3 (some (n + 1))) q 4 (some (n + 2))) q 5 (some (n + 3))) q 6 (some (n + 4))) q 7 (some (n + 5))) q 8 (some (n + 6)))
theorem lX7 {sh : fc_Sh} {n : Nat} (h : sh.length = n) : (sX7 sh).length = n + 7 := (fc_ln (fc_ln (fc_ln (fc_ln (fc_ln (fc_ln (fc_ln h)))))))
theorem aX7 {sh : fc_Sh} {q : Nat} {c : Nat × Nat} (h : sh[q]? = some c) : (sX7 sh)[q]? = some c := (fc_sha (fc_sha (fc_sha (fc_sha (fc_sha (fc_sha (fc_sha h)))))))
theorem fX7 {n q : Nat} {mi : fc_Mi} {ml : fc_Ml} {mr : fc_Mr} (hf : fc_f0 n mi ml mr) (hqn : q < n) : fc_f0 (n + 7) mi ml (kX7 n q mr) := by
  have h0n : 0 < n := Nat.lt_of_le_of_lt (Nat.zero_le q) hqn
  have hf2 := fc_f0.s hf
  have hf4 := fc_f0.r (q := q) (j := 2) (x := some (n)) hf2 (fc_o1 (k := 1) hqn)
  have hf6 := fc_f0.s hf4
  have hf8 := fc_f0.r (q := q) (j := 3) (x := some (n + 1)) hf6 (fc_o1 (k := 2) hqn)
  have hf10 := fc_f0.s hf8
  have hf12 := fc_f0.r (q := q) (j := 4) (x := some (n + 2)) hf10 (fc_o1 (k := 3) hqn)
  have hf14 := fc_f0.s hf12
  have hf16 := fc_f0.r (q := q) (j := 5) (x := some (n + 3)) hf14 (fc_o1 (k := 4) hqn)
  have hf18 := fc_f0.s hf16
  have hf20 := fc_f0.r (q := q) (j := 6) (x := some (n + 4)) hf18 (fc_o1 (k := 5) hqn)
  have hf22 := fc_f0.s hf20
  have hf24 := fc_f0.r (q := q) (j := 7) (x := some (n + 5)) hf22 (fc_o1 (k := 6) hqn)
  have hf26 := fc_f0.s hf24
  have hf28 := fc_f0.r (q := q) (j := 8) (x := some (n + 6)) hf26 (fc_o1 (k := 7) hqn)
  exact hf28
theorem n_X7 {E : fc_E} {d n q : Nat} {sh : fc_Sh} {mi : fc_Mi} {ml : fc_Ml} {mr : fc_Mr} (hq : sh[q]? = some (7, 0)) (hn : sh.length = n) (hf : fc_f0 n mi ml mr) : fc_RN E mX7_init (d + 0) 7 37 sh (sX7 sh) [.ref q] mi ml mr (fun v a b e => v = none ∧ a = mi ∧ b = ml ∧ e = kX7 n q mr) := by
  have hqn : q < n := by rw [← hn]; exact fc_shl hq
  have h0n : 0 < n := Nat.lt_of_le_of_lt (Nat.zero_le q) hqn
  refine fc_metN rfl (Nat.le_of_ble_eq_true rfl) ?_
  refine fc_n_aload_n (i := 0) dX7_init_0 rfl rfl ?_
  refine fc_n_oinit dX7_init_1 (fc_G_of 240 (by decide +kernel) rfl) (Nat.le_of_ble_eq_true rfl) ?_
  refine fc_n_aload_n (i := 0) dX7_init_4 rfl rfl ?_
  refine fc_n_iconst (v := 5) dX7_init_5 rfl ?_
  refine nw_I (N := 5) (cs' := (1, 5)) dX7_init_6 rfl (by decide) hn hf rfl (by decide) (by decide) ?_
  have hn1 := fc_ln (c := (20, 5)) hn
  have hf2 := fc_f0.s hf
  have hq3 := fc_sha (l := [(20, 5)]) hq
  refine fc_n_putF (ci := 7) (j := 2) (r := (RX7, TX7, 9)) (ty := (.array .int)) dX7_init_8 rfl (by decide) (by decide) (fc_G_of 245 (by decide +kernel) rfl) rfl hq3 rfl rfl rfl (by decide +kernel) rfl ?_
  have hf4 := fc_f0.r (q := q) (j := 2) (x := some (n)) hf2 (fc_o1 (k := 1) hqn)
  refine fc_n_aload_n (i := 0) dX7_init_11 rfl rfl ?_
  refine fc_n_iconst (v := 5) dX7_init_12 rfl ?_
  refine nw_I (N := 5) (cs' := (2, 10)) dX7_init_13 rfl (by decide) hn1 hf4 rfl (by decide) (by decide) ?_
  have hn5 := fc_ln (c := (20, 5)) hn1
  have hf6 := fc_f0.s hf4
  have hq7 := fc_sha (l := [(20, 5)]) hq3
  refine fc_n_putF (ci := 7) (j := 3) (r := (RX7, TX7, 9)) (ty := (.array .int)) dX7_init_15 rfl (by decide) (by decide) (fc_G_of 247 (by decide +kernel) rfl) rfl hq7 rfl rfl rfl (by decide +kernel) rfl ?_
  have hf8 := fc_f0.r (q := q) (j := 3) (x := some (n + 1)) hf6 (fc_o1 (k := 2) hqn)
  refine fc_n_aload_n (i := 0) dX7_init_18 rfl rfl ?_
  refine fc_n_iconst (v := 5) dX7_init_19 rfl ?_
  refine nw_I (N := 5) (cs' := (3, 15)) dX7_init_20 rfl (by decide) hn5 hf8 rfl (by decide) (by decide) ?_
  have hn9 := fc_ln (c := (20, 5)) hn5
  have hf10 := fc_f0.s hf8
  have hq11 := fc_sha (l := [(20, 5)]) hq7
  refine fc_n_putF (ci := 7) (j := 4) (r := (RX7, TX7, 9)) (ty := (.array .int)) dX7_init_22 rfl (by decide) (by decide) (fc_G_of 248 (by decide +kernel) rfl) rfl hq11 rfl rfl rfl (by decide +kernel) rfl ?_
  have hf12 := fc_f0.r (q := q) (j := 4) (x := some (n + 2)) hf10 (fc_o1 (k := 3) hqn)
  refine fc_n_aload_n (i := 0) dX7_init_25 rfl rfl ?_
  refine fc_n_iconst (v := 5) dX7_init_26 rfl ?_
  refine nw_I (N := 5) (cs' := (4, 20)) dX7_init_27 rfl (by decide) hn9 hf12 rfl (by decide) (by decide) ?_
  have hn13 := fc_ln (c := (20, 5)) hn9
  have hf14 := fc_f0.s hf12
  have hq15 := fc_sha (l := [(20, 5)]) hq11
  refine fc_n_putF (ci := 7) (j := 5) (r := (RX7, TX7, 9)) (ty := (.array .int)) dX7_init_29 rfl (by decide) (by decide) (fc_G_of 250 (by decide +kernel) rfl) rfl hq15 rfl rfl rfl (by decide +kernel) rfl ?_
  have hf16 := fc_f0.r (q := q) (j := 5) (x := some (n + 3)) hf14 (fc_o1 (k := 4) hqn)
  refine fc_n_aload_n (i := 0) dX7_init_32 rfl rfl ?_
  refine fc_n_iconst (v := 5) dX7_init_33 rfl ?_
  refine nw_I (N := 5) (cs' := (5, 25)) dX7_init_34 rfl (by decide) hn13 hf16 rfl (by decide) (by decide) ?_
  have hn17 := fc_ln (c := (20, 5)) hn13
  have hf18 := fc_f0.s hf16
  have hq19 := fc_sha (l := [(20, 5)]) hq15
  refine fc_n_putF (ci := 7) (j := 6) (r := (RX7, TX7, 9)) (ty := (.array .int)) dX7_init_36 rfl (by decide) (by decide) (fc_G_of 252 (by decide +kernel) rfl) rfl hq19 rfl rfl rfl (by decide +kernel) rfl ?_
  have hf20 := fc_f0.r (q := q) (j := 6) (x := some (n + 4)) hf18 (fc_o1 (k := 5) hqn)
  refine fc_n_aload_n (i := 0) dX7_init_39 rfl rfl ?_
  refine fc_n_bipush (v := 6) dX7_init_40 rfl ?_
  refine nw_I (N := 6) (cs' := (6, 31)) dX7_init_42 rfl (by decide) hn17 hf20 rfl (by decide) (by decide) ?_
  have hn21 := fc_ln (c := (20, 6)) hn17
  have hf22 := fc_f0.s hf20
  have hq23 := fc_sha (l := [(20, 6)]) hq19
  refine fc_n_putF (ci := 7) (j := 7) (r := (RX7, TX7, 9)) (ty := (.array .int)) dX7_init_44 rfl (by decide) (by decide) (fc_G_of 254 (by decide +kernel) rfl) rfl hq23 rfl rfl rfl (by decide +kernel) rfl ?_
  have hf24 := fc_f0.r (q := q) (j := 7) (x := some (n + 5)) hf22 (fc_o1 (k := 6) hqn)
  refine fc_n_aload_n (i := 0) dX7_init_47 rfl rfl ?_
  refine fc_n_bipush (v := 6) dX7_init_48 rfl ?_
  refine nw_I (N := 6) (cs' := (7, 37)) dX7_init_50 rfl (by decide) hn21 hf24 rfl (by decide) (by decide) ?_
  have hn25 := fc_ln (c := (20, 6)) hn21
  have hf26 := fc_f0.s hf24
  have hq27 := fc_sha (l := [(20, 6)]) hq23
  refine fc_n_putF (ci := 7) (j := 8) (r := (RX7, TX7, 9)) (ty := (.array .int)) dX7_init_52 rfl (by decide) (by decide) (fc_G_of 256 (by decide +kernel) rfl) rfl hq27 rfl rfl rfl (by decide +kernel) rfl ?_
  have hf28 := fc_f0.r (q := q) (j := 8) (x := some (n + 6)) hf26 (fc_o1 (k := 7) hqn)
  exact fc_n_ret (v := none) ⟨dX7_init_55, rfl⟩ ⟨rfl, rfl, rfl, rfl⟩ (by decide) (by decide)
abbrev sX6 (sh : fc_Sh) : fc_Sh := sh ++ [(20, 8)] ++ [(20, 8)] ++ [(22, 8)]
def kX6 (n q : Nat) (mr : fc_Mr) : fc_Mr := (fc_u (fc_u (fc_u mr q 0 (some (n))) q 1 (some (n + 1))) q 2 (some (n + 2)))
theorem lX6 {sh : fc_Sh} {n : Nat} (h : sh.length = n) : (sX6 sh).length = n + 3 := (fc_ln (fc_ln (fc_ln h)))
theorem aX6 {sh : fc_Sh} {q : Nat} {c : Nat × Nat} (h : sh[q]? = some c) : (sX6 sh)[q]? = some c := (fc_sha (fc_sha (fc_sha h)))
theorem fX6 {n q : Nat} {mi : fc_Mi} {ml : fc_Ml} {mr : fc_Mr} (hf : fc_f0 n mi ml mr) (hqn : q < n) : fc_f0 (n + 3) mi ml (kX6 n q mr) := by
  have h0n : 0 < n := Nat.lt_of_le_of_lt (Nat.zero_le q) hqn
  have hf2 := fc_f0.s hf
  have hf4 := fc_f0.r (q := q) (j := 0) (x := some (n)) hf2 (fc_o1 (k := 1) hqn)
  have hf6 := fc_f0.s hf4
  have hf8 := fc_f0.r (q := q) (j := 1) (x := some (n + 1)) hf6 (fc_o1 (k := 2) hqn)
  have hf10 := fc_f0.s hf8
  have hf12 := fc_f0.r (q := q) (j := 2) (x := some (n + 2)) hf10 (fc_o1 (k := 3) hqn)
  exact hf12
theorem n_X6 {E : fc_E} {d n q : Nat} {sh : fc_Sh} {mi : fc_Mi} {ml : fc_Ml} {mr : fc_Mr} (hq : sh[q]? = some (6, 0)) (hn : sh.length = n) (hf : fc_f0 n mi ml mr) : fc_RN E mX6_init (d + 0) 3 24 sh (sX6 sh) [.ref q] mi ml mr (fun v a b e => v = none ∧ a = mi ∧ b = ml ∧ e = kX6 n q mr) := by
  have hqn : q < n := by rw [← hn]; exact fc_shl hq
  have h0n : 0 < n := Nat.lt_of_le_of_lt (Nat.zero_le q) hqn
  refine fc_metN rfl (Nat.le_of_ble_eq_true rfl) ?_
  refine fc_n_aload_n (i := 0) dX6_init_0 rfl rfl ?_
  refine fc_n_oinit dX6_init_1 (fc_G_of 292 (by decide +kernel) rfl) (Nat.le_of_ble_eq_true rfl) ?_
  refine fc_n_aload_n (i := 0) dX6_init_4 rfl rfl ?_
  refine fc_n_bipush (v := 8) dX6_init_5 rfl ?_
  refine nw_I (N := 8) (cs' := (1, 8)) dX6_init_7 rfl (by decide) hn hf rfl (by decide) (by decide) ?_
  have hn1 := fc_ln (c := (20, 8)) hn
  have hf2 := fc_f0.s hf
  have hq3 := fc_sha (l := [(20, 8)]) hq
  refine fc_n_putF (ci := 6) (j := 0) (r := (RX6, TX6, 4)) (ty := (.array .int)) dX6_init_9 rfl (by decide) (by decide) (fc_G_of 293 (by decide +kernel) rfl) rfl hq3 rfl rfl rfl (by decide +kernel) rfl ?_
  have hf4 := fc_f0.r (q := q) (j := 0) (x := some (n)) hf2 (fc_o1 (k := 1) hqn)
  refine fc_n_aload_n (i := 0) dX6_init_12 rfl rfl ?_
  refine fc_n_bipush (v := 8) dX6_init_13 rfl ?_
  refine nw_I (N := 8) (cs' := (2, 16)) dX6_init_15 rfl (by decide) hn1 hf4 rfl (by decide) (by decide) ?_
  have hn5 := fc_ln (c := (20, 8)) hn1
  have hf6 := fc_f0.s hf4
  have hq7 := fc_sha (l := [(20, 8)]) hq3
  refine fc_n_putF (ci := 6) (j := 1) (r := (RX6, TX6, 4)) (ty := (.array .int)) dX6_init_17 rfl (by decide) (by decide) (fc_G_of 295 (by decide +kernel) rfl) rfl hq7 rfl rfl rfl (by decide +kernel) rfl ?_
  have hf8 := fc_f0.r (q := q) (j := 1) (x := some (n + 1)) hf6 (fc_o1 (k := 2) hqn)
  refine fc_n_aload_n (i := 0) dX6_init_20 rfl rfl ?_
  refine fc_n_bipush (v := 8) dX6_init_21 rfl ?_
  refine nw_Z (N := 8) (cs' := (3, 24)) dX6_init_23 rfl (by decide) hn5 hf8 rfl (by decide) (by decide) ?_
  have hn9 := fc_ln (c := (22, 8)) hn5
  have hf10 := fc_f0.s hf8
  have hq11 := fc_sha (l := [(22, 8)]) hq7
  refine fc_n_putF (ci := 6) (j := 2) (r := (RX6, TX6, 4)) (ty := (.array .boolean)) dX6_init_25 rfl (by decide) (by decide) (fc_G_of 297 (by decide +kernel) rfl) rfl hq11 rfl rfl rfl (by decide +kernel) rfl ?_
  have hf12 := fc_f0.r (q := q) (j := 2) (x := some (n + 2)) hf10 (fc_o1 (k := 3) hqn)
  exact fc_n_ret (v := none) ⟨dX6_init_28, rfl⟩ ⟨rfl, rfl, rfl, rfl⟩ (by decide) (by decide)
abbrev sX8 (sh : fc_Sh) : fc_Sh := sh ++ [(23, 1000)]
def kX8 (n q : Nat) (mr : fc_Mr) : fc_Mr := (fc_u mr q 0 (some (n)))
theorem lX8 {sh : fc_Sh} {n : Nat} (h : sh.length = n) : (sX8 sh).length = n + 1 := (fc_ln h)
theorem aX8 {sh : fc_Sh} {q : Nat} {c : Nat × Nat} (h : sh[q]? = some c) : (sX8 sh)[q]? = some c := (fc_sha h)
theorem fX8 {n q : Nat} {mi : fc_Mi} {ml : fc_Ml} {mr : fc_Mr} (hf : fc_f0 n mi ml mr) (hqn : q < n) : fc_f0 (n + 1) mi ml (kX8 n q mr) := by
  have h0n : 0 < n := Nat.lt_of_le_of_lt (Nat.zero_le q) hqn
  have hf2 := fc_f0.s hf
  have hf4 := fc_f0.r (q := q) (j := 0) (x := some (n)) hf2 (fc_o1 (k := 1) hqn)
  exact hf4
theorem n_X8 {E : fc_E} {d n q : Nat} {sh : fc_Sh} {mi : fc_Mi} {ml : fc_Ml} {mr : fc_Mr} (hq : sh[q]? = some (8, 0)) (hn : sh.length = n) (hf : fc_f0 n mi ml mr) : fc_RN E mX8_init (d + 0) 1 1000 sh (sX8 sh) [.ref q] mi ml mr (fun v a b e => v = none ∧ a = mi ∧ b = ml ∧ e = kX8 n q mr) := by
  have hqn : q < n := by rw [← hn]; exact fc_shl hq
  have h0n : 0 < n := Nat.lt_of_le_of_lt (Nat.zero_le q) hqn
  refine fc_metN rfl (Nat.le_of_ble_eq_true rfl) ?_
  refine fc_n_aload_n (i := 0) dX8_init_0 rfl rfl ?_
  refine fc_n_oinit dX8_init_1 (fc_G_of 144 (by decide +kernel) rfl) (Nat.le_of_ble_eq_true rfl) ?_
  refine fc_n_aload_n (i := 0) dX8_init_4 rfl rfl ?_
  refine fc_n_sipush (v := 1000) dX8_init_5 rfl ?_
  refine nw_C (N := 1000) (cs' := (1, 1000)) dX8_init_8 rfl (by decide) hn hf rfl (by decide) (by decide) ?_
  have hn1 := fc_ln (c := (23, 1000)) hn
  have hf2 := fc_f0.s hf
  have hq3 := fc_sha (l := [(23, 1000)]) hq
  refine fc_n_putF (ci := 8) (j := 0) (r := (RX8, TX8, 8)) (ty := (.array .char)) dX8_init_10 rfl (by decide) (by decide) (fc_G_of 145 (by decide +kernel) rfl) rfl hq3 rfl rfl rfl (by decide +kernel) rfl ?_
  have hf4 := fc_f0.r (q := q) (j := 0) (x := some (n)) hf2 (fc_o1 (k := 1) hqn)
  exact fc_n_ret (v := none) ⟨dX8_init_13, rfl⟩ ⟨rfl, rfl, rfl, rfl⟩ (by decide) (by decide)
abbrev sX2 (sh : fc_Sh) : fc_Sh := sh ++ [(20, 1000)] ++ [(20, 64)]
def kX2 (n q : Nat) (mr : fc_Mr) : fc_Mr := (fc_u (fc_u mr q 0 (some (n))) q 1 (some (n + 1)))
theorem lX2 {sh : fc_Sh} {n : Nat} (h : sh.length = n) : (sX2 sh).length = n + 2 := (fc_ln (fc_ln h))
theorem aX2 {sh : fc_Sh} {q : Nat} {c : Nat × Nat} (h : sh[q]? = some c) : (sX2 sh)[q]? = some c := (fc_sha (fc_sha h))
theorem fX2 {n q : Nat} {mi : fc_Mi} {ml : fc_Ml} {mr : fc_Mr} (hf : fc_f0 n mi ml mr) (hqn : q < n) : fc_f0 (n + 2) mi ml (kX2 n q mr) := by
  have h0n : 0 < n := Nat.lt_of_le_of_lt (Nat.zero_le q) hqn
  have hf2 := fc_f0.s hf
  have hf4 := fc_f0.r (q := q) (j := 0) (x := some (n)) hf2 (fc_o1 (k := 1) hqn)
  have hf6 := fc_f0.s hf4
  have hf8 := fc_f0.r (q := q) (j := 1) (x := some (n + 1)) hf6 (fc_o1 (k := 2) hqn)
  exact hf8
theorem n_X2 {E : fc_E} {d n q : Nat} {sh : fc_Sh} {mi : fc_Mi} {ml : fc_Ml} {mr : fc_Mr} (hq : sh[q]? = some (2, 0)) (hn : sh.length = n) (hf : fc_f0 n mi ml mr) : fc_RN E mX2_init (d + 0) 2 1064 sh (sX2 sh) [.ref q] mi ml mr (fun v a b e => v = none ∧ a = mi ∧ b = ml ∧ e = kX2 n q mr) := by
  have hqn : q < n := by rw [← hn]; exact fc_shl hq
  have h0n : 0 < n := Nat.lt_of_le_of_lt (Nat.zero_le q) hqn
  refine fc_metN rfl (Nat.le_of_ble_eq_true rfl) ?_
  refine fc_n_aload_n (i := 0) dX2_init_0 rfl rfl ?_
  refine fc_n_oinit dX2_init_1 (fc_G_of 344 (by decide +kernel) rfl) (Nat.le_of_ble_eq_true rfl) ?_
  refine fc_n_aload_n (i := 0) dX2_init_4 rfl rfl ?_
  refine fc_n_sipush (v := 1000) dX2_init_5 rfl ?_
  refine nw_I (N := 1000) (cs' := (1, 1000)) dX2_init_8 rfl (by decide) hn hf rfl (by decide) (by decide) ?_
  have hn1 := fc_ln (c := (20, 1000)) hn
  have hf2 := fc_f0.s hf
  have hq3 := fc_sha (l := [(20, 1000)]) hq
  refine fc_n_putF (ci := 2) (j := 0) (r := (RX2, TX2, 3)) (ty := (.array .int)) dX2_init_10 rfl (by decide) (by decide) (fc_G_of 345 (by decide +kernel) rfl) rfl hq3 rfl rfl rfl (by decide +kernel) rfl ?_
  have hf4 := fc_f0.r (q := q) (j := 0) (x := some (n)) hf2 (fc_o1 (k := 1) hqn)
  refine fc_n_aload_n (i := 0) dX2_init_13 rfl rfl ?_
  refine fc_n_bipush (v := 64) dX2_init_14 rfl ?_
  refine nw_I (N := 64) (cs' := (2, 1064)) dX2_init_16 rfl (by decide) hn1 hf4 rfl (by decide) (by decide) ?_
  have hn5 := fc_ln (c := (20, 64)) hn1
  have hf6 := fc_f0.s hf4
  have hq7 := fc_sha (l := [(20, 64)]) hq3
  refine fc_n_putF (ci := 2) (j := 1) (r := (RX2, TX2, 3)) (ty := (.array .int)) dX2_init_18 rfl (by decide) (by decide) (fc_G_of 346 (by decide +kernel) rfl) rfl hq7 rfl rfl rfl (by decide +kernel) rfl ?_
  have hf8 := fc_f0.r (q := q) (j := 1) (x := some (n + 1)) hf6 (fc_o1 (k := 2) hqn)
  exact fc_n_ret (v := none) ⟨dX2_init_21, rfl⟩ ⟨rfl, rfl, rfl, rfl⟩ (by decide) (by decide)
abbrev sX3 (sh : fc_Sh) : fc_Sh := sh ++ [(20, 64)]
def kX3 (n q : Nat) (mr : fc_Mr) : fc_Mr := (fc_u mr q 0 (some (n)))
theorem lX3 {sh : fc_Sh} {n : Nat} (h : sh.length = n) : (sX3 sh).length = n + 1 := (fc_ln h)
theorem aX3 {sh : fc_Sh} {q : Nat} {c : Nat × Nat} (h : sh[q]? = some c) : (sX3 sh)[q]? = some c := (fc_sha h)
theorem fX3 {n q : Nat} {mi : fc_Mi} {ml : fc_Ml} {mr : fc_Mr} (hf : fc_f0 n mi ml mr) (hqn : q < n) : fc_f0 (n + 1) mi ml (kX3 n q mr) := by
  have h0n : 0 < n := Nat.lt_of_le_of_lt (Nat.zero_le q) hqn
  have hf2 := fc_f0.s hf
  have hf4 := fc_f0.r (q := q) (j := 0) (x := some (n)) hf2 (fc_o1 (k := 1) hqn)
  exact hf4
theorem n_X3 {E : fc_E} {d n q : Nat} {sh : fc_Sh} {mi : fc_Mi} {ml : fc_Ml} {mr : fc_Mr} (hq : sh[q]? = some (3, 0)) (hn : sh.length = n) (hf : fc_f0 n mi ml mr) : fc_RN E mX3_init (d + 0) 1 64 sh (sX3 sh) [.ref q] mi ml mr (fun v a b e => v = none ∧ a = mi ∧ b = ml ∧ e = kX3 n q mr) := by
  have hqn : q < n := by rw [← hn]; exact fc_shl hq
  have h0n : 0 < n := Nat.lt_of_le_of_lt (Nat.zero_le q) hqn
  refine fc_metN rfl (Nat.le_of_ble_eq_true rfl) ?_
  refine fc_n_aload_n (i := 0) dX3_init_0 rfl rfl ?_
  refine fc_n_oinit dX3_init_1 (fc_G_of 191 (by decide +kernel) rfl) (Nat.le_of_ble_eq_true rfl) ?_
  refine fc_n_aload_n (i := 0) dX3_init_4 rfl rfl ?_
  refine fc_n_bipush (v := 64) dX3_init_5 rfl ?_
  refine nw_I (N := 64) (cs' := (1, 64)) dX3_init_7 rfl (by decide) hn hf rfl (by decide) (by decide) ?_
  have hn1 := fc_ln (c := (20, 64)) hn
  have hf2 := fc_f0.s hf
  have hq3 := fc_sha (l := [(20, 64)]) hq
  refine fc_n_putF (ci := 3) (j := 0) (r := (RX3, TX3, 4)) (ty := (.array .int)) dX3_init_9 rfl (by decide) (by decide) (fc_G_of 192 (by decide +kernel) rfl) rfl hq3 rfl rfl rfl (by decide +kernel) rfl ?_
  have hf4 := fc_f0.r (q := q) (j := 0) (x := some (n)) hf2 (fc_o1 (k := 1) hqn)
  exact fc_n_ret (v := none) ⟨dX3_init_12, rfl⟩ ⟨rfl, rfl, rfl, rfl⟩ (by decide) (by decide)
abbrev sX5 (sh : fc_Sh) : fc_Sh := sh ++ [(20, 40)] ++ [(20, 40)] ++ [(20, 40)]
def kX5 (n q : Nat) (mr : fc_Mr) : fc_Mr := (fc_u (fc_u (fc_u mr q 0 (some (n))) q 1 (some (n + 1))) q 2 (some (n + 2)))
theorem lX5 {sh : fc_Sh} {n : Nat} (h : sh.length = n) : (sX5 sh).length = n + 3 := (fc_ln (fc_ln (fc_ln h)))
theorem aX5 {sh : fc_Sh} {q : Nat} {c : Nat × Nat} (h : sh[q]? = some c) : (sX5 sh)[q]? = some c := (fc_sha (fc_sha (fc_sha h)))
theorem fX5 {n q : Nat} {mi : fc_Mi} {ml : fc_Ml} {mr : fc_Mr} (hf : fc_f0 n mi ml mr) (hqn : q < n) : fc_f0 (n + 3) mi ml (kX5 n q mr) := by
  have h0n : 0 < n := Nat.lt_of_le_of_lt (Nat.zero_le q) hqn
  have hf2 := fc_f0.s hf
  have hf4 := fc_f0.r (q := q) (j := 0) (x := some (n)) hf2 (fc_o1 (k := 1) hqn)
  have hf6 := fc_f0.s hf4
  have hf8 := fc_f0.r (q := q) (j := 1) (x := some (n + 1)) hf6 (fc_o1 (k := 2) hqn)
  have hf10 := fc_f0.s hf8
  have hf12 := fc_f0.r (q := q) (j := 2) (x := some (n + 2)) hf10 (fc_o1 (k := 3) hqn)
  exact hf12
theorem n_X5 {E : fc_E} {d n q : Nat} {sh : fc_Sh} {mi : fc_Mi} {ml : fc_Ml} {mr : fc_Mr} (hq : sh[q]? = some (5, 0)) (hn : sh.length = n) (hf : fc_f0 n mi ml mr) : fc_RN E mX5_init (d + 0) 3 120 sh (sX5 sh) [.ref q] mi ml mr (fun v a b e => v = none ∧ a = mi ∧ b = ml ∧ e = kX5 n q mr) := by
  have hqn : q < n := by rw [← hn]; exact fc_shl hq
  have h0n : 0 < n := Nat.lt_of_le_of_lt (Nat.zero_le q) hqn
  refine fc_metN rfl (Nat.le_of_ble_eq_true rfl) ?_
  refine fc_n_aload_n (i := 0) dX5_init_0 rfl rfl ?_
  refine fc_n_oinit dX5_init_1 (fc_G_of 451 (by decide +kernel) rfl) (Nat.le_of_ble_eq_true rfl) ?_
  refine fc_n_aload_n (i := 0) dX5_init_4 rfl rfl ?_
  refine fc_n_bipush (v := 40) dX5_init_5 rfl ?_
  refine nw_I (N := 40) (cs' := (1, 40)) dX5_init_7 rfl (by decide) hn hf rfl (by decide) (by decide) ?_
  have hn1 := fc_ln (c := (20, 40)) hn
  have hf2 := fc_f0.s hf
  have hq3 := fc_sha (l := [(20, 40)]) hq
  refine fc_n_putF (ci := 5) (j := 0) (r := (RX5, TX5, 4)) (ty := (.array .int)) dX5_init_9 rfl (by decide) (by decide) (fc_G_of 452 (by decide +kernel) rfl) rfl hq3 rfl rfl rfl (by decide +kernel) rfl ?_
  have hf4 := fc_f0.r (q := q) (j := 0) (x := some (n)) hf2 (fc_o1 (k := 1) hqn)
  refine fc_n_aload_n (i := 0) dX5_init_12 rfl rfl ?_
  refine fc_n_bipush (v := 40) dX5_init_13 rfl ?_
  refine nw_I (N := 40) (cs' := (2, 80)) dX5_init_15 rfl (by decide) hn1 hf4 rfl (by decide) (by decide) ?_
  have hn5 := fc_ln (c := (20, 40)) hn1
  have hf6 := fc_f0.s hf4
  have hq7 := fc_sha (l := [(20, 40)]) hq3
  refine fc_n_putF (ci := 5) (j := 1) (r := (RX5, TX5, 4)) (ty := (.array .int)) dX5_init_17 rfl (by decide) (by decide) (fc_G_of 453 (by decide +kernel) rfl) rfl hq7 rfl rfl rfl (by decide +kernel) rfl ?_
  have hf8 := fc_f0.r (q := q) (j := 1) (x := some (n + 1)) hf6 (fc_o1 (k := 2) hqn)
  refine fc_n_aload_n (i := 0) dX5_init_20 rfl rfl ?_
  refine fc_n_bipush (v := 40) dX5_init_21 rfl ?_
  refine nw_I (N := 40) (cs' := (3, 120)) dX5_init_23 rfl (by decide) hn5 hf8 rfl (by decide) (by decide) ?_
  have hn9 := fc_ln (c := (20, 40)) hn5
  have hf10 := fc_f0.s hf8
  have hq11 := fc_sha (l := [(20, 40)]) hq7
  refine fc_n_putF (ci := 5) (j := 2) (r := (RX5, TX5, 4)) (ty := (.array .int)) dX5_init_25 rfl (by decide) (by decide) (fc_G_of 454 (by decide +kernel) rfl) rfl hq11 rfl rfl rfl (by decide +kernel) rfl ?_
  have hf12 := fc_f0.r (q := q) (j := 2) (x := some (n + 2)) hf10 (fc_o1 (k := 3) hqn)
  exact fc_n_ret (v := none) ⟨dX5_init_28, rfl⟩ ⟨rfl, rfl, rfl, rfl⟩ (by decide) (by decide)
abbrev sX9 (sh : fc_Sh) : fc_Sh := sh ++ [(26, 7), (20, 7), (20, 7), (20, 7), (20, 7), (20, 7), (20, 7), (20, 7)] ++ [(20, 128)] ++ [(20, 128)]
def kX9 (n q : Nat) (mr : fc_Mr) : fc_Mr := (fc_u (fc_u (fc_u (fc_ur mr (n) (fun j => if j < 7 then some (n + 1 + j) else none)) q 0 (some (n))) q 1 (some (n + 8))) q 2 (some (n + 9)))
theorem lX9 {sh : fc_Sh} {n : Nat} (h : sh.length = n) : (sX9 sh).length = n + 10 := (fc_ln (fc_ln (fc_ln8 h)))
theorem aX9 {sh : fc_Sh} {q : Nat} {c : Nat × Nat} (h : sh[q]? = some c) : (sX9 sh)[q]? = some c := (fc_sha (fc_sha (fc_sha h)))
theorem fX9 {n q : Nat} {mi : fc_Mi} {ml : fc_Ml} {mr : fc_Mr} (hf : fc_f0 n mi ml mr) (hqn : q < n) : fc_f0 (n + 10) mi ml (kX9 n q mr) := by
  have h0n : 0 < n := Nat.lt_of_le_of_lt (Nat.zero_le q) hqn
  have hf2 := fc_f0.m8 (g := fun j => if j < 7 then some (n + 1 + j) else none) hf
  have hf4 := fc_f0.r (q := q) (j := 0) (x := some (n)) hf2 (fc_o1 (k := 8) hqn)
  have hf6 := fc_f0.s hf4
  have hf8 := fc_f0.r (q := q) (j := 1) (x := some (n + 8)) hf6 (fc_o1 (k := 9) hqn)
  have hf10 := fc_f0.s hf8
  have hf12 := fc_f0.r (q := q) (j := 2) (x := some (n + 9)) hf10 (fc_o1 (k := 10) hqn)
  exact hf12
theorem n_X9 {E : fc_E} {d n q : Nat} {sh : fc_Sh} {mi : fc_Mi} {ml : fc_Ml} {mr : fc_Mr} (hq : sh[q]? = some (9, 0)) (hn : sh.length = n) (hf : fc_f0 n mi ml mr) : fc_RN E mX9_init (d + 0) 10 312 sh (sX9 sh) [.ref q] mi ml mr (fun v a b e => v = none ∧ a = mi ∧ b = ml ∧ e = kX9 n q mr) := by
  have hqn : q < n := by rw [← hn]; exact fc_shl hq
  have h0n : 0 < n := Nat.lt_of_le_of_lt (Nat.zero_le q) hqn
  refine fc_metN rfl (Nat.le_of_ble_eq_true rfl) ?_
  refine fc_n_aload_n (i := 0) dX9_init_0 rfl rfl ?_
  refine fc_n_oinit dX9_init_1 (fc_G_of 221 (by decide +kernel) rfl) (Nat.le_of_ble_eq_true rfl) ?_
  refine fc_n_aload_n (i := 0) dX9_init_4 rfl rfl ?_
  refine fc_n_bipush (v := 7) dX9_init_5 rfl ?_
  refine fc_n_bipush (v := 7) dX9_init_7 rfl ?_
  refine nw_multi (cs' := (8, 56)) dX9_init_9 (fc_G_of 222 (by decide +kernel) rfl) hn hf rfl (by decide) (by decide) ?_
  have hn1 := fc_ln8 hn
  have hf2 := fc_f0.m8 (g := fun j => if j < 7 then some (n + 1 + j) else none) hf
  have hq3 := fc_sha (l := [(26, 7), (20, 7), (20, 7), (20, 7), (20, 7), (20, 7), (20, 7), (20, 7)]) hq
  refine fc_n_putF (ci := 9) (j := 0) (r := (RX9, TX9, 3)) (ty := (.array (.array .int))) dX9_init_13 rfl (by decide) (by decide) (fc_G_of 224 (by decide +kernel) rfl) rfl hq3 rfl rfl rfl (by decide +kernel) rfl ?_
  have hf4 := fc_f0.r (q := q) (j := 0) (x := some (n)) hf2 (fc_o1 (k := 8) hqn)
  refine fc_n_aload_n (i := 0) dX9_init_16 rfl rfl ?_
  refine fc_n_sipush (v := 128) dX9_init_17 rfl ?_
  refine nw_I (N := 128) (cs' := (9, 184)) dX9_init_20 rfl (by decide) hn1 hf4 rfl (by decide) (by decide) ?_
  have hn5 := fc_ln (c := (20, 128)) hn1
  have hf6 := fc_f0.s hf4
  have hq7 := fc_sha (l := [(20, 128)]) hq3
  refine fc_n_putr (ci := 9) (j := 1) (r := (RX9, TX9, 3)) (ty := (.array .int)) dX9_init_22 rfl (by decide) (by decide) (fc_G_of 226 (by decide +kernel) rfl) rfl hq7 rfl (by decide +kernel) rfl ?_
  have hf8 := fc_f0.r (q := q) (j := 1) (x := some (n + 8)) hf6 (fc_o1 (k := 9) hqn)
  refine fc_n_aload_n (i := 0) dX9_init_25 rfl rfl ?_
  refine fc_n_sipush (v := 128) dX9_init_26 rfl ?_
  refine nw_I (N := 128) (cs' := (10, 312)) dX9_init_29 rfl (by decide) hn5 hf8 rfl (by decide) (by decide) ?_
  have hn9 := fc_ln (c := (20, 128)) hn5
  have hf10 := fc_f0.s hf8
  have hq11 := fc_sha (l := [(20, 128)]) hq7
  refine fc_n_putr (ci := 9) (j := 2) (r := (RX9, TX9, 3)) (ty := (.array .int)) dX9_init_31 rfl (by decide) (by decide) (fc_G_of 227 (by decide +kernel) rfl) rfl hq11 rfl (by decide +kernel) rfl ?_
  have hf12 := fc_f0.r (q := q) (j := 2) (x := some (n + 9)) hf10 (fc_o1 (k := 10) hqn)
  exact fc_n_ret (v := none) ⟨dX9_init_34, rfl⟩ ⟨rfl, rfl, rfl, rfl⟩ (by decide) (by decide)
abbrev sX0 (sh : fc_Sh) : fc_Sh := sX2 (sh ++ [(21, 7)] ++ [(21, 5)] ++ [(21, 6)] ++ [(20, 7)] ++ [(20, 5)] ++ [(20, 5)] ++ [(20, 5)] ++ [(20, 6)] ++ [(20, 6)] ++ [(2, 0)])
def kX0 (n q : Nat) (mr : fc_Mr) : fc_Mr := (fc_u (kX2 (n + 10) (n + 9) (fc_u (fc_u (fc_u (fc_u (fc_u (fc_u (fc_u (fc_u (fc_u mr q 0 (some (n))) q 1 (some (n + 1))) q 2 (some (n + 2))) q 3 (some (n + 3))) q 4 (some (n + 4))) q 5 (some (n + 5))) q 6 (some (n + 6))) q 7 (some (n + 7))) q 8 (some (n + 8)))) q 9 (some (n + 9)))
def iX0 (n q : Nat) (mi : fc_Mi) : fc_Mi := (fc_u mi q 14 30)
theorem lX0 {sh : fc_Sh} {n : Nat} (h : sh.length = n) : (sX0 sh).length = n + 12 := (lX2 (fc_ln (fc_ln (fc_ln (fc_ln (fc_ln (fc_ln (fc_ln (fc_ln (fc_ln (fc_ln h)))))))))))
theorem aX0 {sh : fc_Sh} {q : Nat} {c : Nat × Nat} (h : sh[q]? = some c) : (sX0 sh)[q]? = some c := (aX2 (fc_sha (fc_sha (fc_sha (fc_sha (fc_sha (fc_sha (fc_sha (fc_sha (fc_sha (fc_sha h)))))))))))
theorem fX0 {n q : Nat} {mi : fc_Mi} {ml : fc_Ml} {mr : fc_Mr} (hf : fc_f0 n mi ml mr) (hqn : q < n) : fc_f0 (n + 12) (iX0 n q mi) ml (kX0 n q mr) := by
  have h0n : 0 < n := Nat.lt_of_le_of_lt (Nat.zero_le q) hqn
  have hf2 := fc_f0.s hf
  have hf4 := fc_f0.r (q := q) (j := 0) (x := some (n)) hf2 (fc_o1 (k := 1) hqn)
  have hf6 := fc_f0.s hf4
  have hf8 := fc_f0.r (q := q) (j := 1) (x := some (n + 1)) hf6 (fc_o1 (k := 2) hqn)
  have hf10 := fc_f0.s hf8
  have hf12 := fc_f0.r (q := q) (j := 2) (x := some (n + 2)) hf10 (fc_o1 (k := 3) hqn)
  have hf14 := fc_f0.s hf12
  have hf16 := fc_f0.r (q := q) (j := 3) (x := some (n + 3)) hf14 (fc_o1 (k := 4) hqn)
  have hf18 := fc_f0.s hf16
  have hf20 := fc_f0.r (q := q) (j := 4) (x := some (n + 4)) hf18 (fc_o1 (k := 5) hqn)
  have hf22 := fc_f0.s hf20
  have hf24 := fc_f0.r (q := q) (j := 5) (x := some (n + 5)) hf22 (fc_o1 (k := 6) hqn)
  have hf26 := fc_f0.s hf24
  have hf28 := fc_f0.r (q := q) (j := 6) (x := some (n + 6)) hf26 (fc_o1 (k := 7) hqn)
  have hf30 := fc_f0.s hf28
  have hf32 := fc_f0.r (q := q) (j := 7) (x := some (n + 7)) hf30 (fc_o1 (k := 8) hqn)
  have hf34 := fc_f0.s hf32
  have hf36 := fc_f0.r (q := q) (j := 8) (x := some (n + 8)) hf34 (fc_o1 (k := 9) hqn)
  have hf39 := fc_f0.s hf36
  have hf41 := fX2 (q := n + 9) hf39 (Nat.lt_succ_self _)
  have hf44 := fc_f0.r (q := q) (j := 9) (x := some (n + 9)) hf41 (fc_o1 (k := 12) hqn)
  have hf45 := fc_f0.i (q := q) (j := 14) (x := 30) hf44 (fc_o1 (k := 12) hqn)
  exact hf45
theorem n_X0 {E : fc_E} {d n q : Nat} {sh : fc_Sh} {mi : fc_Mi} {ml : fc_Ml} {mr : fc_Mr} (hq : sh[q]? = some (0, 0)) (hn : sh.length = n) (hf : fc_f0 n mi ml mr) : fc_RN E mX0_init (d + 1) 12 1119 sh (sX0 sh) [.ref q] mi ml mr (fun v a b e => v = none ∧ a = (iX0 n q mi) ∧ b = ml ∧ e = kX0 n q mr) := by
  have hqn : q < n := by rw [← hn]; exact fc_shl hq
  have h0n : 0 < n := Nat.lt_of_le_of_lt (Nat.zero_le q) hqn
  refine fc_metN rfl (Nat.le_of_ble_eq_true rfl) ?_
  refine fc_n_aload_n (i := 0) dX0_init_0 rfl rfl ?_
  refine fc_n_oinit dX0_init_1 (fc_G_of 338 (by decide +kernel) rfl) (Nat.le_of_ble_eq_true rfl) ?_
  refine fc_n_aload_n (i := 0) dX0_init_4 rfl rfl ?_
  refine fc_n_bipush (v := 7) dX0_init_5 rfl ?_
  refine nw_L (N := 7) (cs' := (1, 7)) dX0_init_7 rfl (by decide) hn hf rfl (by decide) (by decide) ?_
  have hn1 := fc_ln (c := (21, 7)) hn
  have hf2 := fc_f0.s hf
  have hq3 := fc_sha (l := [(21, 7)]) hq
  refine fc_n_putF (ci := 0) (j := 0) (r := (RX0, TX0, 15)) (ty := (.array .long)) dX0_init_9 rfl (by decide) (by decide) (fc_G_of 357 (by decide +kernel) rfl) rfl hq3 rfl rfl rfl (by decide +kernel) rfl ?_
  have hf4 := fc_f0.r (q := q) (j := 0) (x := some (n)) hf2 (fc_o1 (k := 1) hqn)
  refine fc_n_aload_n (i := 0) dX0_init_12 rfl rfl ?_
  refine fc_n_iconst (v := 5) dX0_init_13 rfl ?_
  refine nw_L (N := 5) (cs' := (2, 12)) dX0_init_14 rfl (by decide) hn1 hf4 rfl (by decide) (by decide) ?_
  have hn5 := fc_ln (c := (21, 5)) hn1
  have hf6 := fc_f0.s hf4
  have hq7 := fc_sha (l := [(21, 5)]) hq3
  refine fc_n_putF (ci := 0) (j := 1) (r := (RX0, TX0, 15)) (ty := (.array .long)) dX0_init_16 rfl (by decide) (by decide) (fc_G_of 360 (by decide +kernel) rfl) rfl hq7 rfl rfl rfl (by decide +kernel) rfl ?_
  have hf8 := fc_f0.r (q := q) (j := 1) (x := some (n + 1)) hf6 (fc_o1 (k := 2) hqn)
  refine fc_n_aload_n (i := 0) dX0_init_19 rfl rfl ?_
  refine fc_n_bipush (v := 6) dX0_init_20 rfl ?_
  refine nw_L (N := 6) (cs' := (3, 18)) dX0_init_22 rfl (by decide) hn5 hf8 rfl (by decide) (by decide) ?_
  have hn9 := fc_ln (c := (21, 6)) hn5
  have hf10 := fc_f0.s hf8
  have hq11 := fc_sha (l := [(21, 6)]) hq7
  refine fc_n_putF (ci := 0) (j := 2) (r := (RX0, TX0, 15)) (ty := (.array .long)) dX0_init_24 rfl (by decide) (by decide) (fc_G_of 363 (by decide +kernel) rfl) rfl hq11 rfl rfl rfl (by decide +kernel) rfl ?_
  have hf12 := fc_f0.r (q := q) (j := 2) (x := some (n + 2)) hf10 (fc_o1 (k := 3) hqn)
  refine fc_n_aload_n (i := 0) dX0_init_27 rfl rfl ?_
  refine fc_n_bipush (v := 7) dX0_init_28 rfl ?_
  refine nw_I (N := 7) (cs' := (4, 25)) dX0_init_30 rfl (by decide) hn9 hf12 rfl (by decide) (by decide) ?_
  have hn13 := fc_ln (c := (20, 7)) hn9
  have hf14 := fc_f0.s hf12
  have hq15 := fc_sha (l := [(20, 7)]) hq11
  refine fc_n_putF (ci := 0) (j := 3) (r := (RX0, TX0, 15)) (ty := (.array .int)) dX0_init_32 rfl (by decide) (by decide) (fc_G_of 366 (by decide +kernel) rfl) rfl hq15 rfl rfl rfl (by decide +kernel) rfl ?_
  have hf16 := fc_f0.r (q := q) (j := 3) (x := some (n + 3)) hf14 (fc_o1 (k := 4) hqn)
  refine fc_n_aload_n (i := 0) dX0_init_35 rfl rfl ?_
  refine fc_n_iconst (v := 5) dX0_init_36 rfl ?_
  refine nw_I (N := 5) (cs' := (5, 30)) dX0_init_37 rfl (by decide) hn13 hf16 rfl (by decide) (by decide) ?_
  have hn17 := fc_ln (c := (20, 5)) hn13
  have hf18 := fc_f0.s hf16
  have hq19 := fc_sha (l := [(20, 5)]) hq15
  refine fc_n_putF (ci := 0) (j := 4) (r := (RX0, TX0, 15)) (ty := (.array .int)) dX0_init_39 rfl (by decide) (by decide) (fc_G_of 371 (by decide +kernel) rfl) rfl hq19 rfl rfl rfl (by decide +kernel) rfl ?_
  have hf20 := fc_f0.r (q := q) (j := 4) (x := some (n + 4)) hf18 (fc_o1 (k := 5) hqn)
  refine fc_n_aload_n (i := 0) dX0_init_42 rfl rfl ?_
  refine fc_n_iconst (v := 5) dX0_init_43 rfl ?_
  refine nw_I (N := 5) (cs' := (6, 35)) dX0_init_44 rfl (by decide) hn17 hf20 rfl (by decide) (by decide) ?_
  have hn21 := fc_ln (c := (20, 5)) hn17
  have hf22 := fc_f0.s hf20
  have hq23 := fc_sha (l := [(20, 5)]) hq19
  refine fc_n_putF (ci := 0) (j := 5) (r := (RX0, TX0, 15)) (ty := (.array .int)) dX0_init_46 rfl (by decide) (by decide) (fc_G_of 375 (by decide +kernel) rfl) rfl hq23 rfl rfl rfl (by decide +kernel) rfl ?_
  have hf24 := fc_f0.r (q := q) (j := 5) (x := some (n + 5)) hf22 (fc_o1 (k := 6) hqn)
  refine fc_n_aload_n (i := 0) dX0_init_49 rfl rfl ?_
  refine fc_n_iconst (v := 5) dX0_init_50 rfl ?_
  refine nw_I (N := 5) (cs' := (7, 40)) dX0_init_51 rfl (by decide) hn21 hf24 rfl (by decide) (by decide) ?_
  have hn25 := fc_ln (c := (20, 5)) hn21
  have hf26 := fc_f0.s hf24
  have hq27 := fc_sha (l := [(20, 5)]) hq23
  refine fc_n_putF (ci := 0) (j := 6) (r := (RX0, TX0, 15)) (ty := (.array .int)) dX0_init_53 rfl (by decide) (by decide) (fc_G_of 379 (by decide +kernel) rfl) rfl hq27 rfl rfl rfl (by decide +kernel) rfl ?_
  have hf28 := fc_f0.r (q := q) (j := 6) (x := some (n + 6)) hf26 (fc_o1 (k := 7) hqn)
  refine fc_n_aload_n (i := 0) dX0_init_56 rfl rfl ?_
  refine fc_n_bipush (v := 6) dX0_init_57 rfl ?_
  refine nw_I (N := 6) (cs' := (8, 46)) dX0_init_59 rfl (by decide) hn25 hf28 rfl (by decide) (by decide) ?_
  have hn29 := fc_ln (c := (20, 6)) hn25
  have hf30 := fc_f0.s hf28
  have hq31 := fc_sha (l := [(20, 6)]) hq27
  refine fc_n_putF (ci := 0) (j := 7) (r := (RX0, TX0, 15)) (ty := (.array .int)) dX0_init_61 rfl (by decide) (by decide) (fc_G_of 381 (by decide +kernel) rfl) rfl hq31 rfl rfl rfl (by decide +kernel) rfl ?_
  have hf32 := fc_f0.r (q := q) (j := 7) (x := some (n + 7)) hf30 (fc_o1 (k := 8) hqn)
  refine fc_n_aload_n (i := 0) dX0_init_64 rfl rfl ?_
  refine fc_n_bipush (v := 6) dX0_init_65 rfl ?_
  refine nw_I (N := 6) (cs' := (9, 52)) dX0_init_67 rfl (by decide) hn29 hf32 rfl (by decide) (by decide) ?_
  have hn33 := fc_ln (c := (20, 6)) hn29
  have hf34 := fc_f0.s hf32
  have hq35 := fc_sha (l := [(20, 6)]) hq31
  refine fc_n_putF (ci := 0) (j := 8) (r := (RX0, TX0, 15)) (ty := (.array .int)) dX0_init_69 rfl (by decide) (by decide) (fc_G_of 385 (by decide +kernel) rfl) rfl hq35 rfl rfl rfl (by decide +kernel) rfl ?_
  have hf36 := fc_f0.r (q := q) (j := 8) (x := some (n + 8)) hf34 (fc_o1 (k := 9) hqn)
  refine fc_n_aload_n (i := 0) dX0_init_72 rfl rfl ?_
  refine nw_new (cs' := (10, 55)) dX0_init_73 nkX2 (fc_G_of 339 (by decide +kernel) rfl) hn33 hf36 rfl (by decide) (by decide) ?_
  have hw37 := fc_sn (c := (2, 0)) hn33
  have hn38 := fc_ln (c := (2, 0)) hn33
  have hf39 := fc_f0.s hf36
  have hq40 := fc_sha (l := [(2, 0)]) hq35
  refine fc_n_dup dX0_init_76 rfl ?_
  refine nw_ctorN (z := mX2_init) (cs' := (12, 1119)) dX0_init_77 (n_X2 hw37 hn38 hf39) kX2_i.1 rfl rfl kX2_i.2 (by decide +kernel) (Nat.le_of_ble_eq_true rfl) rfl (by decide) (by decide) (lX2 hn38) hn38 (fc_o1 (k := 10) h0n) ?_
  rintro _ _ _ _ ⟨rfl, rfl, rfl, rfl⟩
  have hf41 := fX2 (q := n + 9) hf39 (Nat.lt_succ_self _)
  have hn42 := lX2 hn38
  have hq43 := aX2 hq40
  refine fc_n_putF (ci := 0) (j := 9) (r := (RX0, TX0, 15)) (ty := (.object "FirstChimney$Law")) dX0_init_80 rfl (by decide) (by decide) (fc_G_of 389 (by decide +kernel) rfl) rfl hq43 rfl rfl rfl (by decide +kernel) rfl ?_
  have hf44 := fc_f0.r (q := q) (j := 9) (x := some (n + 9)) hf41 (fc_o1 (k := 12) hqn)
  refine fc_n_aload_n (i := 0) dX0_init_83 rfl rfl ?_
  refine fc_n_bipush (v := 30) dX0_init_84 rfl ?_
  refine fc_n_puti (ci := 0) (j := 14) (r := (RX0, TX0, 15)) dX0_init_86 rfl (by decide) (by decide) (fc_G_of 411 (by decide +kernel) rfl) rfl hq43 rfl (by decide +kernel) ?_
  have hf45 := fc_f0.i (q := q) (j := 14) (x := 30) hf44 (fc_o1 (k := 12) hqn)
  exact fc_n_ret (v := none) ⟨dX0_init_89, rfl⟩ ⟨rfl, rfl, rfl, rfl⟩ (by decide) (by decide)
abbrev sX1 (sh : fc_Sh) : fc_Sh := sX3 (sh ++ [(3, 0)])
def kX1 (n q : Nat) (mr : fc_Mr) : fc_Mr := (fc_u (kX3 (n + 1) (n) mr) q 0 (some (n)))
theorem lX1 {sh : fc_Sh} {n : Nat} (h : sh.length = n) : (sX1 sh).length = n + 2 := (lX3 (fc_ln h))
theorem aX1 {sh : fc_Sh} {q : Nat} {c : Nat × Nat} (h : sh[q]? = some c) : (sX1 sh)[q]? = some c := (aX3 (fc_sha h))
theorem fX1 {n q : Nat} {mi : fc_Mi} {ml : fc_Ml} {mr : fc_Mr} (hf : fc_f0 n mi ml mr) (hqn : q < n) : fc_f0 (n + 2) mi ml (kX1 n q mr) := by
  have h0n : 0 < n := Nat.lt_of_le_of_lt (Nat.zero_le q) hqn
  have hf3 := fc_f0.s hf
  have hf5 := fX3 (q := n) hf3 (Nat.lt_succ_self _)
  have hf8 := fc_f0.r (q := q) (j := 0) (x := some (n)) hf5 (fc_o1 (k := 2) hqn)
  exact hf8
theorem n_X1 {E : fc_E} {d n q : Nat} {sh : fc_Sh} {mi : fc_Mi} {ml : fc_Ml} {mr : fc_Mr} (hq : sh[q]? = some (1, 0)) (hn : sh.length = n) (hf : fc_f0 n mi ml mr) : fc_RN E mX1_init (d + 1) 2 68 sh (sX1 sh) [.ref q] mi ml mr (fun v a b e => v = none ∧ a = mi ∧ b = ml ∧ e = kX1 n q mr) := by
  have hqn : q < n := by rw [← hn]; exact fc_shl hq
  have h0n : 0 < n := Nat.lt_of_le_of_lt (Nat.zero_le q) hqn
  refine fc_metN rfl (Nat.le_of_ble_eq_true rfl) ?_
  refine fc_n_aload_n (i := 0) dX1_init_0 rfl rfl ?_
  refine fc_n_oinit dX1_init_1 (fc_G_of 185 (by decide +kernel) rfl) (Nat.le_of_ble_eq_true rfl) ?_
  refine fc_n_aload_n (i := 0) dX1_init_4 rfl rfl ?_
  refine nw_new (cs' := (1, 4)) dX1_init_5 nkX3 (fc_G_of 186 (by decide +kernel) rfl) hn hf rfl (by decide) (by decide) ?_
  have hw1 := fc_sn (c := (3, 0)) hn
  have hn2 := fc_ln (c := (3, 0)) hn
  have hf3 := fc_f0.s hf
  have hq4 := fc_sha (l := [(3, 0)]) hq
  refine fc_n_dup dX1_init_8 rfl ?_
  refine nw_ctorN (z := mX3_init) (cs' := (2, 68)) dX1_init_9 (n_X3 hw1 hn2 hf3) kX3_i.1 rfl rfl kX3_i.2 (by decide +kernel) (Nat.le_of_ble_eq_true rfl) rfl (by decide) (by decide) (lX3 hn2) hn2 (fc_o1 (k := 1) h0n) ?_
  rintro _ _ _ _ ⟨rfl, rfl, rfl, rfl⟩
  have hf5 := fX3 (q := n) hf3 (Nat.lt_succ_self _)
  have hn6 := lX3 hn2
  have hq7 := aX3 hq4
  refine fc_n_putF (ci := 1) (j := 0) (r := (RX1, TX1, 3)) (ty := (.object "FirstChimney$LawReader")) dX1_init_12 rfl (by decide) (by decide) (fc_G_of 206 (by decide +kernel) rfl) rfl hq7 rfl rfl rfl (by decide +kernel) rfl ?_
  have hf8 := fc_f0.r (q := q) (j := 0) (x := some (n)) hf5 (fc_o1 (k := 2) hqn)
  exact fc_n_ret (v := none) ⟨dX1_init_15, rfl⟩ ⟨rfl, rfl, rfl, rfl⟩ (by decide) (by decide)
