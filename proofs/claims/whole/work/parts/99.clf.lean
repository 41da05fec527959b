-- constructors of single objects, by wip/whole/gen101.py
theorem z_if0 {v : Int32} : (fun j : Nat => if j < 0 then v else (0 : Int32)) = fun _ => 0 := funext fun j => if_neg (Nat.not_lt_zero j)
theorem zw_1_100 : Cond.arrayClass (zty 0) ∈ lw_tbl := lw_at_mem (j := 1) (k := 100) rfl
theorem zw_1_101 : Cond.arrayClass (zty 1) ∈ lw_tbl := lw_at_mem (j := 1) (k := 101) rfl
theorem zw_1_159 : Cond.methodLink (cn 9) 3 objectInit ∈ lw_tbl := lw_at_mem (j := 1) (k := 159) rfl
theorem zw_1_176 : Cond.methodLink (cn 10) 3 objectInit ∈ lw_tbl := lw_at_mem (j := 1) (k := 176) rfl
theorem zw_1_223 : Cond.methodLink (cn 0) 3 objectInit ∈ lw_tbl := lw_at_mem (j := 1) (k := 223) rfl
theorem zw_1_29 : Cond.instanceMethod objectInit ∈ lw_tbl := lw_at_mem (j := 1) (k := 29) rfl
theorem zw_1_30 : Cond.code objectInit ⟨#[0xb1]⟩ 1 none ∈ lw_tbl := lw_at_mem (j := 1) (k := 30) rfl
theorem zw_1_47 : Cond.methodLink (cn 6) 3 objectInit ∈ lw_tbl := lw_at_mem (j := 1) (k := 47) rfl
theorem zw_2_109 : Cond.methodLink (cn 5) 3 objectInit ∈ lw_tbl := lw_at_mem (j := 2) (k := 109) rfl
theorem zw_2_11 : Cond.methodLink (cn 2) 3 objectInit ∈ lw_tbl := lw_at_mem (j := 2) (k := 11) rfl
theorem zw_2_146 : Cond.methodLink (cn 7) 3 objectInit ∈ lw_tbl := lw_at_mem (j := 2) (k := 146) rfl
theorem zw_2_179 : Cond.methodLink (cn 8) 3 objectInit ∈ lw_tbl := lw_at_mem (j := 2) (k := 179) rfl
theorem zw_2_197 : Cond.arrayClass (zty 2) ∈ lw_tbl := lw_at_mem (j := 2) (k := 197) rfl
theorem zw_2_45 : Cond.methodLink (cn 3) 3 objectInit ∈ lw_tbl := lw_at_mem (j := 2) (k := 45) rfl
theorem zw_2_79 : Cond.methodLink (cn 1) 3 objectInit ∈ lw_tbl := lw_at_mem (j := 2) (k := 79) rfl
theorem dz0_0 : decode cX0_init 0 = .ok (.aload_n 0, 1) := by decide +kernel
theorem dz0_1 : decode cX0_init 1 = .ok (.invokespecial 3, 3) := by decide +kernel
theorem dz0_4 : decode cX0_init 4 = .ok (.aload_n 0, 1) := by decide +kernel
theorem dz0_5 : decode cX0_init 5 = .ok (.bipush 24, 2) := by decide +kernel
theorem dz0_7 : decode cX0_init 7 = .ok (.newarray .int, 2) := by decide +kernel
theorem dz0_9 : decode cX0_init 9 = .ok (.putfield 11, 3) := by decide +kernel
theorem dz0_12 : decode cX0_init 12 = .ok (.aload_n 0, 1) := by decide +kernel
theorem dz0_13 : decode cX0_init 13 = .ok (.iconst 0, 1) := by decide +kernel
theorem dz0_14 : decode cX0_init 14 = .ok (.putfield 15, 3) := by decide +kernel
theorem dz0_17 : decode cX0_init 17 = .ok (.aload_n 0, 1) := by decide +kernel
theorem dz0_18 : decode cX0_init 18 = .ok (.iconst 0, 1) := by decide +kernel
theorem dz0_19 : decode cX0_init 19 = .ok (.putfield 19, 3) := by decide +kernel
theorem dz0_22 : decode cX0_init 22 = .ok (.aload_n 0, 1) := by decide +kernel
theorem dz0_23 : decode cX0_init 23 = .ok (.iconst 0, 1) := by decide +kernel
theorem dz0_24 : decode cX0_init 24 = .ok (.putfield 22, 3) := by decide +kernel
theorem dz0_27 : decode cX0_init 27 = .ok (.aload_n 0, 1) := by decide +kernel
theorem dz0_28 : decode cX0_init 28 = .ok (.iconst 0, 1) := by decide +kernel
theorem dz0_29 : decode cX0_init 29 = .ok (.putfield 25, 3) := by decide +kernel
theorem dz0_32 : decode cX0_init 32 = .ok (.aload_n 0, 1) := by decide +kernel
theorem dz0_33 : decode cX0_init 33 = .ok (.iconst 1, 1) := by decide +kernel
theorem dz0_34 : decode cX0_init 34 = .ok (.putfield 28, 3) := by decide +kernel
theorem dz0_37 : decode cX0_init 37 = .ok (.return_, 1) := by decide +kernel
theorem dz1_0 : decode cX1_init 0 = .ok (.aload_n 0, 1) := by decide +kernel
theorem dz1_1 : decode cX1_init 1 = .ok (.invokespecial 3, 3) := by decide +kernel
theorem dz1_4 : decode cX1_init 4 = .ok (.aload_n 0, 1) := by decide +kernel
theorem dz1_5 : decode cX1_init 5 = .ok (.iconst 0, 1) := by decide +kernel
theorem dz1_6 : decode cX1_init 6 = .ok (.putfield 9, 3) := by decide +kernel
theorem dz1_9 : decode cX1_init 9 = .ok (.aload_n 0, 1) := by decide +kernel
theorem dz1_10 : decode cX1_init 10 = .ok (.iconst 0, 1) := by decide +kernel
theorem dz1_11 : decode cX1_init 11 = .ok (.putfield 15, 3) := by decide +kernel
theorem dz1_14 : decode cX1_init 14 = .ok (.aload_n 0, 1) := by decide +kernel
theorem dz1_15 : decode cX1_init 15 = .ok (.iconst 0, 1) := by decide +kernel
theorem dz1_16 : decode cX1_init 16 = .ok (.putfield 18, 3) := by decide +kernel
theorem dz1_19 : decode cX1_init 19 = .ok (.aload_n 0, 1) := by decide +kernel
theorem dz1_20 : decode cX1_init 20 = .ok (.iconst 0, 1) := by decide +kernel
theorem dz1_21 : decode cX1_init 21 = .ok (.putfield 21, 3) := by decide +kernel
theorem dz1_24 : decode cX1_init 24 = .ok (.aload_n 0, 1) := by decide +kernel
theorem dz1_25 : decode cX1_init 25 = .ok (.iconst 0, 1) := by decide +kernel
theorem dz1_26 : decode cX1_init 26 = .ok (.putfield 24, 3) := by decide +kernel
theorem dz1_29 : decode cX1_init 29 = .ok (.aload_n 0, 1) := by decide +kernel
theorem dz1_30 : decode cX1_init 30 = .ok (.iconst (-1), 1) := by decide +kernel
theorem dz1_31 : decode cX1_init 31 = .ok (.putfield 27, 3) := by decide +kernel
theorem dz1_34 : decode cX1_init 34 = .ok (.return_, 1) := by decide +kernel
theorem dz2_0 : decode cX2_init 0 = .ok (.aload_n 0, 1) := by decide +kernel
theorem dz2_1 : decode cX2_init 1 = .ok (.invokespecial 3, 3) := by decide +kernel
theorem dz2_4 : decode cX2_init 4 = .ok (.aload_n 0, 1) := by decide +kernel
theorem dz2_5 : decode cX2_init 5 = .ok (.iconst 0, 1) := by decide +kernel
theorem dz2_6 : decode cX2_init 6 = .ok (.putfield 9, 3) := by decide +kernel
theorem dz2_9 : decode cX2_init 9 = .ok (.aload_n 0, 1) := by decide +kernel
theorem dz2_10 : decode cX2_init 10 = .ok (.iconst 0, 1) := by decide +kernel
theorem dz2_11 : decode cX2_init 11 = .ok (.putfield 15, 3) := by decide +kernel
theorem dz2_14 : decode cX2_init 14 = .ok (.aload_n 0, 1) := by decide +kernel
theorem dz2_15 : decode cX2_init 15 = .ok (.iconst 0, 1) := by decide +kernel
theorem dz2_16 : decode cX2_init 16 = .ok (.putfield 18, 3) := by decide +kernel
theorem dz2_19 : decode cX2_init 19 = .ok (.aload_n 0, 1) := by decide +kernel
theorem dz2_20 : decode cX2_init 20 = .ok (.iconst (-1), 1) := by decide +kernel
theorem dz2_21 : decode cX2_init 21 = .ok (.putfield 21, 3) := by decide +kernel
theorem dz2_24 : decode cX2_init 24 = .ok (.aload_n 0, 1) := by decide +kernel
theorem dz2_25 : decode cX2_init 25 = .ok (.iconst 0, 1) := by decide +kernel
theorem dz2_26 : decode cX2_init 26 = .ok (.putfield 24, 3) := by decide +kernel
theorem dz2_29 : decode cX2_init 29 = .ok (.aload_n 0, 1) := by decide +kernel
theorem dz2_30 : decode cX2_init 30 = .ok (.bipush 48, 2) := by decide +kernel
theorem dz2_32 : decode cX2_init 32 = .ok (.newarray .int, 2) := by decide +kernel
theorem dz2_34 : decode cX2_init 34 = .ok (.putfield 27, 3) := by decide +kernel
theorem dz2_37 : decode cX2_init 37 = .ok (.aload_n 0, 1) := by decide +kernel
theorem dz2_38 : decode cX2_init 38 = .ok (.bipush 48, 2) := by decide +kernel
theorem dz2_40 : decode cX2_init 40 = .ok (.newarray .boolean, 2) := by decide +kernel
theorem dz2_42 : decode cX2_init 42 = .ok (.putfield 31, 3) := by decide +kernel
theorem dz2_45 : decode cX2_init 45 = .ok (.iconst 0, 1) := by decide +kernel
theorem dz2_46 : decode cX2_init 46 = .ok (.istore_n 1, 1) := by decide +kernel
theorem dz2_47 : decode cX2_init 47 = .ok (.iload_n 1, 1) := by decide +kernel
theorem dz2_48 : decode cX2_init 48 = .ok (.bipush 48, 2) := by decide +kernel
theorem dz2_50 : decode cX2_init 50 = .ok (.if_icmp .ge 16, 3) := by decide +kernel
theorem dz2_53 : decode cX2_init 53 = .ok (.aload_n 0, 1) := by decide +kernel
theorem dz2_54 : decode cX2_init 54 = .ok (.getfield 27, 3) := by decide +kernel
theorem dz2_57 : decode cX2_init 57 = .ok (.iload_n 1, 1) := by decide +kernel
theorem dz2_58 : decode cX2_init 58 = .ok (.iconst 1, 1) := by decide +kernel
theorem dz2_59 : decode cX2_init 59 = .ok (.iastore, 1) := by decide +kernel
theorem dz2_60 : decode cX2_init 60 = .ok (.iinc 1 1, 3) := by decide +kernel
theorem dz2_63 : decode cX2_init 63 = .ok (.goto (-16), 3) := by decide +kernel
theorem dz2_66 : decode cX2_init 66 = .ok (.return_, 1) := by decide +kernel
theorem dz3_0 : decode cX3_init 0 = .ok (.aload_n 0, 1) := by decide +kernel
theorem dz3_1 : decode cX3_init 1 = .ok (.invokespecial 3, 3) := by decide +kernel
theorem dz3_4 : decode cX3_init 4 = .ok (.aload_n 0, 1) := by decide +kernel
theorem dz3_5 : decode cX3_init 5 = .ok (.iconst 0, 1) := by decide +kernel
theorem dz3_6 : decode cX3_init 6 = .ok (.putfield 9, 3) := by decide +kernel
theorem dz3_9 : decode cX3_init 9 = .ok (.aload_n 0, 1) := by decide +kernel
theorem dz3_10 : decode cX3_init 10 = .ok (.iconst 0, 1) := by decide +kernel
theorem dz3_11 : decode cX3_init 11 = .ok (.putfield 15, 3) := by decide +kernel
theorem dz3_14 : decode cX3_init 14 = .ok (.aload_n 0, 1) := by decide +kernel
theorem dz3_15 : decode cX3_init 15 = .ok (.iconst (-1), 1) := by decide +kernel
theorem dz3_16 : decode cX3_init 16 = .ok (.putfield 18, 3) := by decide +kernel
theorem dz3_19 : decode cX3_init 19 = .ok (.aload_n 0, 1) := by decide +kernel
theorem dz3_20 : decode cX3_init 20 = .ok (.iconst (-1), 1) := by decide +kernel
theorem dz3_21 : decode cX3_init 21 = .ok (.putfield 21, 3) := by decide +kernel
theorem dz3_24 : decode cX3_init 24 = .ok (.aload_n 0, 1) := by decide +kernel
theorem dz3_25 : decode cX3_init 25 = .ok (.iconst 0, 1) := by decide +kernel
theorem dz3_26 : decode cX3_init 26 = .ok (.putfield 24, 3) := by decide +kernel
theorem dz3_29 : decode cX3_init 29 = .ok (.aload_n 0, 1) := by decide +kernel
theorem dz3_30 : decode cX3_init 30 = .ok (.bipush 31, 2) := by decide +kernel
theorem dz3_32 : decode cX3_init 32 = .ok (.newarray .int, 2) := by decide +kernel
theorem dz3_34 : decode cX3_init 34 = .ok (.putfield 27, 3) := by decide +kernel
theorem dz3_37 : decode cX3_init 37 = .ok (.aload_n 0, 1) := by decide +kernel
theorem dz3_38 : decode cX3_init 38 = .ok (.bipush 30, 2) := by decide +kernel
theorem dz3_40 : decode cX3_init 40 = .ok (.newarray .int, 2) := by decide +kernel
theorem dz3_42 : decode cX3_init 42 = .ok (.putfield 31, 3) := by decide +kernel
theorem dz3_45 : decode cX3_init 45 = .ok (.return_, 1) := by decide +kernel
theorem dz5_0 : decode cX5_init 0 = .ok (.aload_n 0, 1) := by decide +kernel
theorem dz5_1 : decode cX5_init 1 = .ok (.invokespecial 3, 3) := by decide +kernel
theorem dz5_4 : decode cX5_init 4 = .ok (.aload_n 0, 1) := by decide +kernel
theorem dz5_5 : decode cX5_init 5 = .ok (.iconst 0, 1) := by decide +kernel
theorem dz5_6 : decode cX5_init 6 = .ok (.putfield 9, 3) := by decide +kernel
theorem dz5_9 : decode cX5_init 9 = .ok (.aload_n 0, 1) := by decide +kernel
theorem dz5_10 : decode cX5_init 10 = .ok (.iconst 1, 1) := by decide +kernel
theorem dz5_11 : decode cX5_init 11 = .ok (.putfield 15, 3) := by decide +kernel
theorem dz5_14 : decode cX5_init 14 = .ok (.aload_n 0, 1) := by decide +kernel
theorem dz5_15 : decode cX5_init 15 = .ok (.iconst (-1), 1) := by decide +kernel
theorem dz5_16 : decode cX5_init 16 = .ok (.putfield 18, 3) := by decide +kernel
theorem dz5_19 : decode cX5_init 19 = .ok (.aload_n 0, 1) := by decide +kernel
theorem dz5_20 : decode cX5_init 20 = .ok (.iconst 0, 1) := by decide +kernel
theorem dz5_21 : decode cX5_init 21 = .ok (.putfield 21, 3) := by decide +kernel
theorem dz5_24 : decode cX5_init 24 = .ok (.aload_n 0, 1) := by decide +kernel
theorem dz5_25 : decode cX5_init 25 = .ok (.iconst 0, 1) := by decide +kernel
theorem dz5_26 : decode cX5_init 26 = .ok (.putfield 24, 3) := by decide +kernel
theorem dz5_29 : decode cX5_init 29 = .ok (.aload_n 0, 1) := by decide +kernel
theorem dz5_30 : decode cX5_init 30 = .ok (.iconst (-1), 1) := by decide +kernel
theorem dz5_31 : decode cX5_init 31 = .ok (.putfield 27, 3) := by decide +kernel
theorem dz5_34 : decode cX5_init 34 = .ok (.aload_n 0, 1) := by decide +kernel
theorem dz5_35 : decode cX5_init 35 = .ok (.iconst (-1), 1) := by decide +kernel
theorem dz5_36 : decode cX5_init 36 = .ok (.putfield 30, 3) := by decide +kernel
theorem dz5_39 : decode cX5_init 39 = .ok (.return_, 1) := by decide +kernel
theorem dz6_0 : decode cX6_init 0 = .ok (.aload_n 0, 1) := by decide +kernel
theorem dz6_1 : decode cX6_init 1 = .ok (.invokespecial 3, 3) := by decide +kernel
theorem dz6_4 : decode cX6_init 4 = .ok (.aload_n 0, 1) := by decide +kernel
theorem dz6_5 : decode cX6_init 5 = .ok (.iconst 0, 1) := by decide +kernel
theorem dz6_6 : decode cX6_init 6 = .ok (.putfield 9, 3) := by decide +kernel
theorem dz6_9 : decode cX6_init 9 = .ok (.aload_n 0, 1) := by decide +kernel
theorem dz6_10 : decode cX6_init 10 = .ok (.iconst 0, 1) := by decide +kernel
theorem dz6_11 : decode cX6_init 11 = .ok (.putfield 15, 3) := by decide +kernel
theorem dz6_14 : decode cX6_init 14 = .ok (.aload_n 0, 1) := by decide +kernel
theorem dz6_15 : decode cX6_init 15 = .ok (.iconst 0, 1) := by decide +kernel
theorem dz6_16 : decode cX6_init 16 = .ok (.putfield 18, 3) := by decide +kernel
theorem dz6_19 : decode cX6_init 19 = .ok (.aload_n 0, 1) := by decide +kernel
theorem dz6_20 : decode cX6_init 20 = .ok (.iconst 0, 1) := by decide +kernel
theorem dz6_21 : decode cX6_init 21 = .ok (.putfield 21, 3) := by decide +kernel
theorem dz6_24 : decode cX6_init 24 = .ok (.aload_n 0, 1) := by decide +kernel
theorem dz6_25 : decode cX6_init 25 = .ok (.iconst (-1), 1) := by decide +kernel
theorem dz6_26 : decode cX6_init 26 = .ok (.putfield 24, 3) := by decide +kernel
theorem dz6_29 : decode cX6_init 29 = .ok (.aload_n 0, 1) := by decide +kernel
theorem dz6_30 : decode cX6_init 30 = .ok (.iconst 0, 1) := by decide +kernel
theorem dz6_31 : decode cX6_init 31 = .ok (.putfield 27, 3) := by decide +kernel
theorem dz6_34 : decode cX6_init 34 = .ok (.aload_n 0, 1) := by decide +kernel
theorem dz6_35 : decode cX6_init 35 = .ok (.iconst 0, 1) := by decide +kernel
theorem dz6_36 : decode cX6_init 36 = .ok (.putfield 30, 3) := by decide +kernel
theorem dz6_39 : decode cX6_init 39 = .ok (.aload_n 0, 1) := by decide +kernel
theorem dz6_40 : decode cX6_init 40 = .ok (.bipush 31, 2) := by decide +kernel
theorem dz6_42 : decode cX6_init 42 = .ok (.newarray .int, 2) := by decide +kernel
theorem dz6_44 : decode cX6_init 44 = .ok (.putfield 34, 3) := by decide +kernel
theorem dz6_47 : decode cX6_init 47 = .ok (.aload_n 0, 1) := by decide +kernel
theorem dz6_48 : decode cX6_init 48 = .ok (.bipush 31, 2) := by decide +kernel
theorem dz6_50 : decode cX6_init 50 = .ok (.newarray .boolean, 2) := by decide +kernel
theorem dz6_52 : decode cX6_init 52 = .ok (.putfield 38, 3) := by decide +kernel
theorem dz6_55 : decode cX6_init 55 = .ok (.aload_n 0, 1) := by decide +kernel
theorem dz6_56 : decode cX6_init 56 = .ok (.iconst 0, 1) := by decide +kernel
theorem dz6_57 : decode cX6_init 57 = .ok (.putfield 42, 3) := by decide +kernel
theorem dz6_60 : decode cX6_init 60 = .ok (.aload_n 0, 1) := by decide +kernel
theorem dz6_61 : decode cX6_init 61 = .ok (.iconst 0, 1) := by decide +kernel
theorem dz6_62 : decode cX6_init 62 = .ok (.putfield 45, 3) := by decide +kernel
theorem dz6_65 : decode cX6_init 65 = .ok (.return_, 1) := by decide +kernel
theorem dz7_0 : decode cX7_init 0 = .ok (.aload_n 0, 1) := by decide +kernel
theorem dz7_1 : decode cX7_init 1 = .ok (.invokespecial 3, 3) := by decide +kernel
theorem dz7_4 : decode cX7_init 4 = .ok (.aload_n 0, 1) := by decide +kernel
theorem dz7_5 : decode cX7_init 5 = .ok (.iconst 0, 1) := by decide +kernel
theorem dz7_6 : decode cX7_init 6 = .ok (.putfield 9, 3) := by decide +kernel
theorem dz7_9 : decode cX7_init 9 = .ok (.aload_n 0, 1) := by decide +kernel
theorem dz7_10 : decode cX7_init 10 = .ok (.iconst 0, 1) := by decide +kernel
theorem dz7_11 : decode cX7_init 11 = .ok (.putfield 15, 3) := by decide +kernel
theorem dz7_14 : decode cX7_init 14 = .ok (.aload_n 0, 1) := by decide +kernel
theorem dz7_15 : decode cX7_init 15 = .ok (.iconst 0, 1) := by decide +kernel
theorem dz7_16 : decode cX7_init 16 = .ok (.putfield 18, 3) := by decide +kernel
theorem dz7_19 : decode cX7_init 19 = .ok (.aload_n 0, 1) := by decide +kernel
theorem dz7_20 : decode cX7_init 20 = .ok (.iconst 0, 1) := by decide +kernel
theorem dz7_21 : decode cX7_init 21 = .ok (.putfield 21, 3) := by decide +kernel
theorem dz7_24 : decode cX7_init 24 = .ok (.aload_n 0, 1) := by decide +kernel
theorem dz7_25 : decode cX7_init 25 = .ok (.iconst 0, 1) := by decide +kernel
theorem dz7_26 : decode cX7_init 26 = .ok (.putfield 24, 3) := by decide +kernel
theorem dz7_29 : decode cX7_init 29 = .ok (.aload_n 0, 1) := by decide +kernel
theorem dz7_30 : decode cX7_init 30 = .ok (.sipush 161, 3) := by decide +kernel
theorem dz7_33 : decode cX7_init 33 = .ok (.newarray .int, 2) := by decide +kernel
theorem dz7_35 : decode cX7_init 35 = .ok (.putfield 27, 3) := by decide +kernel
theorem dz7_38 : decode cX7_init 38 = .ok (.aload_n 0, 1) := by decide +kernel
theorem dz7_39 : decode cX7_init 39 = .ok (.bipush 64, 2) := by decide +kernel
theorem dz7_41 : decode cX7_init 41 = .ok (.newarray .int, 2) := by decide +kernel
theorem dz7_43 : decode cX7_init 43 = .ok (.putfield 31, 3) := by decide +kernel
theorem dz7_46 : decode cX7_init 46 = .ok (.return_, 1) := by decide +kernel
theorem dz8_0 : decode cX8_init 0 = .ok (.aload_n 0, 1) := by decide +kernel
theorem dz8_1 : decode cX8_init 1 = .ok (.invokespecial 3, 3) := by decide +kernel
theorem dz8_4 : decode cX8_init 4 = .ok (.aload_n 0, 1) := by decide +kernel
theorem dz8_5 : decode cX8_init 5 = .ok (.bipush (-2), 2) := by decide +kernel
theorem dz8_7 : decode cX8_init 7 = .ok (.putfield 11, 3) := by decide +kernel
theorem dz8_10 : decode cX8_init 10 = .ok (.aload_n 0, 1) := by decide +kernel
theorem dz8_11 : decode cX8_init 11 = .ok (.iconst (-1), 1) := by decide +kernel
theorem dz8_12 : decode cX8_init 12 = .ok (.putfield 15, 3) := by decide +kernel
theorem dz8_15 : decode cX8_init 15 = .ok (.aload_n 0, 1) := by decide +kernel
theorem dz8_16 : decode cX8_init 16 = .ok (.iconst 0, 1) := by decide +kernel
theorem dz8_17 : decode cX8_init 17 = .ok (.putfield 18, 3) := by decide +kernel
theorem dz8_20 : decode cX8_init 20 = .ok (.aload_n 0, 1) := by decide +kernel
theorem dz8_21 : decode cX8_init 21 = .ok (.bipush 60, 2) := by decide +kernel
theorem dz8_23 : decode cX8_init 23 = .ok (.newarray .long, 2) := by decide +kernel
theorem dz8_25 : decode cX8_init 25 = .ok (.putfield 21, 3) := by decide +kernel
theorem dz8_28 : decode cX8_init 28 = .ok (.return_, 1) := by decide +kernel
theorem dz9_0 : decode cX9_init 0 = .ok (.aload_n 0, 1) := by decide +kernel
theorem dz9_1 : decode cX9_init 1 = .ok (.invokespecial 3, 3) := by decide +kernel
theorem dz9_4 : decode cX9_init 4 = .ok (.aload_n 0, 1) := by decide +kernel
theorem dz9_5 : decode cX9_init 5 = .ok (.iconst 0, 1) := by decide +kernel
theorem dz9_6 : decode cX9_init 6 = .ok (.putfield 9, 3) := by decide +kernel
theorem dz9_9 : decode cX9_init 9 = .ok (.aload_n 0, 1) := by decide +kernel
theorem dz9_10 : decode cX9_init 10 = .ok (.sipush 160, 3) := by decide +kernel
theorem dz9_13 : decode cX9_init 13 = .ok (.newarray .int, 2) := by decide +kernel
theorem dz9_15 : decode cX9_init 15 = .ok (.putfield 15, 3) := by decide +kernel
theorem dz9_18 : decode cX9_init 18 = .ok (.aload_n 0, 1) := by decide +kernel
theorem dz9_19 : decode cX9_init 19 = .ok (.iconst 0, 1) := by decide +kernel
theorem dz9_20 : decode cX9_init 20 = .ok (.putfield 19, 3) := by decide +kernel
theorem dz9_23 : decode cX9_init 23 = .ok (.return_, 1) := by decide +kernel
theorem dz10_0 : decode cX10_init 0 = .ok (.aload_n 0, 1) := by decide +kernel
theorem dz10_1 : decode cX10_init 1 = .ok (.invokespecial 3, 3) := by decide +kernel
theorem dz10_4 : decode cX10_init 4 = .ok (.aload_n 0, 1) := by decide +kernel
theorem dz10_5 : decode cX10_init 5 = .ok (.iconst 0, 1) := by decide +kernel
theorem dz10_6 : decode cX10_init 6 = .ok (.putfield 9, 3) := by decide +kernel
theorem dz10_9 : decode cX10_init 9 = .ok (.aload_n 0, 1) := by decide +kernel
theorem dz10_10 : decode cX10_init 10 = .ok (.iconst 0, 1) := by decide +kernel
theorem dz10_11 : decode cX10_init 11 = .ok (.putfield 15, 3) := by decide +kernel
theorem dz10_14 : decode cX10_init 14 = .ok (.aload_n 0, 1) := by decide +kernel
theorem dz10_15 : decode cX10_init 15 = .ok (.iconst 3, 1) := by decide +kernel
theorem dz10_16 : decode cX10_init 16 = .ok (.newarray .int, 2) := by decide +kernel
theorem dz10_18 : decode cX10_init 18 = .ok (.putfield 18, 3) := by decide +kernel
theorem dz10_21 : decode cX10_init 21 = .ok (.aload_n 0, 1) := by decide +kernel
theorem dz10_22 : decode cX10_init 22 = .ok (.iconst 3, 1) := by decide +kernel
theorem dz10_23 : decode cX10_init 23 = .ok (.newarray .int, 2) := by decide +kernel
theorem dz10_25 : decode cX10_init 25 = .ok (.putfield 22, 3) := by decide +kernel
theorem dz10_28 : decode cX10_init 28 = .ok (.aload_n 0, 1) := by decide +kernel
theorem dz10_29 : decode cX10_init 29 = .ok (.bipush 12, 2) := by decide +kernel
theorem dz10_31 : decode cX10_init 31 = .ok (.newarray .int, 2) := by decide +kernel
theorem dz10_33 : decode cX10_init 33 = .ok (.putfield 25, 3) := by decide +kernel
theorem dz10_36 : decode cX10_init 36 = .ok (.aload_n 0, 1) := by decide +kernel
theorem dz10_37 : decode cX10_init 37 = .ok (.bipush 12, 2) := by decide +kernel
theorem dz10_39 : decode cX10_init 39 = .ok (.newarray .int, 2) := by decide +kernel
theorem dz10_41 : decode cX10_init 41 = .ok (.putfield 28, 3) := by decide +kernel
theorem dz10_44 : decode cX10_init 44 = .ok (.aload_n 0, 1) := by decide +kernel
theorem dz10_45 : decode cX10_init 45 = .ok (.bipush 12, 2) := by decide +kernel
theorem dz10_47 : decode cX10_init 47 = .ok (.newarray .int, 2) := by decide +kernel
theorem dz10_49 : decode cX10_init 49 = .ok (.putfield 31, 3) := by decide +kernel
theorem dz10_52 : decode cX10_init 52 = .ok (.aload_n 0, 1) := by decide +kernel
theorem dz10_53 : decode cX10_init 53 = .ok (.bipush 12, 2) := by decide +kernel
theorem dz10_55 : decode cX10_init 55 = .ok (.newarray .int, 2) := by decide +kernel
theorem dz10_57 : decode cX10_init 57 = .ok (.putfield 34, 3) := by decide +kernel
theorem dz10_60 : decode cX10_init 60 = .ok (.aload_n 0, 1) := by decide +kernel
theorem dz10_61 : decode cX10_init 61 = .ok (.iconst 3, 1) := by decide +kernel
theorem dz10_62 : decode cX10_init 62 = .ok (.newarray .int, 2) := by decide +kernel
theorem dz10_64 : decode cX10_init 64 = .ok (.putfield 37, 3) := by decide +kernel
theorem dz10_67 : decode cX10_init 67 = .ok (.aload_n 0, 1) := by decide +kernel
theorem dz10_68 : decode cX10_init 68 = .ok (.iconst 3, 1) := by decide +kernel
theorem dz10_69 : decode cX10_init 69 = .ok (.newarray .int, 2) := by decide +kernel
theorem dz10_71 : decode cX10_init 71 = .ok (.putfield 40, 3) := by decide +kernel
theorem dz10_74 : decode cX10_init 74 = .ok (.return_, 1) := by decide +kernel
def zo0 (ca : Nat → ClassId) (a : Nat) : va_W := [(a, .inr (0, [.ref (a + 1), .int (Int32.ofInt 0), .int (Int32.ofInt 0), .int (Int32.ofInt 0), .int (Int32.ofInt 0), .int (Int32.ofInt 1)])), (a + 1, .inl (ca 0, zar 0 24))]
set_option maxHeartbeats 4000000 in
set_option maxRecDepth 20000 in
theorem zc0 (l : Launch) (D : va_G) (ca : Nat → ClassId) (a : Nat) : Zct l D ca yX0_init cX0_init 1 1 12 1 24 0 (zfs [some 36, none, none, none, none, none]) a (zo0 ca a) := by
  refine zct_of (own := 0) rfl rfl (by decide) (by decide) ?_
  intro p e s m args below meth c Q Z hml hret ls H hl hW
  have h0 := lv_at hl 0 rfl
  obtain ⟨hx, hb, ht, hown, hKt, hA, hmn, hAO⟩ := id Z
  refine lv_aload_n hx hb dz0_0 rfl h0 ?_
  refine W.objInit hx hb hown (ht _ zw_1_223 rfl) (ht _ zw_1_29 rfl) (ht _ zw_1_30 rfl) rfl (by rw [hml]; exact hl.1) rfl dz0_1 (Nat.le_of_ble_eq_true rfl) (Nat.le_of_ble_eq_true rfl) ?_
  refine W.eq (g2 := F0 m 4 ls []) rfl ?_
  refine z_a (v := nI 24) (N := 24) (srt := 0) (ty := zty 0) Z h0 dz0_4 (zp_b hx hb dz0_5 (by decide +kernel)) (by decide) zw_1_100 (nI_pos (by decide)) (nI_clamp (by decide)) (by decide) (Nat.le_of_ble_eq_true rfl) (Nat.le_of_ble_eq_true rfl) dz0_7 rfl (by decide) (Nat.le_of_ble_eq_true rfl) (fun _ => rfl) (by decide +kernel) dz0_9 hW (fun H locs hW => ?_)
  refine z_i (v := Int32.ofInt 0) (ty := .int) Z h0 dz0_12 (zp_c hx hb dz0_13 rfl) rfl (by decide) (Nat.le_of_ble_eq_true rfl) (fun _ => rfl) (by decide +kernel) rfl rfl dz0_14 hW (fun H locs hW => ?_)
  refine z_i (v := Int32.ofInt 0) (ty := .int) Z h0 dz0_17 (zp_c hx hb dz0_18 rfl) rfl (by decide) (Nat.le_of_ble_eq_true rfl) (fun _ => rfl) (by decide +kernel) rfl rfl dz0_19 hW (fun H locs hW => ?_)
  refine z_i (v := Int32.ofInt 0) (ty := .int) Z h0 dz0_22 (zp_c hx hb dz0_23 rfl) rfl (by decide) (Nat.le_of_ble_eq_true rfl) (fun _ => rfl) (by decide +kernel) rfl rfl dz0_24 hW (fun H locs hW => ?_)
  refine z_i (v := Int32.ofInt 0) (ty := .int) Z h0 dz0_27 (zp_c hx hb dz0_28 rfl) rfl (by decide) (Nat.le_of_ble_eq_true rfl) (fun _ => rfl) (by decide +kernel) rfl rfl dz0_29 hW (fun H locs hW => ?_)
  refine z_i (v := Int32.ofInt 1) (ty := .int) Z h0 dz0_32 (zp_c hx hb dz0_33 rfl) rfl (by decide) (Nat.le_of_ble_eq_true rfl) (fun _ => rfl) (by decide +kernel) rfl rfl dz0_34 hW (fun H locs hW => ?_)
  exact hret 37 ls H locs dz0_37 hW
def zo1 (ca : Nat → ClassId) (a : Nat) : va_W := [(a, .inr (1, [.int (Int32.ofInt 0), .int (Int32.ofInt 0), .int (Int32.ofInt 0), .int (Int32.ofInt 0), .int (Int32.ofInt 0), .int (Int32.ofInt (-1))]))]
set_option maxHeartbeats 4000000 in
set_option maxRecDepth 20000 in
theorem zc1 (l : Launch) (D : va_G) (ca : Nat → ClassId) (a : Nat) : Zct l D ca yX1_init cX1_init 1 1 12 0 0 1 (zfs [none, none, none, none, none, none]) a (zo1 ca a) := by
  refine zct_of (own := 1) rfl rfl (by decide) (by decide) ?_
  intro p e s m args below meth c Q Z hml hret ls H hl hW
  have h0 := lv_at hl 0 rfl
  obtain ⟨hx, hb, ht, hown, hKt, hA, hmn, hAO⟩ := id Z
  refine lv_aload_n hx hb dz1_0 rfl h0 ?_
  refine W.objInit hx hb hown (ht _ zw_2_79 rfl) (ht _ zw_1_29 rfl) (ht _ zw_1_30 rfl) rfl (by rw [hml]; exact hl.1) rfl dz1_1 (Nat.le_of_ble_eq_true rfl) (Nat.le_of_ble_eq_true rfl) ?_
  refine W.eq (g2 := F0 m 4 ls []) rfl ?_
  refine z_i (v := Int32.ofInt 0) (ty := .int) Z h0 dz1_4 (zp_c hx hb dz1_5 rfl) rfl (by decide) (Nat.le_of_ble_eq_true rfl) (fun _ => rfl) (by decide +kernel) rfl rfl dz1_6 hW (fun H locs hW => ?_)
  refine z_i (v := Int32.ofInt 0) (ty := .int) Z h0 dz1_9 (zp_c hx hb dz1_10 rfl) rfl (by decide) (Nat.le_of_ble_eq_true rfl) (fun _ => rfl) (by decide +kernel) rfl rfl dz1_11 hW (fun H locs hW => ?_)
  refine z_i (v := Int32.ofInt 0) (ty := .int) Z h0 dz1_14 (zp_c hx hb dz1_15 rfl) rfl (by decide) (Nat.le_of_ble_eq_true rfl) (fun _ => rfl) (by decide +kernel) rfl rfl dz1_16 hW (fun H locs hW => ?_)
  refine z_i (v := Int32.ofInt 0) (ty := .int) Z h0 dz1_19 (zp_c hx hb dz1_20 rfl) rfl (by decide) (Nat.le_of_ble_eq_true rfl) (fun _ => rfl) (by decide +kernel) rfl rfl dz1_21 hW (fun H locs hW => ?_)
  refine z_i (v := Int32.ofInt 0) (ty := .int) Z h0 dz1_24 (zp_c hx hb dz1_25 rfl) rfl (by decide) (Nat.le_of_ble_eq_true rfl) (fun _ => rfl) (by decide +kernel) rfl rfl dz1_26 hW (fun H locs hW => ?_)
  refine z_i (v := Int32.ofInt (-1)) (ty := .int) Z h0 dz1_29 (zp_c hx hb dz1_30 rfl) rfl (by decide) (Nat.le_of_ble_eq_true rfl) (fun _ => rfl) (by decide +kernel) rfl rfl dz1_31 hW (fun H locs hW => ?_)
  exact hret 34 ls H locs dz1_34 hW
def zo2 (ca : Nat → ClassId) (a : Nat) : va_W := [(a, .inr (2, [.int (Int32.ofInt 0), .int (Int32.ofInt 0), .int (Int32.ofInt 0), .int (Int32.ofInt (-1)), .int (Int32.ofInt 0), .ref (a + 1), .ref (a + 2)])), (a + 1, .inl (ca 0, 48, .inl (fun j => if j < 48 then Int32.ofInt 1 else (0 : Int32)))), (a + 2, .inl (ca 1, zar 1 48))]
set_option maxHeartbeats 4000000 in
set_option maxRecDepth 20000 in
theorem zc2 (l : Launch) (D : va_G) (ca : Nat → ClassId) (a : Nat) : Zct l D ca yX2_init cX2_init 2 1 12 2 96 2 (zfs [none, none, none, none, none, some 39, some 40]) a (zo2 ca a) := by
  refine zct_of (own := 2) rfl rfl (by decide) (by decide) ?_
  intro p e s m args below meth c Q Z hml hret ls H hl hW
  have h0 := lv_at hl 0 rfl
  obtain ⟨hx, hb, ht, hown, hKt, hA, hmn, hAO⟩ := id Z
  refine lv_aload_n hx hb dz2_0 rfl h0 ?_
  refine W.objInit hx hb hown (ht _ zw_2_11 rfl) (ht _ zw_1_29 rfl) (ht _ zw_1_30 rfl) rfl (by rw [hml]; exact hl.1) rfl dz2_1 (Nat.le_of_ble_eq_true rfl) (Nat.le_of_ble_eq_true rfl) ?_
  refine W.eq (g2 := F0 m 4 ls []) rfl ?_
  refine z_i (v := Int32.ofInt 0) (ty := .int) Z h0 dz2_4 (zp_c hx hb dz2_5 rfl) rfl (by decide) (Nat.le_of_ble_eq_true rfl) (fun _ => rfl) (by decide +kernel) rfl rfl dz2_6 hW (fun H locs hW => ?_)
  refine z_i (v := Int32.ofInt 0) (ty := .int) Z h0 dz2_9 (zp_c hx hb dz2_10 rfl) rfl (by decide) (Nat.le_of_ble_eq_true rfl) (fun _ => rfl) (by decide +kernel) rfl rfl dz2_11 hW (fun H locs hW => ?_)
  refine z_i (v := Int32.ofInt 0) (ty := .int) Z h0 dz2_14 (zp_c hx hb dz2_15 rfl) rfl (by decide) (Nat.le_of_ble_eq_true rfl) (fun _ => rfl) (by decide +kernel) rfl rfl dz2_16 hW (fun H locs hW => ?_)
  refine z_i (v := Int32.ofInt (-1)) (ty := .int) Z h0 dz2_19 (zp_c hx hb dz2_20 rfl) rfl (by decide) (Nat.le_of_ble_eq_true rfl) (fun _ => rfl) (by decide +kernel) rfl rfl dz2_21 hW (fun H locs hW => ?_)
  refine z_i (v := Int32.ofInt 0) (ty := .int) Z h0 dz2_24 (zp_c hx hb dz2_25 rfl) rfl (by decide) (Nat.le_of_ble_eq_true rfl) (fun _ => rfl) (by decide +kernel) rfl rfl dz2_26 hW (fun H locs hW => ?_)
  refine z_a (v := nI 48) (N := 48) (srt := 0) (ty := zty 0) Z h0 dz2_29 (zp_b hx hb dz2_30 (by decide +kernel)) (by decide) zw_1_100 (nI_pos (by decide)) (nI_clamp (by decide)) (by decide) (Nat.le_of_ble_eq_true rfl) (Nat.le_of_ble_eq_true rfl) dz2_32 rfl (by decide) (Nat.le_of_ble_eq_true rfl) (fun _ => rfl) (by decide +kernel) dz2_34 hW (fun H locs hW => ?_)
  refine z_a (v := nI 48) (N := 48) (srt := 1) (ty := zty 1) Z h0 dz2_37 (zp_b hx hb dz2_38 (by decide +kernel)) (by decide) zw_1_101 (nI_pos (by decide)) (nI_clamp (by decide)) (by decide) (Nat.le_of_ble_eq_true rfl) (Nat.le_of_ble_eq_true rfl) dz2_40 rfl (by decide) (Nat.le_of_ble_eq_true rfl) (fun _ => rfl) (by decide +kernel) dz2_42 hW (fun H locs hW => ?_)
  refine lv_iconst (v := nI 0) hx hb dz2_45 (by decide +kernel) ?_
  refine lv_istore_n (lv' := [(1, .int (nI 0)), (0, .ref a)]) hx hb dz2_46 rfl hl (by decide) rfl (fun ls hl => ?_)
  have hW2 := hW.re (q0 := 1) (e1 := .inl (ca 0, 48, .inl (fun j => if j < 0 then Int32.ofInt 1 else (0 : Int32)))) rfl (fun h => by rw [z_if0]; exact h)
  refine z_fill (N := 48) (v := Int32.ofInt 1) (f0 := fun _ => 0) (k := 1) (pc1 := 50) (pcx := 66) Z (by decide) (by decide) dz2_47 (zp_b hx hb dz2_48 (by decide +kernel)) dz2_50 (by decide) dz2_53 dz2_54 dz2_57 dz2_58 rfl dz2_59 dz2_60 dz2_63 (by decide) rfl (by decide) (qa := 1) rfl rfl rfl (by decide) (fun H locs ls hl hW => ?_) 48 0 rfl _ _ ls hl hW2
  have hl := lv_sub hl [1] rfl
  have h0 := lv_at hl 0 rfl
  exact hret 66 ls H locs dz2_66 hW
def zo3 (ca : Nat → ClassId) (a : Nat) : va_W := [(a, .inr (3, [.int (Int32.ofInt 0), .int (Int32.ofInt 0), .int (Int32.ofInt (-1)), .int (Int32.ofInt (-1)), .int (Int32.ofInt 0), .ref (a + 1), .ref (a + 2)])), (a + 1, .inl (ca 0, zar 0 31)), (a + 2, .inl (ca 0, zar 0 30))]
set_option maxHeartbeats 4000000 in
set_option maxRecDepth 20000 in
theorem zc3 (l : Launch) (D : va_G) (ca : Nat → ClassId) (a : Nat) : Zct l D ca yX3_init cX3_init 1 1 12 2 61 3 (zfs [none, none, none, none, none, some 42, some 43]) a (zo3 ca a) := by
  refine zct_of (own := 3) rfl rfl (by decide) (by decide) ?_
  intro p e s m args below meth c Q Z hml hret ls H hl hW
  have h0 := lv_at hl 0 rfl
  obtain ⟨hx, hb, ht, hown, hKt, hA, hmn, hAO⟩ := id Z
  refine lv_aload_n hx hb dz3_0 rfl h0 ?_
  refine W.objInit hx hb hown (ht _ zw_2_45 rfl) (ht _ zw_1_29 rfl) (ht _ zw_1_30 rfl) rfl (by rw [hml]; exact hl.1) rfl dz3_1 (Nat.le_of_ble_eq_true rfl) (Nat.le_of_ble_eq_true rfl) ?_
  refine W.eq (g2 := F0 m 4 ls []) rfl ?_
  refine z_i (v := Int32.ofInt 0) (ty := .int) Z h0 dz3_4 (zp_c hx hb dz3_5 rfl) rfl (by decide) (Nat.le_of_ble_eq_true rfl) (fun _ => rfl) (by decide +kernel) rfl rfl dz3_6 hW (fun H locs hW => ?_)
  refine z_i (v := Int32.ofInt 0) (ty := .int) Z h0 dz3_9 (zp_c hx hb dz3_10 rfl) rfl (by decide) (Nat.le_of_ble_eq_true rfl) (fun _ => rfl) (by decide +kernel) rfl rfl dz3_11 hW (fun H locs hW => ?_)
  refine z_i (v := Int32.ofInt (-1)) (ty := .int) Z h0 dz3_14 (zp_c hx hb dz3_15 rfl) rfl (by decide) (Nat.le_of_ble_eq_true rfl) (fun _ => rfl) (by decide +kernel) rfl rfl dz3_16 hW (fun H locs hW => ?_)
  refine z_i (v := Int32.ofInt (-1)) (ty := .int) Z h0 dz3_19 (zp_c hx hb dz3_20 rfl) rfl (by decide) (Nat.le_of_ble_eq_true rfl) (fun _ => rfl) (by decide +kernel) rfl rfl dz3_21 hW (fun H locs hW => ?_)
  refine z_i (v := Int32.ofInt 0) (ty := .int) Z h0 dz3_24 (zp_c hx hb dz3_25 rfl) rfl (by decide) (Nat.le_of_ble_eq_true rfl) (fun _ => rfl) (by decide +kernel) rfl rfl dz3_26 hW (fun H locs hW => ?_)
  refine z_a (v := nI 31) (N := 31) (srt := 0) (ty := zty 0) Z h0 dz3_29 (zp_b hx hb dz3_30 (by decide +kernel)) (by decide) zw_1_100 (nI_pos (by decide)) (nI_clamp (by decide)) (by decide) (Nat.le_of_ble_eq_true rfl) (Nat.le_of_ble_eq_true rfl) dz3_32 rfl (by decide) (Nat.le_of_ble_eq_true rfl) (fun _ => rfl) (by decide +kernel) dz3_34 hW (fun H locs hW => ?_)
  refine z_a (v := nI 30) (N := 30) (srt := 0) (ty := zty 0) Z h0 dz3_37 (zp_b hx hb dz3_38 (by decide +kernel)) (by decide) zw_1_100 (nI_pos (by decide)) (nI_clamp (by decide)) (by decide) (Nat.le_of_ble_eq_true rfl) (Nat.le_of_ble_eq_true rfl) dz3_40 rfl (by decide) (Nat.le_of_ble_eq_true rfl) (fun _ => rfl) (by decide +kernel) dz3_42 hW (fun H locs hW => ?_)
  exact hret 45 ls H locs dz3_45 hW
def zo5 (ca : Nat → ClassId) (a : Nat) : va_W := [(a, .inr (5, [.int (Int32.ofInt 0), .int (Int32.ofInt 1), .int (Int32.ofInt (-1)), .int (Int32.ofInt 0), .int (Int32.ofInt 0), .int (Int32.ofInt (-1)), .int (Int32.ofInt (-1))]))]
set_option maxHeartbeats 4000000 in
set_option maxRecDepth 20000 in
theorem zc5 (l : Launch) (D : va_G) (ca : Nat → ClassId) (a : Nat) : Zct l D ca yX5_init cX5_init 1 1 12 0 0 5 (zfs [none, none, none, none, none, none, none]) a (zo5 ca a) := by
  refine zct_of (own := 5) rfl rfl (by decide) (by decide) ?_
  intro p e s m args below meth c Q Z hml hret ls H hl hW
  have h0 := lv_at hl 0 rfl
  obtain ⟨hx, hb, ht, hown, hKt, hA, hmn, hAO⟩ := id Z
  refine lv_aload_n hx hb dz5_0 rfl h0 ?_
  refine W.objInit hx hb hown (ht _ zw_2_109 rfl) (ht _ zw_1_29 rfl) (ht _ zw_1_30 rfl) rfl (by rw [hml]; exact hl.1) rfl dz5_1 (Nat.le_of_ble_eq_true rfl) (Nat.le_of_ble_eq_true rfl) ?_
  refine W.eq (g2 := F0 m 4 ls []) rfl ?_
  refine z_i (v := Int32.ofInt 0) (ty := .int) Z h0 dz5_4 (zp_c hx hb dz5_5 rfl) rfl (by decide) (Nat.le_of_ble_eq_true rfl) (fun _ => rfl) (by decide +kernel) rfl rfl dz5_6 hW (fun H locs hW => ?_)
  refine z_i (v := Int32.ofInt 1) (ty := .int) Z h0 dz5_9 (zp_c hx hb dz5_10 rfl) rfl (by decide) (Nat.le_of_ble_eq_true rfl) (fun _ => rfl) (by decide +kernel) rfl rfl dz5_11 hW (fun H locs hW => ?_)
  refine z_i (v := Int32.ofInt (-1)) (ty := .int) Z h0 dz5_14 (zp_c hx hb dz5_15 rfl) rfl (by decide) (Nat.le_of_ble_eq_true rfl) (fun _ => rfl) (by decide +kernel) rfl rfl dz5_16 hW (fun H locs hW => ?_)
  refine z_i (v := Int32.ofInt 0) (ty := .int) Z h0 dz5_19 (zp_c hx hb dz5_20 rfl) rfl (by decide) (Nat.le_of_ble_eq_true rfl) (fun _ => rfl) (by decide +kernel) rfl rfl dz5_21 hW (fun H locs hW => ?_)
  refine z_i (v := Int32.ofInt 0) (ty := .int) Z h0 dz5_24 (zp_c hx hb dz5_25 rfl) rfl (by decide) (Nat.le_of_ble_eq_true rfl) (fun _ => rfl) (by decide +kernel) rfl rfl dz5_26 hW (fun H locs hW => ?_)
  refine z_i (v := Int32.ofInt (-1)) (ty := .int) Z h0 dz5_29 (zp_c hx hb dz5_30 rfl) rfl (by decide) (Nat.le_of_ble_eq_true rfl) (fun _ => rfl) (by decide +kernel) rfl rfl dz5_31 hW (fun H locs hW => ?_)
  refine z_i (v := Int32.ofInt (-1)) (ty := .int) Z h0 dz5_34 (zp_c hx hb dz5_35 rfl) rfl (by decide) (Nat.le_of_ble_eq_true rfl) (fun _ => rfl) (by decide +kernel) rfl rfl dz5_36 hW (fun H locs hW => ?_)
  exact hret 39 ls H locs dz5_39 hW
def zo6 (ca : Nat → ClassId) (a : Nat) : va_W := [(a, .inr (6, [.int (Int32.ofInt 0), .int (Int32.ofInt 0), .int (Int32.ofInt 0), .int (Int32.ofInt 0), .int (Int32.ofInt (-1)), .int (Int32.ofInt 0), .int (Int32.ofInt 0), .ref (a + 1), .ref (a + 2), .int (Int32.ofInt 0), .int (Int32.ofInt 0)])), (a + 1, .inl (ca 0, zar 0 31)), (a + 2, .inl (ca 1, zar 1 31))]
set_option maxHeartbeats 4000000 in
set_option maxRecDepth 20000 in
theorem zc6 (l : Launch) (D : va_G) (ca : Nat → ClassId) (a : Nat) : Zct l D ca yX6_init cX6_init 1 1 12 2 62 6 (zfs [none, none, none, none, none, none, none, some 18, some 19, none, none]) a (zo6 ca a) := by
  refine zct_of (own := 6) rfl rfl (by decide) (by decide) ?_
  intro p e s m args below meth c Q Z hml hret ls H hl hW
  have h0 := lv_at hl 0 rfl
  obtain ⟨hx, hb, ht, hown, hKt, hA, hmn, hAO⟩ := id Z
  refine lv_aload_n hx hb dz6_0 rfl h0 ?_
  refine W.objInit hx hb hown (ht _ zw_1_47 rfl) (ht _ zw_1_29 rfl) (ht _ zw_1_30 rfl) rfl (by rw [hml]; exact hl.1) rfl dz6_1 (Nat.le_of_ble_eq_true rfl) (Nat.le_of_ble_eq_true rfl) ?_
  refine W.eq (g2 := F0 m 4 ls []) rfl ?_
  refine z_i (v := Int32.ofInt 0) (ty := .int) Z h0 dz6_4 (zp_c hx hb dz6_5 rfl) rfl (by decide) (Nat.le_of_ble_eq_true rfl) (fun _ => rfl) (by decide +kernel) rfl rfl dz6_6 hW (fun H locs hW => ?_)
  refine z_i (v := Int32.ofInt 0) (ty := .int) Z h0 dz6_9 (zp_c hx hb dz6_10 rfl) rfl (by decide) (Nat.le_of_ble_eq_true rfl) (fun _ => rfl) (by decide +kernel) rfl rfl dz6_11 hW (fun H locs hW => ?_)
  refine z_i (v := Int32.ofInt 0) (ty := .int) Z h0 dz6_14 (zp_c hx hb dz6_15 rfl) rfl (by decide) (Nat.le_of_ble_eq_true rfl) (fun _ => rfl) (by decide +kernel) rfl rfl dz6_16 hW (fun H locs hW => ?_)
  refine z_i (v := Int32.ofInt 0) (ty := .int) Z h0 dz6_19 (zp_c hx hb dz6_20 rfl) rfl (by decide) (Nat.le_of_ble_eq_true rfl) (fun _ => rfl) (by decide +kernel) rfl rfl dz6_21 hW (fun H locs hW => ?_)
  refine z_i (v := Int32.ofInt (-1)) (ty := .int) Z h0 dz6_24 (zp_c hx hb dz6_25 rfl) rfl (by decide) (Nat.le_of_ble_eq_true rfl) (fun _ => rfl) (by decide +kernel) rfl rfl dz6_26 hW (fun H locs hW => ?_)
  refine z_i (v := Int32.ofInt 0) (ty := .int) Z h0 dz6_29 (zp_c hx hb dz6_30 rfl) rfl (by decide) (Nat.le_of_ble_eq_true rfl) (fun _ => rfl) (by decide +kernel) rfl rfl dz6_31 hW (fun H locs hW => ?_)
  refine z_i (v := Int32.ofInt 0) (ty := .boolean) Z h0 dz6_34 (zp_c hx hb dz6_35 rfl) rfl (by decide) (Nat.le_of_ble_eq_true rfl) (fun _ => rfl) (by decide +kernel) rfl rfl dz6_36 hW (fun H locs hW => ?_)
  refine z_a (v := nI 31) (N := 31) (srt := 0) (ty := zty 0) Z h0 dz6_39 (zp_b hx hb dz6_40 (by decide +kernel)) (by decide) zw_1_100 (nI_pos (by decide)) (nI_clamp (by decide)) (by decide) (Nat.le_of_ble_eq_true rfl) (Nat.le_of_ble_eq_true rfl) dz6_42 rfl (by decide) (Nat.le_of_ble_eq_true rfl) (fun _ => rfl) (by decide +kernel) dz6_44 hW (fun H locs hW => ?_)
  refine z_a (v := nI 31) (N := 31) (srt := 1) (ty := zty 1) Z h0 dz6_47 (zp_b hx hb dz6_48 (by decide +kernel)) (by decide) zw_1_101 (nI_pos (by decide)) (nI_clamp (by decide)) (by decide) (Nat.le_of_ble_eq_true rfl) (Nat.le_of_ble_eq_true rfl) dz6_50 rfl (by decide) (Nat.le_of_ble_eq_true rfl) (fun _ => rfl) (by decide +kernel) dz6_52 hW (fun H locs hW => ?_)
  refine z_i (v := Int32.ofInt 0) (ty := .int) Z h0 dz6_55 (zp_c hx hb dz6_56 rfl) rfl (by decide) (Nat.le_of_ble_eq_true rfl) (fun _ => rfl) (by decide +kernel) rfl rfl dz6_57 hW (fun H locs hW => ?_)
  refine z_i (v := Int32.ofInt 0) (ty := .boolean) Z h0 dz6_60 (zp_c hx hb dz6_61 rfl) rfl (by decide) (Nat.le_of_ble_eq_true rfl) (fun _ => rfl) (by decide +kernel) rfl rfl dz6_62 hW (fun H locs hW => ?_)
  exact hret 65 ls H locs dz6_65 hW
def zo7 (ca : Nat → ClassId) (a : Nat) : va_W := [(a, .inr (7, [.int (Int32.ofInt 0), .int (Int32.ofInt 0), .int (Int32.ofInt 0), .int (Int32.ofInt 0), .int (Int32.ofInt 0), .ref (a + 1), .ref (a + 2)])), (a + 1, .inl (ca 0, zar 0 161)), (a + 2, .inl (ca 0, zar 0 64))]
set_option maxHeartbeats 4000000 in
set_option maxRecDepth 20000 in
theorem zc7 (l : Launch) (D : va_G) (ca : Nat → ClassId) (a : Nat) : Zct l D ca yX7_init cX7_init 1 1 12 2 225 7 (zfs [none, none, none, none, none, some 47, some 48]) a (zo7 ca a) := by
  refine zct_of (own := 7) rfl rfl (by decide) (by decide) ?_
  intro p e s m args below meth c Q Z hml hret ls H hl hW
  have h0 := lv_at hl 0 rfl
  obtain ⟨hx, hb, ht, hown, hKt, hA, hmn, hAO⟩ := id Z
  refine lv_aload_n hx hb dz7_0 rfl h0 ?_
  refine W.objInit hx hb hown (ht _ zw_2_146 rfl) (ht _ zw_1_29 rfl) (ht _ zw_1_30 rfl) rfl (by rw [hml]; exact hl.1) rfl dz7_1 (Nat.le_of_ble_eq_true rfl) (Nat.le_of_ble_eq_true rfl) ?_
  refine W.eq (g2 := F0 m 4 ls []) rfl ?_
  refine z_i (v := Int32.ofInt 0) (ty := .int) Z h0 dz7_4 (zp_c hx hb dz7_5 rfl) rfl (by decide) (Nat.le_of_ble_eq_true rfl) (fun _ => rfl) (by decide +kernel) rfl rfl dz7_6 hW (fun H locs hW => ?_)
  refine z_i (v := Int32.ofInt 0) (ty := .int) Z h0 dz7_9 (zp_c hx hb dz7_10 rfl) rfl (by decide) (Nat.le_of_ble_eq_true rfl) (fun _ => rfl) (by decide +kernel) rfl rfl dz7_11 hW (fun H locs hW => ?_)
  refine z_i (v := Int32.ofInt 0) (ty := .int) Z h0 dz7_14 (zp_c hx hb dz7_15 rfl) rfl (by decide) (Nat.le_of_ble_eq_true rfl) (fun _ => rfl) (by decide +kernel) rfl rfl dz7_16 hW (fun H locs hW => ?_)
  refine z_i (v := Int32.ofInt 0) (ty := .int) Z h0 dz7_19 (zp_c hx hb dz7_20 rfl) rfl (by decide) (Nat.le_of_ble_eq_true rfl) (fun _ => rfl) (by decide +kernel) rfl rfl dz7_21 hW (fun H locs hW => ?_)
  refine z_i (v := Int32.ofInt 0) (ty := .int) Z h0 dz7_24 (zp_c hx hb dz7_25 rfl) rfl (by decide) (Nat.le_of_ble_eq_true rfl) (fun _ => rfl) (by decide +kernel) rfl rfl dz7_26 hW (fun H locs hW => ?_)
  refine z_a (v := nI 161) (N := 161) (srt := 0) (ty := zty 0) Z h0 dz7_29 (zp_s hx hb dz7_30 (by decide +kernel)) (by decide) zw_1_100 (nI_pos (by decide)) (nI_clamp (by decide)) (by decide) (Nat.le_of_ble_eq_true rfl) (Nat.le_of_ble_eq_true rfl) dz7_33 rfl (by decide) (Nat.le_of_ble_eq_true rfl) (fun _ => rfl) (by decide +kernel) dz7_35 hW (fun H locs hW => ?_)
  refine z_a (v := nI 64) (N := 64) (srt := 0) (ty := zty 0) Z h0 dz7_38 (zp_b hx hb dz7_39 (by decide +kernel)) (by decide) zw_1_100 (nI_pos (by decide)) (nI_clamp (by decide)) (by decide) (Nat.le_of_ble_eq_true rfl) (Nat.le_of_ble_eq_true rfl) dz7_41 rfl (by decide) (Nat.le_of_ble_eq_true rfl) (fun _ => rfl) (by decide +kernel) dz7_43 hW (fun H locs hW => ?_)
  exact hret 46 ls H locs dz7_46 hW
def zo8 (ca : Nat → ClassId) (a : Nat) : va_W := [(a, .inr (8, [.int (Int32.ofInt (-2)), .int (Int32.ofInt (-1)), .int (Int32.ofInt 0), .ref (a + 1)])), (a + 1, .inl (ca 2, zar 2 60))]
set_option maxHeartbeats 4000000 in
set_option maxRecDepth 20000 in
theorem zc8 (l : Launch) (D : va_G) (ca : Nat → ClassId) (a : Nat) : Zct l D ca yX8_init cX8_init 1 1 12 1 60 8 (zfs [none, none, none, some 50]) a (zo8 ca a) := by
  refine zct_of (own := 8) rfl rfl (by decide) (by decide) ?_
  intro p e s m args below meth c Q Z hml hret ls H hl hW
  have h0 := lv_at hl 0 rfl
  obtain ⟨hx, hb, ht, hown, hKt, hA, hmn, hAO⟩ := id Z
  refine lv_aload_n hx hb dz8_0 rfl h0 ?_
  refine W.objInit hx hb hown (ht _ zw_2_179 rfl) (ht _ zw_1_29 rfl) (ht _ zw_1_30 rfl) rfl (by rw [hml]; exact hl.1) rfl dz8_1 (Nat.le_of_ble_eq_true rfl) (Nat.le_of_ble_eq_true rfl) ?_
  refine W.eq (g2 := F0 m 4 ls []) rfl ?_
  refine z_i (v := Int32.ofInt (-2)) (ty := .int) Z h0 dz8_4 (zp_b hx hb dz8_5 (by decide +kernel)) rfl (by decide) (Nat.le_of_ble_eq_true rfl) (fun _ => rfl) (by decide +kernel) rfl rfl dz8_7 hW (fun H locs hW => ?_)
  refine z_i (v := Int32.ofInt (-1)) (ty := .int) Z h0 dz8_10 (zp_c hx hb dz8_11 rfl) rfl (by decide) (Nat.le_of_ble_eq_true rfl) (fun _ => rfl) (by decide +kernel) rfl rfl dz8_12 hW (fun H locs hW => ?_)
  refine z_i (v := Int32.ofInt 0) (ty := .int) Z h0 dz8_15 (zp_c hx hb dz8_16 rfl) rfl (by decide) (Nat.le_of_ble_eq_true rfl) (fun _ => rfl) (by decide +kernel) rfl rfl dz8_17 hW (fun H locs hW => ?_)
  refine z_a (v := nI 60) (N := 60) (srt := 2) (ty := zty 2) Z h0 dz8_20 (zp_b hx hb dz8_21 (by decide +kernel)) (by decide) zw_2_197 (nI_pos (by decide)) (nI_clamp (by decide)) (by decide) (Nat.le_of_ble_eq_true rfl) (Nat.le_of_ble_eq_true rfl) dz8_23 rfl (by decide) (Nat.le_of_ble_eq_true rfl) (fun _ => rfl) (by decide +kernel) dz8_25 hW (fun H locs hW => ?_)
  exact hret 28 ls H locs dz8_28 hW
def zo9 (ca : Nat → ClassId) (a : Nat) : va_W := [(a, .inr (9, [.int (Int32.ofInt 0), .ref (a + 1), .int (Int32.ofInt 0)])), (a + 1, .inl (ca 0, zar 0 160))]
set_option maxHeartbeats 4000000 in
set_option maxRecDepth 20000 in
theorem zc9 (l : Launch) (D : va_G) (ca : Nat → ClassId) (a : Nat) : Zct l D ca yX9_init cX9_init 1 1 12 1 160 9 (zfs [none, some 24, none]) a (zo9 ca a) := by
  refine zct_of (own := 9) rfl rfl (by decide) (by decide) ?_
  intro p e s m args below meth c Q Z hml hret ls H hl hW
  have h0 := lv_at hl 0 rfl
  obtain ⟨hx, hb, ht, hown, hKt, hA, hmn, hAO⟩ := id Z
  refine lv_aload_n hx hb dz9_0 rfl h0 ?_
  refine W.objInit hx hb hown (ht _ zw_1_159 rfl) (ht _ zw_1_29 rfl) (ht _ zw_1_30 rfl) rfl (by rw [hml]; exact hl.1) rfl dz9_1 (Nat.le_of_ble_eq_true rfl) (Nat.le_of_ble_eq_true rfl) ?_
  refine W.eq (g2 := F0 m 4 ls []) rfl ?_
  refine z_i (v := Int32.ofInt 0) (ty := .int) Z h0 dz9_4 (zp_c hx hb dz9_5 rfl) rfl (by decide) (Nat.le_of_ble_eq_true rfl) (fun _ => rfl) (by decide +kernel) rfl rfl dz9_6 hW (fun H locs hW => ?_)
  refine z_a (v := nI 160) (N := 160) (srt := 0) (ty := zty 0) Z h0 dz9_9 (zp_s hx hb dz9_10 (by decide +kernel)) (by decide) zw_1_100 (nI_pos (by decide)) (nI_clamp (by decide)) (by decide) (Nat.le_of_ble_eq_true rfl) (Nat.le_of_ble_eq_true rfl) dz9_13 rfl (by decide) (Nat.le_of_ble_eq_true rfl) (fun _ => rfl) (by decide +kernel) dz9_15 hW (fun H locs hW => ?_)
  refine z_i (v := Int32.ofInt 0) (ty := .int) Z h0 dz9_18 (zp_c hx hb dz9_19 rfl) rfl (by decide) (Nat.le_of_ble_eq_true rfl) (fun _ => rfl) (by decide +kernel) rfl rfl dz9_20 hW (fun H locs hW => ?_)
  exact hret 23 ls H locs dz9_23 hW
def zo10 (ca : Nat → ClassId) (a : Nat) : va_W := [(a, .inr (10, [.int (Int32.ofInt 0), .int (Int32.ofInt 0), .ref (a + 1), .ref (a + 2), .ref (a + 3), .ref (a + 4), .ref (a + 5), .ref (a + 6), .ref (a + 7), .ref (a + 8)])), (a + 1, .inl (ca 0, zar 0 3)), (a + 2, .inl (ca 0, zar 0 3)), (a + 3, .inl (ca 0, zar 0 12)), (a + 4, .inl (ca 0, zar 0 12)), (a + 5, .inl (ca 0, zar 0 12)), (a + 6, .inl (ca 0, zar 0 12)), (a + 7, .inl (ca 0, zar 0 3)), (a + 8, .inl (ca 0, zar 0 3))]
set_option maxHeartbeats 4000000 in
set_option maxRecDepth 20000 in
theorem zc10 (l : Launch) (D : va_G) (ca : Nat → ClassId) (a : Nat) : Zct l D ca yX10_init cX10_init 1 1 12 8 60 10 (zfs [none, none, some 27, some 28, some 29, some 30, some 31, some 32, some 33, some 34]) a (zo10 ca a) := by
  refine zct_of (own := 10) rfl rfl (by decide) (by decide) ?_
  intro p e s m args below meth c Q Z hml hret ls H hl hW
  have h0 := lv_at hl 0 rfl
  obtain ⟨hx, hb, ht, hown, hKt, hA, hmn, hAO⟩ := id Z
  refine lv_aload_n hx hb dz10_0 rfl h0 ?_
  refine W.objInit hx hb hown (ht _ zw_1_176 rfl) (ht _ zw_1_29 rfl) (ht _ zw_1_30 rfl) rfl (by rw [hml]; exact hl.1) rfl dz10_1 (Nat.le_of_ble_eq_true rfl) (Nat.le_of_ble_eq_true rfl) ?_
  refine W.eq (g2 := F0 m 4 ls []) rfl ?_
  refine z_i (v := Int32.ofInt 0) (ty := .int) Z h0 dz10_4 (zp_c hx hb dz10_5 rfl) rfl (by decide) (Nat.le_of_ble_eq_true rfl) (fun _ => rfl) (by decide +kernel) rfl rfl dz10_6 hW (fun H locs hW => ?_)
  refine z_i (v := Int32.ofInt 0) (ty := .int) Z h0 dz10_9 (zp_c hx hb dz10_10 rfl) rfl (by decide) (Nat.le_of_ble_eq_true rfl) (fun _ => rfl) (by decide +kernel) rfl rfl dz10_11 hW (fun H locs hW => ?_)
  refine z_a (v := nI 3) (N := 3) (srt := 0) (ty := zty 0) Z h0 dz10_14 (zp_c hx hb dz10_15 (by decide +kernel)) (by decide) zw_1_100 (nI_pos (by decide)) (nI_clamp (by decide)) (by decide) (Nat.le_of_ble_eq_true rfl) (Nat.le_of_ble_eq_true rfl) dz10_16 rfl (by decide) (Nat.le_of_ble_eq_true rfl) (fun _ => rfl) (by decide +kernel) dz10_18 hW (fun H locs hW => ?_)
  refine z_a (v := nI 3) (N := 3) (srt := 0) (ty := zty 0) Z h0 dz10_21 (zp_c hx hb dz10_22 (by decide +kernel)) (by decide) zw_1_100 (nI_pos (by decide)) (nI_clamp (by decide)) (by decide) (Nat.le_of_ble_eq_true rfl) (Nat.le_of_ble_eq_true rfl) dz10_23 rfl (by decide) (Nat.le_of_ble_eq_true rfl) (fun _ => rfl) (by decide +kernel) dz10_25 hW (fun H locs hW => ?_)
  refine z_a (v := nI 12) (N := 12) (srt := 0) (ty := zty 0) Z h0 dz10_28 (zp_b hx hb dz10_29 (by decide +kernel)) (by decide) zw_1_100 (nI_pos (by decide)) (nI_clamp (by decide)) (by decide) (Nat.le_of_ble_eq_true rfl) (Nat.le_of_ble_eq_true rfl) dz10_31 rfl (by decide) (Nat.le_of_ble_eq_true rfl) (fun _ => rfl) (by decide +kernel) dz10_33 hW (fun H locs hW => ?_)
  refine z_a (v := nI 12) (N := 12) (srt := 0) (ty := zty 0) Z h0 dz10_36 (zp_b hx hb dz10_37 (by decide +kernel)) (by decide) zw_1_100 (nI_pos (by decide)) (nI_clamp (by decide)) (by decide) (Nat.le_of_ble_eq_true rfl) (Nat.le_of_ble_eq_true rfl) dz10_39 rfl (by decide) (Nat.le_of_ble_eq_true rfl) (fun _ => rfl) (by decide +kernel) dz10_41 hW (fun H locs hW => ?_)
  refine z_a (v := nI 12) (N := 12) (srt := 0) (ty := zty 0) Z h0 dz10_44 (zp_b hx hb dz10_45 (by decide +kernel)) (by decide) zw_1_100 (nI_pos (by decide)) (nI_clamp (by decide)) (by decide) (Nat.le_of_ble_eq_true rfl) (Nat.le_of_ble_eq_true rfl) dz10_47 rfl (by decide) (Nat.le_of_ble_eq_true rfl) (fun _ => rfl) (by decide +kernel) dz10_49 hW (fun H locs hW => ?_)
  refine z_a (v := nI 12) (N := 12) (srt := 0) (ty := zty 0) Z h0 dz10_52 (zp_b hx hb dz10_53 (by decide +kernel)) (by decide) zw_1_100 (nI_pos (by decide)) (nI_clamp (by decide)) (by decide) (Nat.le_of_ble_eq_true rfl) (Nat.le_of_ble_eq_true rfl) dz10_55 rfl (by decide) (Nat.le_of_ble_eq_true rfl) (fun _ => rfl) (by decide +kernel) dz10_57 hW (fun H locs hW => ?_)
  refine z_a (v := nI 3) (N := 3) (srt := 0) (ty := zty 0) Z h0 dz10_60 (zp_c hx hb dz10_61 (by decide +kernel)) (by decide) zw_1_100 (nI_pos (by decide)) (nI_clamp (by decide)) (by decide) (Nat.le_of_ble_eq_true rfl) (Nat.le_of_ble_eq_true rfl) dz10_62 rfl (by decide) (Nat.le_of_ble_eq_true rfl) (fun _ => rfl) (by decide +kernel) dz10_64 hW (fun H locs hW => ?_)
  refine z_a (v := nI 3) (N := 3) (srt := 0) (ty := zty 0) Z h0 dz10_67 (zp_c hx hb dz10_68 (by decide +kernel)) (by decide) zw_1_100 (nI_pos (by decide)) (nI_clamp (by decide)) (by decide) (Nat.le_of_ble_eq_true rfl) (Nat.le_of_ble_eq_true rfl) dz10_69 rfl (by decide) (Nat.le_of_ble_eq_true rfl) (fun _ => rfl) (by decide +kernel) dz10_71 hW (fun H locs hW => ?_)
  exact hret 74 ls H locs dz10_74 hW
