theorem dX7_init_0 : ax_D cX7_init 0 (.aload_n 0) 1 1 := ⟨by decide +kernel, rfl⟩
theorem dX7_init_1 : ax_D cX7_init 1 (.invokespecial 3) 3 4 := ⟨by decide +kernel, rfl⟩
theorem dX7_init_4 : ax_D cX7_init 4 (.aload_n 0) 1 5 := ⟨by decide +kernel, rfl⟩
theorem dX7_init_5 : ax_D cX7_init 5 (.bipush 40) 2 7 := ⟨by decide +kernel, rfl⟩
theorem dX7_init_7 : ax_D cX7_init 7 (.newarray .int) 2 9 := ⟨by decide +kernel, rfl⟩
theorem dX7_init_9 : ax_D cX7_init 9 (.putfield 9) 3 12 := ⟨by decide +kernel, rfl⟩
theorem dX7_init_12 : ax_D cX7_init 12 (.aload_n 0) 1 13 := ⟨by decide +kernel, rfl⟩
theorem dX7_init_13 : ax_D cX7_init 13 (.bipush 40) 2 15 := ⟨by decide +kernel, rfl⟩
theorem dX7_init_15 : ax_D cX7_init 15 (.newarray .int) 2 17 := ⟨by decide +kernel, rfl⟩
theorem dX7_init_17 : ax_D cX7_init 17 (.putfield 15) 3 20 := ⟨by decide +kernel, rfl⟩
theorem dX7_init_20 : ax_D cX7_init 20 (.aload_n 0) 1 21 := ⟨by decide +kernel, rfl⟩
theorem dX7_init_21 : ax_D cX7_init 21 (.bipush 40) 2 23 := ⟨by decide +kernel, rfl⟩
theorem dX7_init_23 : ax_D cX7_init 23 (.newarray .int) 2 25 := ⟨by decide +kernel, rfl⟩
theorem dX7_init_25 : ax_D cX7_init 25 (.putfield 18) 3 28 := ⟨by decide +kernel, rfl⟩
theorem dX7_init_28 : ax_D cX7_init 28 (.aload_n 0) 1 29 := ⟨by decide +kernel, rfl⟩
theorem dX7_init_29 : ax_D cX7_init 29 (.bipush 40) 2 31 := ⟨by decide +kernel, rfl⟩
theorem dX7_init_31 : ax_D cX7_init 31 (.newarray .int) 2 33 := ⟨by decide +kernel, rfl⟩
theorem dX7_init_33 : ax_D cX7_init 33 (.putfield 21) 3 36 := ⟨by decide +kernel, rfl⟩
theorem dX7_init_36 : ax_D cX7_init 36 (.aload_n 0) 1 37 := ⟨by decide +kernel, rfl⟩
theorem dX7_init_37 : ax_D cX7_init 37 (.bipush 40) 2 39 := ⟨by decide +kernel, rfl⟩
theorem dX7_init_39 : ax_D cX7_init 39 (.newarray .int) 2 41 := ⟨by decide +kernel, rfl⟩
theorem dX7_init_41 : ax_D cX7_init 41 (.putfield 24) 3 44 := ⟨by decide +kernel, rfl⟩
theorem dX7_init_44 : ax_D cX7_init 44 (.aload_n 0) 1 45 := ⟨by decide +kernel, rfl⟩
theorem dX7_init_45 : ax_D cX7_init 45 (.bipush 40) 2 47 := ⟨by decide +kernel, rfl⟩
theorem dX7_init_47 : ax_D cX7_init 47 (.newarray .int) 2 49 := ⟨by decide +kernel, rfl⟩
theorem dX7_init_49 : ax_D cX7_init 49 (.putfield 27) 3 52 := ⟨by decide +kernel, rfl⟩
theorem dX7_init_52 : ax_D cX7_init 52 (.aload_n 0) 1 53 := ⟨by decide +kernel, rfl⟩
theorem dX7_init_53 : ax_D cX7_init 53 (.bipush 40) 2 55 := ⟨by decide +kernel, rfl⟩
theorem dX7_init_55 : ax_D cX7_init 55 (.newarray .int) 2 57 := ⟨by decide +kernel, rfl⟩
theorem dX7_init_57 : ax_D cX7_init 57 (.putfield 30) 3 60 := ⟨by decide +kernel, rfl⟩
theorem dX7_init_60 : ax_D cX7_init 60 (.aload_n 0) 1 61 := ⟨by decide +kernel, rfl⟩
theorem dX7_init_61 : ax_D cX7_init 61 (.iconst 0) 1 62 := ⟨by decide +kernel, rfl⟩
theorem dX7_init_62 : ax_D cX7_init 62 (.putfield 33) 3 65 := ⟨by decide +kernel, rfl⟩
theorem dX7_init_65 : ax_D cX7_init 65 (.return_) 1 66 := ⟨by decide +kernel, rfl⟩
theorem dX0_init_0 : ax_D cX0_init 0 (.aload_n 0) 1 1 := ⟨by decide +kernel, rfl⟩
theorem dX0_init_1 : ax_D cX0_init 1 (.invokespecial 3) 3 4 := ⟨by decide +kernel, rfl⟩
theorem dX0_init_4 : ax_D cX0_init 4 (.aload_n 0) 1 5 := ⟨by decide +kernel, rfl⟩
theorem dX0_init_5 : ax_D cX0_init 5 (.bipush 6) 2 7 := ⟨by decide +kernel, rfl⟩
theorem dX0_init_7 : ax_D cX0_init 7 (.newarray .int) 2 9 := ⟨by decide +kernel, rfl⟩
theorem dX0_init_9 : ax_D cX0_init 9 (.putfield 9) 3 12 := ⟨by decide +kernel, rfl⟩
theorem dX0_init_12 : ax_D cX0_init 12 (.aload_n 0) 1 13 := ⟨by decide +kernel, rfl⟩
theorem dX0_init_13 : ax_D cX0_init 13 (.bipush 6) 2 15 := ⟨by decide +kernel, rfl⟩
theorem dX0_init_15 : ax_D cX0_init 15 (.newarray .int) 2 17 := ⟨by decide +kernel, rfl⟩
theorem dX0_init_17 : ax_D cX0_init 17 (.putfield 15) 3 20 := ⟨by decide +kernel, rfl⟩
theorem dX0_init_20 : ax_D cX0_init 20 (.aload_n 0) 1 21 := ⟨by decide +kernel, rfl⟩
theorem dX0_init_21 : ax_D cX0_init 21 (.bipush 6) 2 23 := ⟨by decide +kernel, rfl⟩
theorem dX0_init_23 : ax_D cX0_init 23 (.newarray .int) 2 25 := ⟨by decide +kernel, rfl⟩
theorem dX0_init_25 : ax_D cX0_init 25 (.putfield 18) 3 28 := ⟨by decide +kernel, rfl⟩
theorem dX0_init_28 : ax_D cX0_init 28 (.aload_n 0) 1 29 := ⟨by decide +kernel, rfl⟩
theorem dX0_init_29 : ax_D cX0_init 29 (.iconst 0) 1 30 := ⟨by decide +kernel, rfl⟩
theorem dX0_init_30 : ax_D cX0_init 30 (.putfield 21) 3 33 := ⟨by decide +kernel, rfl⟩
theorem dX0_init_33 : ax_D cX0_init 33 (.return_) 1 34 := ⟨by decide +kernel, rfl⟩
theorem dX6_init_0 : ax_D cX6_init 0 (.aload_n 0) 1 1 := ⟨by decide +kernel, rfl⟩
theorem dX6_init_1 : ax_D cX6_init 1 (.invokespecial 3) 3 4 := ⟨by decide +kernel, rfl⟩
theorem dX6_init_4 : ax_D cX6_init 4 (.aload_n 0) 1 5 := ⟨by decide +kernel, rfl⟩
theorem dX6_init_5 : ax_D cX6_init 5 (.new 9) 3 8 := ⟨by decide +kernel, rfl⟩
theorem dX6_init_8 : ax_D cX6_init 8 (.dup) 1 9 := ⟨by decide +kernel, rfl⟩
theorem dX6_init_9 : ax_D cX6_init 9 (.invokespecial 11) 3 12 := ⟨by decide +kernel, rfl⟩
theorem dX6_init_12 : ax_D cX6_init 12 (.putfield 12) 3 15 := ⟨by decide +kernel, rfl⟩
theorem dX6_init_15 : ax_D cX6_init 15 (.aload_n 0) 1 16 := ⟨by decide +kernel, rfl⟩
theorem dX6_init_16 : ax_D cX6_init 16 (.new 18) 3 19 := ⟨by decide +kernel, rfl⟩
theorem dX6_init_19 : ax_D cX6_init 19 (.dup) 1 20 := ⟨by decide +kernel, rfl⟩
theorem dX6_init_20 : ax_D cX6_init 20 (.invokespecial 20) 3 23 := ⟨by decide +kernel, rfl⟩
theorem dX6_init_23 : ax_D cX6_init 23 (.putfield 21) 3 26 := ⟨by decide +kernel, rfl⟩
theorem dX6_init_26 : ax_D cX6_init 26 (.aload_n 0) 1 27 := ⟨by decide +kernel, rfl⟩
theorem dX6_init_27 : ax_D cX6_init 27 (.bipush 40) 2 29 := ⟨by decide +kernel, rfl⟩
theorem dX6_init_29 : ax_D cX6_init 29 (.newarray .int) 2 31 := ⟨by decide +kernel, rfl⟩
theorem dX6_init_31 : ax_D cX6_init 31 (.putfield 25) 3 34 := ⟨by decide +kernel, rfl⟩
theorem dX6_init_34 : ax_D cX6_init 34 (.aload_n 0) 1 35 := ⟨by decide +kernel, rfl⟩
theorem dX6_init_35 : ax_D cX6_init 35 (.bipush 40) 2 37 := ⟨by decide +kernel, rfl⟩
theorem dX6_init_37 : ax_D cX6_init 37 (.newarray .int) 2 39 := ⟨by decide +kernel, rfl⟩
theorem dX6_init_39 : ax_D cX6_init 39 (.putfield 29) 3 42 := ⟨by decide +kernel, rfl⟩
theorem dX6_init_42 : ax_D cX6_init 42 (.aload_n 0) 1 43 := ⟨by decide +kernel, rfl⟩
theorem dX6_init_43 : ax_D cX6_init 43 (.bipush 40) 2 45 := ⟨by decide +kernel, rfl⟩
theorem dX6_init_45 : ax_D cX6_init 45 (.newarray .int) 2 47 := ⟨by decide +kernel, rfl⟩
theorem dX6_init_47 : ax_D cX6_init 47 (.putfield 32) 3 50 := ⟨by decide +kernel, rfl⟩
theorem dX6_init_50 : ax_D cX6_init 50 (.aload_n 0) 1 51 := ⟨by decide +kernel, rfl⟩
theorem dX6_init_51 : ax_D cX6_init 51 (.bipush 40) 2 53 := ⟨by decide +kernel, rfl⟩
theorem dX6_init_53 : ax_D cX6_init 53 (.newarray .int) 2 55 := ⟨by decide +kernel, rfl⟩
theorem dX6_init_55 : ax_D cX6_init 55 (.putfield 35) 3 58 := ⟨by decide +kernel, rfl⟩
theorem dX6_init_58 : ax_D cX6_init 58 (.aload_n 0) 1 59 := ⟨by decide +kernel, rfl⟩
theorem dX6_init_59 : ax_D cX6_init 59 (.iconst 0) 1 60 := ⟨by decide +kernel, rfl⟩
theorem dX6_init_60 : ax_D cX6_init 60 (.putfield 38) 3 63 := ⟨by decide +kernel, rfl⟩
theorem dX6_init_63 : ax_D cX6_init 63 (.aload_n 0) 1 64 := ⟨by decide +kernel, rfl⟩
theorem dX6_init_64 : ax_D cX6_init 64 (.bipush 18) 2 66 := ⟨by decide +kernel, rfl⟩
theorem dX6_init_66 : ax_D cX6_init 66 (.newarray .int) 2 68 := ⟨by decide +kernel, rfl⟩
theorem dX6_init_68 : ax_D cX6_init 68 (.putfield 42) 3 71 := ⟨by decide +kernel, rfl⟩
theorem dX6_init_71 : ax_D cX6_init 71 (.aload_n 0) 1 72 := ⟨by decide +kernel, rfl⟩
theorem dX6_init_72 : ax_D cX6_init 72 (.bipush 18) 2 74 := ⟨by decide +kernel, rfl⟩
theorem dX6_init_74 : ax_D cX6_init 74 (.newarray .int) 2 76 := ⟨by decide +kernel, rfl⟩
theorem dX6_init_76 : ax_D cX6_init 76 (.putfield 45) 3 79 := ⟨by decide +kernel, rfl⟩
theorem dX6_init_79 : ax_D cX6_init 79 (.aload_n 0) 1 80 := ⟨by decide +kernel, rfl⟩
theorem dX6_init_80 : ax_D cX6_init 80 (.bipush 18) 2 82 := ⟨by decide +kernel, rfl⟩
theorem dX6_init_82 : ax_D cX6_init 82 (.newarray .int) 2 84 := ⟨by decide +kernel, rfl⟩
theorem dX6_init_84 : ax_D cX6_init 84 (.putfield 48) 3 87 := ⟨by decide +kernel, rfl⟩
theorem dX6_init_87 : ax_D cX6_init 87 (.aload_n 0) 1 88 := ⟨by decide +kernel, rfl⟩
theorem dX6_init_88 : ax_D cX6_init 88 (.bipush 18) 2 90 := ⟨by decide +kernel, rfl⟩
theorem dX6_init_90 : ax_D cX6_init 90 (.newarray .int) 2 92 := ⟨by decide +kernel, rfl⟩
theorem dX6_init_92 : ax_D cX6_init 92 (.putfield 51) 3 95 := ⟨by decide +kernel, rfl⟩
theorem dX6_init_95 : ax_D cX6_init 95 (.aload_n 0) 1 96 := ⟨by decide +kernel, rfl⟩
theorem dX6_init_96 : ax_D cX6_init 96 (.bipush 18) 2 98 := ⟨by decide +kernel, rfl⟩
theorem dX6_init_98 : ax_D cX6_init 98 (.newarray .int) 2 100 := ⟨by decide +kernel, rfl⟩
theorem dX6_init_100 : ax_D cX6_init 100 (.putfield 54) 3 103 := ⟨by decide +kernel, rfl⟩
theorem dX6_init_103 : ax_D cX6_init 103 (.aload_n 0) 1 104 := ⟨by decide +kernel, rfl⟩
theorem dX6_init_104 : ax_D cX6_init 104 (.bipush 18) 2 106 := ⟨by decide +kernel, rfl⟩
theorem dX6_init_106 : ax_D cX6_init 106 (.newarray .int) 2 108 := ⟨by decide +kernel, rfl⟩
theorem dX6_init_108 : ax_D cX6_init 108 (.putfield 57) 3 111 := ⟨by decide +kernel, rfl⟩
theorem dX6_init_111 : ax_D cX6_init 111 (.return_) 1 112 := ⟨by decide +kernel, rfl⟩
theorem dX3_init_0 : ax_D cX3_init 0 (.aload_n 0) 1 1 := ⟨by decide +kernel, rfl⟩
theorem dX3_init_1 : ax_D cX3_init 1 (.invokespecial 3) 3 4 := ⟨by decide +kernel, rfl⟩
theorem dX3_init_4 : ax_D cX3_init 4 (.aload_n 0) 1 5 := ⟨by decide +kernel, rfl⟩
theorem dX3_init_5 : ax_D cX3_init 5 (.bipush 12) 2 7 := ⟨by decide +kernel, rfl⟩
theorem dX3_init_7 : ax_D cX3_init 7 (.newarray .int) 2 9 := ⟨by decide +kernel, rfl⟩
theorem dX3_init_9 : ax_D cX3_init 9 (.putfield 9) 3 12 := ⟨by decide +kernel, rfl⟩
theorem dX3_init_12 : ax_D cX3_init 12 (.aload_n 0) 1 13 := ⟨by decide +kernel, rfl⟩
theorem dX3_init_13 : ax_D cX3_init 13 (.iconst 0) 1 14 := ⟨by decide +kernel, rfl⟩
theorem dX3_init_14 : ax_D cX3_init 14 (.putfield 15) 3 17 := ⟨by decide +kernel, rfl⟩
theorem dX3_init_17 : ax_D cX3_init 17 (.aload_n 0) 1 18 := ⟨by decide +kernel, rfl⟩
theorem dX3_init_18 : ax_D cX3_init 18 (.bipush 40) 2 20 := ⟨by decide +kernel, rfl⟩
theorem dX3_init_20 : ax_D cX3_init 20 (.newarray .int) 2 22 := ⟨by decide +kernel, rfl⟩
theorem dX3_init_22 : ax_D cX3_init 22 (.putfield 19) 3 25 := ⟨by decide +kernel, rfl⟩
theorem dX3_init_25 : ax_D cX3_init 25 (.aload_n 0) 1 26 := ⟨by decide +kernel, rfl⟩
theorem dX3_init_26 : ax_D cX3_init 26 (.lconst 0) 1 27 := ⟨by decide +kernel, rfl⟩
theorem dX3_init_27 : ax_D cX3_init 27 (.putfield 22) 3 30 := ⟨by decide +kernel, rfl⟩
theorem dX3_init_30 : ax_D cX3_init 30 (.aload_n 0) 1 31 := ⟨by decide +kernel, rfl⟩
theorem dX3_init_31 : ax_D cX3_init 31 (.iconst 0) 1 32 := ⟨by decide +kernel, rfl⟩
theorem dX3_init_32 : ax_D cX3_init 32 (.putfield 26) 3 35 := ⟨by decide +kernel, rfl⟩
theorem dX3_init_35 : ax_D cX3_init 35 (.return_) 1 36 := ⟨by decide +kernel, rfl⟩
theorem dX5_init_0 : ax_D cX5_init 0 (.aload_n 0) 1 1 := ⟨by decide +kernel, rfl⟩
theorem dX5_init_1 : ax_D cX5_init 1 (.invokespecial 3) 3 4 := ⟨by decide +kernel, rfl⟩
theorem dX5_init_4 : ax_D cX5_init 4 (.aload_n 0) 1 5 := ⟨by decide +kernel, rfl⟩
theorem dX5_init_5 : ax_D cX5_init 5 (.bipush 12) 2 7 := ⟨by decide +kernel, rfl⟩
theorem dX5_init_7 : ax_D cX5_init 7 (.newarray .int) 2 9 := ⟨by decide +kernel, rfl⟩
theorem dX5_init_9 : ax_D cX5_init 9 (.putfield 9) 3 12 := ⟨by decide +kernel, rfl⟩
theorem dX5_init_12 : ax_D cX5_init 12 (.aload_n 0) 1 13 := ⟨by decide +kernel, rfl⟩
theorem dX5_init_13 : ax_D cX5_init 13 (.sipush 4096) 3 16 := ⟨by decide +kernel, rfl⟩
theorem dX5_init_16 : ax_D cX5_init 16 (.newarray .int) 2 18 := ⟨by decide +kernel, rfl⟩
theorem dX5_init_18 : ax_D cX5_init 18 (.putfield 15) 3 21 := ⟨by decide +kernel, rfl⟩
theorem dX5_init_21 : ax_D cX5_init 21 (.aload_n 0) 1 22 := ⟨by decide +kernel, rfl⟩
theorem dX5_init_22 : ax_D cX5_init 22 (.sipush 4096) 3 25 := ⟨by decide +kernel, rfl⟩
theorem dX5_init_25 : ax_D cX5_init 25 (.newarray .int) 2 27 := ⟨by decide +kernel, rfl⟩
theorem dX5_init_27 : ax_D cX5_init 27 (.putfield 18) 3 30 := ⟨by decide +kernel, rfl⟩
theorem dX5_init_30 : ax_D cX5_init 30 (.aload_n 0) 1 31 := ⟨by decide +kernel, rfl⟩
theorem dX5_init_31 : ax_D cX5_init 31 (.sipush 144) 3 34 := ⟨by decide +kernel, rfl⟩
theorem dX5_init_34 : ax_D cX5_init 34 (.newarray .int) 2 36 := ⟨by decide +kernel, rfl⟩
theorem dX5_init_36 : ax_D cX5_init 36 (.putfield 21) 3 39 := ⟨by decide +kernel, rfl⟩
theorem dX5_init_39 : ax_D cX5_init 39 (.aload_n 0) 1 40 := ⟨by decide +kernel, rfl⟩
theorem dX5_init_40 : ax_D cX5_init 40 (.iconst 0) 1 41 := ⟨by decide +kernel, rfl⟩
theorem dX5_init_41 : ax_D cX5_init 41 (.putfield 24) 3 44 := ⟨by decide +kernel, rfl⟩
theorem dX5_init_44 : ax_D cX5_init 44 (.return_) 1 45 := ⟨by decide +kernel, rfl⟩
theorem dX4_init_0 : ax_D cX4_init 0 (.aload_n 0) 1 1 := ⟨by decide +kernel, rfl⟩
theorem dX4_init_1 : ax_D cX4_init 1 (.invokespecial 3) 3 4 := ⟨by decide +kernel, rfl⟩
theorem dX4_init_4 : ax_D cX4_init 4 (.aload_n 0) 1 5 := ⟨by decide +kernel, rfl⟩
theorem dX4_init_5 : ax_D cX4_init 5 (.bipush 12) 2 7 := ⟨by decide +kernel, rfl⟩
theorem dX4_init_7 : ax_D cX4_init 7 (.newarray .int) 2 9 := ⟨by decide +kernel, rfl⟩
theorem dX4_init_9 : ax_D cX4_init 9 (.putfield 9) 3 12 := ⟨by decide +kernel, rfl⟩
theorem dX4_init_12 : ax_D cX4_init 12 (.aload_n 0) 1 13 := ⟨by decide +kernel, rfl⟩
theorem dX4_init_13 : ax_D cX4_init 13 (.iconst 0) 1 14 := ⟨by decide +kernel, rfl⟩
theorem dX4_init_14 : ax_D cX4_init 14 (.putfield 15) 3 17 := ⟨by decide +kernel, rfl⟩
theorem dX4_init_17 : ax_D cX4_init 17 (.aload_n 0) 1 18 := ⟨by decide +kernel, rfl⟩
theorem dX4_init_18 : ax_D cX4_init 18 (.iconst 0) 1 19 := ⟨by decide +kernel, rfl⟩
theorem dX4_init_19 : ax_D cX4_init 19 (.putfield 19) 3 22 := ⟨by decide +kernel, rfl⟩
theorem dX4_init_22 : ax_D cX4_init 22 (.aload_n 0) 1 23 := ⟨by decide +kernel, rfl⟩
theorem dX4_init_23 : ax_D cX4_init 23 (.iconst 0) 1 24 := ⟨by decide +kernel, rfl⟩
theorem dX4_init_24 : ax_D cX4_init 24 (.putfield 22) 3 27 := ⟨by decide +kernel, rfl⟩
theorem dX4_init_27 : ax_D cX4_init 27 (.return_) 1 28 := ⟨by decide +kernel, rfl⟩
theorem dX2_init_0 : ax_D cX2_init 0 (.aload_n 0) 1 1 := ⟨by decide +kernel, rfl⟩
theorem dX2_init_1 : ax_D cX2_init 1 (.invokespecial 3) 3 4 := ⟨by decide +kernel, rfl⟩
theorem dX2_init_4 : ax_D cX2_init 4 (.aload_n 0) 1 5 := ⟨by decide +kernel, rfl⟩
theorem dX2_init_5 : ax_D cX2_init 5 (.bipush 40) 2 7 := ⟨by decide +kernel, rfl⟩
theorem dX2_init_7 : ax_D cX2_init 7 (.newarray .int) 2 9 := ⟨by decide +kernel, rfl⟩
theorem dX2_init_9 : ax_D cX2_init 9 (.putfield 9) 3 12 := ⟨by decide +kernel, rfl⟩
theorem dX2_init_12 : ax_D cX2_init 12 (.aload_n 0) 1 13 := ⟨by decide +kernel, rfl⟩
theorem dX2_init_13 : ax_D cX2_init 13 (.iconst 0) 1 14 := ⟨by decide +kernel, rfl⟩
theorem dX2_init_14 : ax_D cX2_init 14 (.putfield 15) 3 17 := ⟨by decide +kernel, rfl⟩
theorem dX2_init_17 : ax_D cX2_init 17 (.aload_n 0) 1 18 := ⟨by decide +kernel, rfl⟩
theorem dX2_init_18 : ax_D cX2_init 18 (.iconst 0) 1 19 := ⟨by decide +kernel, rfl⟩
theorem dX2_init_19 : ax_D cX2_init 19 (.putfield 19) 3 22 := ⟨by decide +kernel, rfl⟩
theorem dX2_init_22 : ax_D cX2_init 22 (.aload_n 0) 1 23 := ⟨by decide +kernel, rfl⟩
theorem dX2_init_23 : ax_D cX2_init 23 (.iconst 0) 1 24 := ⟨by decide +kernel, rfl⟩
theorem dX2_init_24 : ax_D cX2_init 24 (.putfield 22) 3 27 := ⟨by decide +kernel, rfl⟩
theorem dX2_init_27 : ax_D cX2_init 27 (.aload_n 0) 1 28 := ⟨by decide +kernel, rfl⟩
theorem dX2_init_28 : ax_D cX2_init 28 (.iconst 0) 1 29 := ⟨by decide +kernel, rfl⟩
theorem dX2_init_29 : ax_D cX2_init 29 (.putfield 25) 3 32 := ⟨by decide +kernel, rfl⟩
theorem dX2_init_32 : ax_D cX2_init 32 (.aload_n 0) 1 33 := ⟨by decide +kernel, rfl⟩
theorem dX2_init_33 : ax_D cX2_init 33 (.iconst 0) 1 34 := ⟨by decide +kernel, rfl⟩
theorem dX2_init_34 : ax_D cX2_init 34 (.putfield 28) 3 37 := ⟨by decide +kernel, rfl⟩
theorem dX2_init_37 : ax_D cX2_init 37 (.aload_n 0) 1 38 := ⟨by decide +kernel, rfl⟩
theorem dX2_init_38 : ax_D cX2_init 38 (.iconst 0) 1 39 := ⟨by decide +kernel, rfl⟩
theorem dX2_init_39 : ax_D cX2_init 39 (.putfield 31) 3 42 := ⟨by decide +kernel, rfl⟩
theorem dX2_init_42 : ax_D cX2_init 42 (.return_) 1 43 := ⟨by decide +kernel, rfl⟩
theorem dX8_init_0 : ax_D cX8_init 0 (.aload_n 0) 1 1 := ⟨by decide +kernel, rfl⟩
theorem dX8_init_1 : ax_D cX8_init 1 (.invokespecial 3) 3 4 := ⟨by decide +kernel, rfl⟩
theorem dX8_init_4 : ax_D cX8_init 4 (.aload_n 0) 1 5 := ⟨by decide +kernel, rfl⟩
theorem dX8_init_5 : ax_D cX8_init 5 (.iconst 4) 1 6 := ⟨by decide +kernel, rfl⟩
theorem dX8_init_6 : ax_D cX8_init 6 (.newarray .int) 2 8 := ⟨by decide +kernel, rfl⟩
theorem dX8_init_8 : ax_D cX8_init 8 (.dup) 1 9 := ⟨by decide +kernel, rfl⟩
theorem dX8_init_9 : ax_D cX8_init 9 (.iconst 0) 1 10 := ⟨by decide +kernel, rfl⟩
theorem dX8_init_10 : ax_D cX8_init 10 (.iconst (-1)) 1 11 := ⟨by decide +kernel, rfl⟩
theorem dX8_init_11 : ax_D cX8_init 11 (.iastore) 1 12 := ⟨by decide +kernel, rfl⟩
theorem dX8_init_12 : ax_D cX8_init 12 (.dup) 1 13 := ⟨by decide +kernel, rfl⟩
theorem dX8_init_13 : ax_D cX8_init 13 (.iconst 1) 1 14 := ⟨by decide +kernel, rfl⟩
theorem dX8_init_14 : ax_D cX8_init 14 (.iconst (-1)) 1 15 := ⟨by decide +kernel, rfl⟩
theorem dX8_init_15 : ax_D cX8_init 15 (.iastore) 1 16 := ⟨by decide +kernel, rfl⟩
theorem dX8_init_16 : ax_D cX8_init 16 (.dup) 1 17 := ⟨by decide +kernel, rfl⟩
theorem dX8_init_17 : ax_D cX8_init 17 (.iconst 2) 1 18 := ⟨by decide +kernel, rfl⟩
theorem dX8_init_18 : ax_D cX8_init 18 (.iconst (-1)) 1 19 := ⟨by decide +kernel, rfl⟩
theorem dX8_init_19 : ax_D cX8_init 19 (.iastore) 1 20 := ⟨by decide +kernel, rfl⟩
theorem dX8_init_20 : ax_D cX8_init 20 (.dup) 1 21 := ⟨by decide +kernel, rfl⟩
theorem dX8_init_21 : ax_D cX8_init 21 (.iconst 3) 1 22 := ⟨by decide +kernel, rfl⟩
theorem dX8_init_22 : ax_D cX8_init 22 (.iconst (-1)) 1 23 := ⟨by decide +kernel, rfl⟩
theorem dX8_init_23 : ax_D cX8_init 23 (.iastore) 1 24 := ⟨by decide +kernel, rfl⟩
theorem dX8_init_24 : ax_D cX8_init 24 (.putfield 9) 3 27 := ⟨by decide +kernel, rfl⟩
theorem dX8_init_27 : ax_D cX8_init 27 (.aload_n 0) 1 28 := ⟨by decide +kernel, rfl⟩
theorem dX8_init_28 : ax_D cX8_init 28 (.iconst 4) 1 29 := ⟨by decide +kernel, rfl⟩
theorem dX8_init_29 : ax_D cX8_init 29 (.newarray .int) 2 31 := ⟨by decide +kernel, rfl⟩
theorem dX8_init_31 : ax_D cX8_init 31 (.putfield 15) 3 34 := ⟨by decide +kernel, rfl⟩
theorem dX8_init_34 : ax_D cX8_init 34 (.aload_n 0) 1 35 := ⟨by decide +kernel, rfl⟩
theorem dX8_init_35 : ax_D cX8_init 35 (.sipush 160) 3 38 := ⟨by decide +kernel, rfl⟩
theorem dX8_init_38 : ax_D cX8_init 38 (.newarray .int) 2 40 := ⟨by decide +kernel, rfl⟩
theorem dX8_init_40 : ax_D cX8_init 40 (.putfield 18) 3 43 := ⟨by decide +kernel, rfl⟩
theorem dX8_init_43 : ax_D cX8_init 43 (.return_) 1 44 := ⟨by decide +kernel, rfl⟩
theorem dX9_init_0 : ax_D cX9_init 0 (.aload_n 0) 1 1 := ⟨by decide +kernel, rfl⟩
theorem dX9_init_1 : ax_D cX9_init 1 (.invokespecial 1) 3 4 := ⟨by decide +kernel, rfl⟩
theorem dX9_init_4 : ax_D cX9_init 4 (.aload_n 0) 1 5 := ⟨by decide +kernel, rfl⟩
theorem dX9_init_5 : ax_D cX9_init 5 (.new 7) 3 8 := ⟨by decide +kernel, rfl⟩
theorem dX9_init_8 : ax_D cX9_init 8 (.dup) 1 9 := ⟨by decide +kernel, rfl⟩
theorem dX9_init_9 : ax_D cX9_init 9 (.invokespecial 9) 3 12 := ⟨by decide +kernel, rfl⟩
theorem dX9_init_12 : ax_D cX9_init 12 (.putfield 10) 3 15 := ⟨by decide +kernel, rfl⟩
theorem dX9_init_15 : ax_D cX9_init 15 (.aload_n 0) 1 16 := ⟨by decide +kernel, rfl⟩
theorem dX9_init_16 : ax_D cX9_init 16 (.aload_n 0) 1 17 := ⟨by decide +kernel, rfl⟩
theorem dX9_init_17 : ax_D cX9_init 17 (.getfield 10) 3 20 := ⟨by decide +kernel, rfl⟩
theorem dX9_init_20 : ax_D cX9_init 20 (.getfield 16) 3 23 := ⟨by decide +kernel, rfl⟩
theorem dX9_init_23 : ax_D cX9_init 23 (.putfield 20) 3 26 := ⟨by decide +kernel, rfl⟩
theorem dX9_init_26 : ax_D cX9_init 26 (.aload_n 0) 1 27 := ⟨by decide +kernel, rfl⟩
theorem dX9_init_27 : ax_D cX9_init 27 (.aload_n 0) 1 28 := ⟨by decide +kernel, rfl⟩
theorem dX9_init_28 : ax_D cX9_init 28 (.getfield 10) 3 31 := ⟨by decide +kernel, rfl⟩
theorem dX9_init_31 : ax_D cX9_init 31 (.getfield 21) 3 34 := ⟨by decide +kernel, rfl⟩
theorem dX9_init_34 : ax_D cX9_init 34 (.putfield 25) 3 37 := ⟨by decide +kernel, rfl⟩
theorem dX9_init_37 : ax_D cX9_init 37 (.aload_n 0) 1 38 := ⟨by decide +kernel, rfl⟩
theorem dX9_init_38 : ax_D cX9_init 38 (.new 26) 3 41 := ⟨by decide +kernel, rfl⟩
theorem dX9_init_41 : ax_D cX9_init 41 (.dup) 1 42 := ⟨by decide +kernel, rfl⟩
theorem dX9_init_42 : ax_D cX9_init 42 (.invokespecial 28) 3 45 := ⟨by decide +kernel, rfl⟩
theorem dX9_init_45 : ax_D cX9_init 45 (.putfield 29) 3 48 := ⟨by decide +kernel, rfl⟩
theorem dX9_init_48 : ax_D cX9_init 48 (.aload_n 0) 1 49 := ⟨by decide +kernel, rfl⟩
theorem dX9_init_49 : ax_D cX9_init 49 (.new 33) 3 52 := ⟨by decide +kernel, rfl⟩
theorem dX9_init_52 : ax_D cX9_init 52 (.dup) 1 53 := ⟨by decide +kernel, rfl⟩
theorem dX9_init_53 : ax_D cX9_init 53 (.invokespecial 35) 3 56 := ⟨by decide +kernel, rfl⟩
theorem dX9_init_56 : ax_D cX9_init 56 (.putfield 36) 3 59 := ⟨by decide +kernel, rfl⟩
theorem dX9_init_59 : ax_D cX9_init 59 (.aload_n 0) 1 60 := ⟨by decide +kernel, rfl⟩
theorem dX9_init_60 : ax_D cX9_init 60 (.new 40) 3 63 := ⟨by decide +kernel, rfl⟩
theorem dX9_init_63 : ax_D cX9_init 63 (.dup) 1 64 := ⟨by decide +kernel, rfl⟩
theorem dX9_init_64 : ax_D cX9_init 64 (.invokespecial 42) 3 67 := ⟨by decide +kernel, rfl⟩
theorem dX9_init_67 : ax_D cX9_init 67 (.putfield 43) 3 70 := ⟨by decide +kernel, rfl⟩
theorem dX9_init_70 : ax_D cX9_init 70 (.aload_n 0) 1 71 := ⟨by decide +kernel, rfl⟩
theorem dX9_init_71 : ax_D cX9_init 71 (.new 47) 3 74 := ⟨by decide +kernel, rfl⟩
theorem dX9_init_74 : ax_D cX9_init 74 (.dup) 1 75 := ⟨by decide +kernel, rfl⟩
theorem dX9_init_75 : ax_D cX9_init 75 (.invokespecial 49) 3 78 := ⟨by decide +kernel, rfl⟩
theorem dX9_init_78 : ax_D cX9_init 78 (.putfield 50) 3 81 := ⟨by decide +kernel, rfl⟩
theorem dX9_init_81 : ax_D cX9_init 81 (.aload_n 0) 1 82 := ⟨by decide +kernel, rfl⟩
theorem dX9_init_82 : ax_D cX9_init 82 (.new 54) 3 85 := ⟨by decide +kernel, rfl⟩
theorem dX9_init_85 : ax_D cX9_init 85 (.dup) 1 86 := ⟨by decide +kernel, rfl⟩
theorem dX9_init_86 : ax_D cX9_init 86 (.invokespecial 56) 3 89 := ⟨by decide +kernel, rfl⟩
theorem dX9_init_89 : ax_D cX9_init 89 (.putfield 57) 3 92 := ⟨by decide +kernel, rfl⟩
theorem dX9_init_92 : ax_D cX9_init 92 (.aload_n 0) 1 93 := ⟨by decide +kernel, rfl⟩
theorem dX9_init_93 : ax_D cX9_init 93 (.iconst 0) 1 94 := ⟨by decide +kernel, rfl⟩
theorem dX9_init_94 : ax_D cX9_init 94 (.putfield 61) 3 97 := ⟨by decide +kernel, rfl⟩
theorem dX9_init_97 : ax_D cX9_init 97 (.aload_n 0) 1 98 := ⟨by decide +kernel, rfl⟩
theorem dX9_init_98 : ax_D cX9_init 98 (.iconst (-1)) 1 99 := ⟨by decide +kernel, rfl⟩
theorem dX9_init_99 : ax_D cX9_init 99 (.putfield 65) 3 102 := ⟨by decide +kernel, rfl⟩
theorem dX9_init_102 : ax_D cX9_init 102 (.aload_n 0) 1 103 := ⟨by decide +kernel, rfl⟩
theorem dX9_init_103 : ax_D cX9_init 103 (.iconst 0) 1 104 := ⟨by decide +kernel, rfl⟩
theorem dX9_init_104 : ax_D cX9_init 104 (.putfield 68) 3 107 := ⟨by decide +kernel, rfl⟩
theorem dX9_init_107 : ax_D cX9_init 107 (.aload_n 0) 1 108 := ⟨by decide +kernel, rfl⟩
theorem dX9_init_108 : ax_D cX9_init 108 (.iconst 0) 1 109 := ⟨by decide +kernel, rfl⟩
theorem dX9_init_109 : ax_D cX9_init 109 (.putfield 71) 3 112 := ⟨by decide +kernel, rfl⟩
theorem dX9_init_112 : ax_D cX9_init 112 (.return_) 1 113 := ⟨by decide +kernel, rfl⟩
theorem dX10_init_0 : ax_D cX10_init 0 (.aload_n 0) 1 1 := ⟨by decide +kernel, rfl⟩
theorem dX10_init_1 : ax_D cX10_init 1 (.invokespecial 3) 3 4 := ⟨by decide +kernel, rfl⟩
theorem dX10_init_4 : ax_D cX10_init 4 (.aload_n 0) 1 5 := ⟨by decide +kernel, rfl⟩
theorem dX10_init_5 : ax_D cX10_init 5 (.bipush 6) 2 7 := ⟨by decide +kernel, rfl⟩
theorem dX10_init_7 : ax_D cX10_init 7 (.newarray .int) 2 9 := ⟨by decide +kernel, rfl⟩
theorem dX10_init_9 : ax_D cX10_init 9 (.putfield 9) 3 12 := ⟨by decide +kernel, rfl⟩
theorem dX10_init_12 : ax_D cX10_init 12 (.aload_n 0) 1 13 := ⟨by decide +kernel, rfl⟩
theorem dX10_init_13 : ax_D cX10_init 13 (.bipush 6) 2 15 := ⟨by decide +kernel, rfl⟩
theorem dX10_init_15 : ax_D cX10_init 15 (.newarray .int) 2 17 := ⟨by decide +kernel, rfl⟩
theorem dX10_init_17 : ax_D cX10_init 17 (.putfield 13) 3 20 := ⟨by decide +kernel, rfl⟩
theorem dX10_init_20 : ax_D cX10_init 20 (.aload_n 0) 1 21 := ⟨by decide +kernel, rfl⟩
theorem dX10_init_21 : ax_D cX10_init 21 (.bipush 6) 2 23 := ⟨by decide +kernel, rfl⟩
theorem dX10_init_23 : ax_D cX10_init 23 (.newarray .int) 2 25 := ⟨by decide +kernel, rfl⟩
theorem dX10_init_25 : ax_D cX10_init 25 (.putfield 16) 3 28 := ⟨by decide +kernel, rfl⟩
theorem dX10_init_28 : ax_D cX10_init 28 (.aload_n 0) 1 29 := ⟨by decide +kernel, rfl⟩
theorem dX10_init_29 : ax_D cX10_init 29 (.bipush 40) 2 31 := ⟨by decide +kernel, rfl⟩
theorem dX10_init_31 : ax_D cX10_init 31 (.newarray .int) 2 33 := ⟨by decide +kernel, rfl⟩
theorem dX10_init_33 : ax_D cX10_init 33 (.putfield 19) 3 36 := ⟨by decide +kernel, rfl⟩
theorem dX10_init_36 : ax_D cX10_init 36 (.aload_n 0) 1 37 := ⟨by decide +kernel, rfl⟩
theorem dX10_init_37 : ax_D cX10_init 37 (.bipush 40) 2 39 := ⟨by decide +kernel, rfl⟩
theorem dX10_init_39 : ax_D cX10_init 39 (.newarray .int) 2 41 := ⟨by decide +kernel, rfl⟩
theorem dX10_init_41 : ax_D cX10_init 41 (.putfield 22) 3 44 := ⟨by decide +kernel, rfl⟩
theorem dX10_init_44 : ax_D cX10_init 44 (.aload_n 0) 1 45 := ⟨by decide +kernel, rfl⟩
theorem dX10_init_45 : ax_D cX10_init 45 (.bipush 40) 2 47 := ⟨by decide +kernel, rfl⟩
theorem dX10_init_47 : ax_D cX10_init 47 (.newarray .int) 2 49 := ⟨by decide +kernel, rfl⟩
theorem dX10_init_49 : ax_D cX10_init 49 (.putfield 25) 3 52 := ⟨by decide +kernel, rfl⟩
theorem dX10_init_52 : ax_D cX10_init 52 (.aload_n 0) 1 53 := ⟨by decide +kernel, rfl⟩
theorem dX10_init_53 : ax_D cX10_init 53 (.bipush 40) 2 55 := ⟨by decide +kernel, rfl⟩
theorem dX10_init_55 : ax_D cX10_init 55 (.newarray .int) 2 57 := ⟨by decide +kernel, rfl⟩
theorem dX10_init_57 : ax_D cX10_init 57 (.putfield 28) 3 60 := ⟨by decide +kernel, rfl⟩
theorem dX10_init_60 : ax_D cX10_init 60 (.aload_n 0) 1 61 := ⟨by decide +kernel, rfl⟩
theorem dX10_init_61 : ax_D cX10_init 61 (.bipush 40) 2 63 := ⟨by decide +kernel, rfl⟩
theorem dX10_init_63 : ax_D cX10_init 63 (.newarray .int) 2 65 := ⟨by decide +kernel, rfl⟩
theorem dX10_init_65 : ax_D cX10_init 65 (.putfield 31) 3 68 := ⟨by decide +kernel, rfl⟩
theorem dX10_init_68 : ax_D cX10_init 68 (.aload_n 0) 1 69 := ⟨by decide +kernel, rfl⟩
theorem dX10_init_69 : ax_D cX10_init 69 (.bipush 40) 2 71 := ⟨by decide +kernel, rfl⟩
theorem dX10_init_71 : ax_D cX10_init 71 (.newarray .int) 2 73 := ⟨by decide +kernel, rfl⟩
theorem dX10_init_73 : ax_D cX10_init 73 (.putfield 34) 3 76 := ⟨by decide +kernel, rfl⟩
theorem dX10_init_76 : ax_D cX10_init 76 (.aload_n 0) 1 77 := ⟨by decide +kernel, rfl⟩
theorem dX10_init_77 : ax_D cX10_init 77 (.bipush 40) 2 79 := ⟨by decide +kernel, rfl⟩
theorem dX10_init_79 : ax_D cX10_init 79 (.newarray .int) 2 81 := ⟨by decide +kernel, rfl⟩
theorem dX10_init_81 : ax_D cX10_init 81 (.putfield 37) 3 84 := ⟨by decide +kernel, rfl⟩
theorem dX10_init_84 : ax_D cX10_init 84 (.aload_n 0) 1 85 := ⟨by decide +kernel, rfl⟩
theorem dX10_init_85 : ax_D cX10_init 85 (.iconst (-1)) 1 86 := ⟨by decide +kernel, rfl⟩
theorem dX10_init_86 : ax_D cX10_init 86 (.putfield 40) 3 89 := ⟨by decide +kernel, rfl⟩
theorem dX10_init_89 : ax_D cX10_init 89 (.aload_n 0) 1 90 := ⟨by decide +kernel, rfl⟩
theorem dX10_init_90 : ax_D cX10_init 90 (.sipush 361) 3 93 := ⟨by decide +kernel, rfl⟩
theorem dX10_init_93 : ax_D cX10_init 93 (.newarray .int) 2 95 := ⟨by decide +kernel, rfl⟩
theorem dX10_init_95 : ax_D cX10_init 95 (.putfield 44) 3 98 := ⟨by decide +kernel, rfl⟩
theorem dX10_init_98 : ax_D cX10_init 98 (.aload_n 0) 1 99 := ⟨by decide +kernel, rfl⟩
theorem dX10_init_99 : ax_D cX10_init 99 (.bipush 19) 2 101 := ⟨by decide +kernel, rfl⟩
theorem dX10_init_101 : ax_D cX10_init 101 (.newarray .int) 2 103 := ⟨by decide +kernel, rfl⟩
theorem dX10_init_103 : ax_D cX10_init 103 (.putfield 47) 3 106 := ⟨by decide +kernel, rfl⟩
theorem dX10_init_106 : ax_D cX10_init 106 (.aload_n 0) 1 107 := ⟨by decide +kernel, rfl⟩
theorem dX10_init_107 : ax_D cX10_init 107 (.bipush 19) 2 109 := ⟨by decide +kernel, rfl⟩
theorem dX10_init_109 : ax_D cX10_init 109 (.newarray .int) 2 111 := ⟨by decide +kernel, rfl⟩
theorem dX10_init_111 : ax_D cX10_init 111 (.putfield 50) 3 114 := ⟨by decide +kernel, rfl⟩
theorem dX10_init_114 : ax_D cX10_init 114 (.aload_n 0) 1 115 := ⟨by decide +kernel, rfl⟩
theorem dX10_init_115 : ax_D cX10_init 115 (.bipush 6) 2 117 := ⟨by decide +kernel, rfl⟩
theorem dX10_init_117 : ax_D cX10_init 117 (.newarray .int) 2 119 := ⟨by decide +kernel, rfl⟩
theorem dX10_init_119 : ax_D cX10_init 119 (.putfield 53) 3 122 := ⟨by decide +kernel, rfl⟩
theorem dX10_init_122 : ax_D cX10_init 122 (.aload_n 0) 1 123 := ⟨by decide +kernel, rfl⟩
theorem dX10_init_123 : ax_D cX10_init 123 (.bipush 6) 2 125 := ⟨by decide +kernel, rfl⟩
theorem dX10_init_125 : ax_D cX10_init 125 (.newarray .int) 2 127 := ⟨by decide +kernel, rfl⟩
theorem dX10_init_127 : ax_D cX10_init 127 (.putfield 56) 3 130 := ⟨by decide +kernel, rfl⟩
theorem dX10_init_130 : ax_D cX10_init 130 (.aload_n 0) 1 131 := ⟨by decide +kernel, rfl⟩
theorem dX10_init_131 : ax_D cX10_init 131 (.bipush 12) 2 133 := ⟨by decide +kernel, rfl⟩
theorem dX10_init_133 : ax_D cX10_init 133 (.newarray .int) 2 135 := ⟨by decide +kernel, rfl⟩
theorem dX10_init_135 : ax_D cX10_init 135 (.putfield 59) 3 138 := ⟨by decide +kernel, rfl⟩
theorem dX10_init_138 : ax_D cX10_init 138 (.aload_n 0) 1 139 := ⟨by decide +kernel, rfl⟩
theorem dX10_init_139 : ax_D cX10_init 139 (.bipush 12) 2 141 := ⟨by decide +kernel, rfl⟩
theorem dX10_init_141 : ax_D cX10_init 141 (.newarray .int) 2 143 := ⟨by decide +kernel, rfl⟩
theorem dX10_init_143 : ax_D cX10_init 143 (.putfield 62) 3 146 := ⟨by decide +kernel, rfl⟩
theorem dX10_init_146 : ax_D cX10_init 146 (.aload_n 0) 1 147 := ⟨by decide +kernel, rfl⟩
theorem dX10_init_147 : ax_D cX10_init 147 (.bipush 12) 2 149 := ⟨by decide +kernel, rfl⟩
theorem dX10_init_149 : ax_D cX10_init 149 (.newarray .int) 2 151 := ⟨by decide +kernel, rfl⟩
theorem dX10_init_151 : ax_D cX10_init 151 (.putfield 65) 3 154 := ⟨by decide +kernel, rfl⟩
theorem dX10_init_154 : ax_D cX10_init 154 (.aload_n 0) 1 155 := ⟨by decide +kernel, rfl⟩
theorem dX10_init_155 : ax_D cX10_init 155 (.bipush 12) 2 157 := ⟨by decide +kernel, rfl⟩
theorem dX10_init_157 : ax_D cX10_init 157 (.newarray .int) 2 159 := ⟨by decide +kernel, rfl⟩
theorem dX10_init_159 : ax_D cX10_init 159 (.putfield 68) 3 162 := ⟨by decide +kernel, rfl⟩
theorem dX10_init_162 : ax_D cX10_init 162 (.aload_n 0) 1 163 := ⟨by decide +kernel, rfl⟩
theorem dX10_init_163 : ax_D cX10_init 163 (.sipush 4096) 3 166 := ⟨by decide +kernel, rfl⟩
theorem dX10_init_166 : ax_D cX10_init 166 (.newarray .long) 2 168 := ⟨by decide +kernel, rfl⟩
theorem dX10_init_168 : ax_D cX10_init 168 (.putfield 71) 3 171 := ⟨by decide +kernel, rfl⟩
theorem dX10_init_171 : ax_D cX10_init 171 (.aload_n 0) 1 172 := ⟨by decide +kernel, rfl⟩
theorem dX10_init_172 : ax_D cX10_init 172 (.bipush 40) 2 174 := ⟨by decide +kernel, rfl⟩
theorem dX10_init_174 : ax_D cX10_init 174 (.newarray .int) 2 176 := ⟨by decide +kernel, rfl⟩
theorem dX10_init_176 : ax_D cX10_init 176 (.putfield 75) 3 179 := ⟨by decide +kernel, rfl⟩
theorem dX10_init_179 : ax_D cX10_init 179 (.aload_n 0) 1 180 := ⟨by decide +kernel, rfl⟩
theorem dX10_init_180 : ax_D cX10_init 180 (.iconst 4) 1 181 := ⟨by decide +kernel, rfl⟩
theorem dX10_init_181 : ax_D cX10_init 181 (.newarray .boolean) 2 183 := ⟨by decide +kernel, rfl⟩
theorem dX10_init_183 : ax_D cX10_init 183 (.putfield 78) 3 186 := ⟨by decide +kernel, rfl⟩
theorem dX10_init_186 : ax_D cX10_init 186 (.aload_n 0) 1 187 := ⟨by decide +kernel, rfl⟩
theorem dX10_init_187 : ax_D cX10_init 187 (.iconst 4) 1 188 := ⟨by decide +kernel, rfl⟩
theorem dX10_init_188 : ax_D cX10_init 188 (.newarray .int) 2 190 := ⟨by decide +kernel, rfl⟩
theorem dX10_init_190 : ax_D cX10_init 190 (.putfield 82) 3 193 := ⟨by decide +kernel, rfl⟩
theorem dX10_init_193 : ax_D cX10_init 193 (.aload_n 0) 1 194 := ⟨by decide +kernel, rfl⟩
theorem dX10_init_194 : ax_D cX10_init 194 (.iconst 4) 1 195 := ⟨by decide +kernel, rfl⟩
theorem dX10_init_195 : ax_D cX10_init 195 (.newarray .int) 2 197 := ⟨by decide +kernel, rfl⟩
theorem dX10_init_197 : ax_D cX10_init 197 (.putfield 85) 3 200 := ⟨by decide +kernel, rfl⟩
theorem dX10_init_200 : ax_D cX10_init 200 (.aload_n 0) 1 201 := ⟨by decide +kernel, rfl⟩
theorem dX10_init_201 : ax_D cX10_init 201 (.sipush 160) 3 204 := ⟨by decide +kernel, rfl⟩
theorem dX10_init_204 : ax_D cX10_init 204 (.newarray .int) 2 206 := ⟨by decide +kernel, rfl⟩
theorem dX10_init_206 : ax_D cX10_init 206 (.putfield 88) 3 209 := ⟨by decide +kernel, rfl⟩
theorem dX10_init_209 : ax_D cX10_init 209 (.aload_n 0) 1 210 := ⟨by decide +kernel, rfl⟩
theorem dX10_init_210 : ax_D cX10_init 210 (.bipush 40) 2 212 := ⟨by decide +kernel, rfl⟩
theorem dX10_init_212 : ax_D cX10_init 212 (.newarray .int) 2 214 := ⟨by decide +kernel, rfl⟩
theorem dX10_init_214 : ax_D cX10_init 214 (.putfield 91) 3 217 := ⟨by decide +kernel, rfl⟩
theorem dX10_init_217 : ax_D cX10_init 217 (.return_) 1 218 := ⟨by decide +kernel, rfl⟩
theorem lf_X9_16 : ax_F RX9 16 5 1 := ⟨RX6, TX6, 13, rfl, by decide, in2X6, (ax_m1 108 rfl rfl)⟩
theorem lf_X9_21 : ax_F RX9 21 5 0 := ⟨RX6, TX6, 13, rfl, by decide, in2X6, (ax_m1 106 rfl rfl)⟩
theorem cn_o1 : Cond.instanceMethod Lib.objectInit ∈ ax_tb := (ax_m1 23 rfl rfl)
theorem cn_o2 : Cond.code Lib.objectInit ⟨#[0xb1]⟩ 1 none ∈ ax_tb := (ax_m1 24 rfl rfl)
theorem ca_int : Cond.arrayClass .int ∈ ax_tb := (ax_m1 77 rfl rfl)
theorem ca_long : Cond.arrayClass .long ∈ ax_tb := (ax_m5 56 rfl rfl)
theorem ca_boolean : Cond.arrayClass .boolean ∈ ax_tb := (ax_m5 57 rfl rfl)
def s0_X7 : ax_S := (fun k => (fun _ => (0 : Int32)), fun _ _ => 0)
def cl_X7 : ax_L := [(0, 6, [3, 4, 5, 6, 7, 8, 9, 0]), (1, 40, []), (1, 40, []), (1, 40, []), (1, 40, []), (1, 40, []), (1, 40, []), (1, 40, [])]
def mu_X7_init : ax_Mu := (yX7_init, cX7_init, 1, none, 1, 12)
theorem lc_X7_init : Cond.code mu_X7_init.1 mu_X7_init.2.1 mu_X7_init.2.2.1 mu_X7_init.2.2.2.1 ∈ ax_tb := (ax_m1 35 rfl rfl)
def nl_X7 : cn_N := []
theorem cf_X7_9 : cn_F RX7 9 6 0 true (.array .int) := ⟨RX7, TX7, 8, tyX7, rfl, by decide, in2X7, (ax_m1 37 rfl rfl), tyX7_ok, nmX7, rfl, by decide +kernel, fun _ => rfl⟩
theorem cf_X7_15 : cn_F RX7 15 6 1 true (.array .int) := ⟨RX7, TX7, 8, tyX7, rfl, by decide, in2X7, (ax_m1 41 rfl rfl), tyX7_ok, nmX7, rfl, by decide +kernel, fun _ => rfl⟩
theorem cf_X7_18 : cn_F RX7 18 6 2 true (.array .int) := ⟨RX7, TX7, 8, tyX7, rfl, by decide, in2X7, (ax_m1 44 rfl rfl), tyX7_ok, nmX7, rfl, by decide +kernel, fun _ => rfl⟩
theorem cf_X7_21 : cn_F RX7 21 6 3 true (.array .int) := ⟨RX7, TX7, 8, tyX7, rfl, by decide, in2X7, (ax_m1 47 rfl rfl), tyX7_ok, nmX7, rfl, by decide +kernel, fun _ => rfl⟩
theorem cf_X7_24 : cn_F RX7 24 6 4 true (.array .int) := ⟨RX7, TX7, 8, tyX7, rfl, by decide, in2X7, (ax_m1 50 rfl rfl), tyX7_ok, nmX7, rfl, by decide +kernel, fun _ => rfl⟩
theorem cf_X7_27 : cn_F RX7 27 6 5 true (.array .int) := ⟨RX7, TX7, 8, tyX7, rfl, by decide, in2X7, (ax_m1 53 rfl rfl), tyX7_ok, nmX7, rfl, by decide +kernel, fun _ => rfl⟩
theorem cf_X7_30 : cn_F RX7 30 6 6 true (.array .int) := ⟨RX7, TX7, 8, tyX7, rfl, by decide, in2X7, (ax_m1 55 rfl rfl), tyX7_ok, nmX7, rfl, by decide +kernel, fun _ => rfl⟩
theorem cf_X7_33 : cn_F RX7 33 6 7 false (.int) := ⟨RX7, TX7, 8, tyX7, rfl, by decide, in2X7, (ax_m1 57 rfl rfl), tyX7_ok, nmX7, rfl, by decide +kernel, fun _ => rfl⟩
set_option maxHeartbeats 4000000 in
set_option maxRecDepth 10000 in
theorem c_X7_init : cn_M mu_X7_init 7 280 nl_X7 6 [.null, .null, .null, .null, .null, .null, .null, .int 0] cl_X7 s0_X7 := by
  refine cn_enter (by decide +kernel) rfl rfl (by decide) 0 (fun h0 => [some (.ref h0)]) (fun _ => rfl) (fun K D cI cJ cZ h0 sz Q hV hin hnw hlt hend => ?_)
  refine cn_aload_n hV dX7_init_0 rfl ?_
  refine cn_obj hV (ax_m1 36 rfl rfl) cn_o1 cn_o2 rfl dX7_init_1 ?_
  refine cn_aload_n hV dX7_init_4 rfl ?_
  refine cn_bipush hV (40 : Int32) dX7_init_5 (by decide) ?_
  refine cn_newI hV 40 ca_int dX7_init_7 (by decide) (by decide) (by decide) (by decide) (by decide) (fun q7 => ?_)
  refine cn_put hV hin cf_X7_9 dX7_init_9 0 [(h0, .inr (6, [.ref (q7), .null, .null, .null, .null, .null, .null, .int 0])), (q7, .inl (cI, 40, .inl (fun _ => (0 : Int32))))] rfl rfl rfl (Nat.le_of_ble_eq_true rfl) rfl ?_
  refine cn_aload_n hV dX7_init_12 rfl ?_
  refine cn_bipush hV (40 : Int32) dX7_init_13 (by decide) ?_
  refine cn_newI hV 40 ca_int dX7_init_15 (by decide) (by decide) (by decide) (by decide) (by decide) (fun q15 => ?_)
  refine cn_put hV hin cf_X7_15 dX7_init_17 0 [(h0, .inr (6, [.ref (q7), .ref (q15), .null, .null, .null, .null, .null, .int 0])), (q7, .inl (cI, 40, .inl (fun _ => (0 : Int32)))), (q15, .inl (cI, 40, .inl (fun _ => (0 : Int32))))] rfl rfl rfl (Nat.le_of_ble_eq_true rfl) rfl ?_
  refine cn_aload_n hV dX7_init_20 rfl ?_
  refine cn_bipush hV (40 : Int32) dX7_init_21 (by decide) ?_
  refine cn_newI hV 40 ca_int dX7_init_23 (by decide) (by decide) (by decide) (by decide) (by decide) (fun q23 => ?_)
  refine cn_put hV hin cf_X7_18 dX7_init_25 0 [(h0, .inr (6, [.ref (q7), .ref (q15), .ref (q23), .null, .null, .null, .null, .int 0])), (q7, .inl (cI, 40, .inl (fun _ => (0 : Int32)))), (q15, .inl (cI, 40, .inl (fun _ => (0 : Int32)))), (q23, .inl (cI, 40, .inl (fun _ => (0 : Int32))))] rfl rfl rfl (Nat.le_of_ble_eq_true rfl) rfl ?_
  refine cn_aload_n hV dX7_init_28 rfl ?_
  refine cn_bipush hV (40 : Int32) dX7_init_29 (by decide) ?_
  refine cn_newI hV 40 ca_int dX7_init_31 (by decide) (by decide) (by decide) (by decide) (by decide) (fun q31 => ?_)
  refine cn_put hV hin cf_X7_21 dX7_init_33 0 [(h0, .inr (6, [.ref (q7), .ref (q15), .ref (q23), .ref (q31), .null, .null, .null, .int 0])), (q7, .inl (cI, 40, .inl (fun _ => (0 : Int32)))), (q15, .inl (cI, 40, .inl (fun _ => (0 : Int32)))), (q23, .inl (cI, 40, .inl (fun _ => (0 : Int32)))), (q31, .inl (cI, 40, .inl (fun _ => (0 : Int32))))] rfl rfl rfl (Nat.le_of_ble_eq_true rfl) rfl ?_
  refine cn_aload_n hV dX7_init_36 rfl ?_
  refine cn_bipush hV (40 : Int32) dX7_init_37 (by decide) ?_
  refine cn_newI hV 40 ca_int dX7_init_39 (by decide) (by decide) (by decide) (by decide) (by decide) (fun q39 => ?_)
  refine cn_put hV hin cf_X7_24 dX7_init_41 0 [(h0, .inr (6, [.ref (q7), .ref (q15), .ref (q23), .ref (q31), .ref (q39), .null, .null, .int 0])), (q7, .inl (cI, 40, .inl (fun _ => (0 : Int32)))), (q15, .inl (cI, 40, .inl (fun _ => (0 : Int32)))), (q23, .inl (cI, 40, .inl (fun _ => (0 : Int32)))), (q31, .inl (cI, 40, .inl (fun _ => (0 : Int32)))), (q39, .inl (cI, 40, .inl (fun _ => (0 : Int32))))] rfl rfl rfl (Nat.le_of_ble_eq_true rfl) rfl ?_
  refine cn_aload_n hV dX7_init_44 rfl ?_
  refine cn_bipush hV (40 : Int32) dX7_init_45 (by decide) ?_
  refine cn_newI hV 40 ca_int dX7_init_47 (by decide) (by decide) (by decide) (by decide) (by decide) (fun q47 => ?_)
  refine cn_put hV hin cf_X7_27 dX7_init_49 0 [(h0, .inr (6, [.ref (q7), .ref (q15), .ref (q23), .ref (q31), .ref (q39), .ref (q47), .null, .int 0])), (q7, .inl (cI, 40, .inl (fun _ => (0 : Int32)))), (q15, .inl (cI, 40, .inl (fun _ => (0 : Int32)))), (q23, .inl (cI, 40, .inl (fun _ => (0 : Int32)))), (q31, .inl (cI, 40, .inl (fun _ => (0 : Int32)))), (q39, .inl (cI, 40, .inl (fun _ => (0 : Int32)))), (q47, .inl (cI, 40, .inl (fun _ => (0 : Int32))))] rfl rfl rfl (Nat.le_of_ble_eq_true rfl) rfl ?_
  refine cn_aload_n hV dX7_init_52 rfl ?_
  refine cn_bipush hV (40 : Int32) dX7_init_53 (by decide) ?_
  refine cn_newI hV 40 ca_int dX7_init_55 (by decide) (by decide) (by decide) (by decide) (by decide) (fun q55 => ?_)
  refine cn_put hV hin cf_X7_30 dX7_init_57 0 [(h0, .inr (6, [.ref (q7), .ref (q15), .ref (q23), .ref (q31), .ref (q39), .ref (q47), .ref (q55), .int 0])), (q7, .inl (cI, 40, .inl (fun _ => (0 : Int32)))), (q15, .inl (cI, 40, .inl (fun _ => (0 : Int32)))), (q23, .inl (cI, 40, .inl (fun _ => (0 : Int32)))), (q31, .inl (cI, 40, .inl (fun _ => (0 : Int32)))), (q39, .inl (cI, 40, .inl (fun _ => (0 : Int32)))), (q47, .inl (cI, 40, .inl (fun _ => (0 : Int32)))), (q55, .inl (cI, 40, .inl (fun _ => (0 : Int32))))] rfl rfl rfl (Nat.le_of_ble_eq_true rfl) rfl ?_
  refine cn_aload_n hV dX7_init_60 rfl ?_
  refine cn_iconst hV (0 : Int32) dX7_init_61 (by decide) ?_
  refine cn_put hV hin cf_X7_33 dX7_init_62 0 [(h0, .inr (6, [.ref (q7), .ref (q15), .ref (q23), .ref (q31), .ref (q39), .ref (q47), .ref (q55), .int (0 : Int32)])), (q7, .inl (cI, 40, .inl (fun _ => (0 : Int32)))), (q15, .inl (cI, 40, .inl (fun _ => (0 : Int32)))), (q23, .inl (cI, 40, .inl (fun _ => (0 : Int32)))), (q31, .inl (cI, 40, .inl (fun _ => (0 : Int32)))), (q39, .inl (cI, 40, .inl (fun _ => (0 : Int32)))), (q47, .inl (cI, 40, .inl (fun _ => (0 : Int32)))), (q55, .inl (cI, 40, .inl (fun _ => (0 : Int32))))] rfl rfl rfl (Nat.le_of_ble_eq_true rfl) rfl ?_
  exact hend _ _ _ [h0, q7, q15, q23, q31, q39, q47, q55] [0, 1, 2, 3, 4, 5, 6, 7] [(h0, .inr (6, [.ref (q7), .ref (q15), .ref (q23), .ref (q31), .ref (q39), .ref (q47), .ref (q55), .int (0 : Int32)])), (q7, .inl (cI, 40, .inl (fun _ => (0 : Int32)))), (q15, .inl (cI, 40, .inl (fun _ => (0 : Int32)))), (q23, .inl (cI, 40, .inl (fun _ => (0 : Int32)))), (q31, .inl (cI, 40, .inl (fun _ => (0 : Int32)))), (q39, .inl (cI, 40, .inl (fun _ => (0 : Int32)))), (q47, .inl (cI, 40, .inl (fun _ => (0 : Int32)))), (q55, .inl (cI, 40, .inl (fun _ => (0 : Int32))))] rfl (by decide) rfl dX7_init_65
def s0_X0 : ax_S := (fun k => (fun _ => (0 : Int32)), fun _ _ => 0)
def cl_X0 : ax_L := [(0, 0, [3, 4, 5, 0]), (1, 6, []), (1, 6, []), (1, 6, [])]
def mu_X0_init : ax_Mu := (yX0_init, cX0_init, 1, none, 1, 12)
theorem lc_X0_init : Cond.code mu_X0_init.1 mu_X0_init.2.1 mu_X0_init.2.2.1 mu_X0_init.2.2.2.1 ∈ ax_tb := (ax_m1 82 rfl rfl)
def nl_X0 : cn_N := []
theorem cf_X0_9 : cn_F RX0 9 0 0 true (.array .int) := ⟨RX0, TX0, 4, tyX0, rfl, by decide, in2X0, (ax_m1 84 rfl rfl), tyX0_ok, nmX0, rfl, by decide +kernel, fun _ => rfl⟩
theorem cf_X0_15 : cn_F RX0 15 0 1 true (.array .int) := ⟨RX0, TX0, 4, tyX0, rfl, by decide, in2X0, (ax_m1 87 rfl rfl), tyX0_ok, nmX0, rfl, by decide +kernel, fun _ => rfl⟩
theorem cf_X0_18 : cn_F RX0 18 0 2 true (.array .int) := ⟨RX0, TX0, 4, tyX0, rfl, by decide, in2X0, (ax_m1 90 rfl rfl), tyX0_ok, nmX0, rfl, by decide +kernel, fun _ => rfl⟩
theorem cf_X0_21 : cn_F RX0 21 0 3 false (.int) := ⟨RX0, TX0, 4, tyX0, rfl, by decide, in2X0, (ax_m1 93 rfl rfl), tyX0_ok, nmX0, rfl, by decide +kernel, fun _ => rfl⟩
set_option maxHeartbeats 4000000 in
set_option maxRecDepth 10000 in
theorem c_X0_init : cn_M mu_X0_init 3 18 nl_X0 0 [.null, .null, .null, .int 0] cl_X0 s0_X0 := by
  refine cn_enter (by decide +kernel) rfl rfl (by decide) 0 (fun h0 => [some (.ref h0)]) (fun _ => rfl) (fun K D cI cJ cZ h0 sz Q hV hin hnw hlt hend => ?_)
  refine cn_aload_n hV dX0_init_0 rfl ?_
  refine cn_obj hV (ax_m1 83 rfl rfl) cn_o1 cn_o2 rfl dX0_init_1 ?_
  refine cn_aload_n hV dX0_init_4 rfl ?_
  refine cn_bipush hV (6 : Int32) dX0_init_5 (by decide) ?_
  refine cn_newI hV 6 ca_int dX0_init_7 (by decide) (by decide) (by decide) (by decide) (by decide) (fun q7 => ?_)
  refine cn_put hV hin cf_X0_9 dX0_init_9 0 [(h0, .inr (0, [.ref (q7), .null, .null, .int 0])), (q7, .inl (cI, 6, .inl (fun _ => (0 : Int32))))] rfl rfl rfl (Nat.le_of_ble_eq_true rfl) rfl ?_
  refine cn_aload_n hV dX0_init_12 rfl ?_
  refine cn_bipush hV (6 : Int32) dX0_init_13 (by decide) ?_
  refine cn_newI hV 6 ca_int dX0_init_15 (by decide) (by decide) (by decide) (by decide) (by decide) (fun q15 => ?_)
  refine cn_put hV hin cf_X0_15 dX0_init_17 0 [(h0, .inr (0, [.ref (q7), .ref (q15), .null, .int 0])), (q7, .inl (cI, 6, .inl (fun _ => (0 : Int32)))), (q15, .inl (cI, 6, .inl (fun _ => (0 : Int32))))] rfl rfl rfl (Nat.le_of_ble_eq_true rfl) rfl ?_
  refine cn_aload_n hV dX0_init_20 rfl ?_
  refine cn_bipush hV (6 : Int32) dX0_init_21 (by decide) ?_
  refine cn_newI hV 6 ca_int dX0_init_23 (by decide) (by decide) (by decide) (by decide) (by decide) (fun q23 => ?_)
  refine cn_put hV hin cf_X0_18 dX0_init_25 0 [(h0, .inr (0, [.ref (q7), .ref (q15), .ref (q23), .int 0])), (q7, .inl (cI, 6, .inl (fun _ => (0 : Int32)))), (q15, .inl (cI, 6, .inl (fun _ => (0 : Int32)))), (q23, .inl (cI, 6, .inl (fun _ => (0 : Int32))))] rfl rfl rfl (Nat.le_of_ble_eq_true rfl) rfl ?_
  refine cn_aload_n hV dX0_init_28 rfl ?_
  refine cn_iconst hV (0 : Int32) dX0_init_29 (by decide) ?_
  refine cn_put hV hin cf_X0_21 dX0_init_30 0 [(h0, .inr (0, [.ref (q7), .ref (q15), .ref (q23), .int (0 : Int32)])), (q7, .inl (cI, 6, .inl (fun _ => (0 : Int32)))), (q15, .inl (cI, 6, .inl (fun _ => (0 : Int32)))), (q23, .inl (cI, 6, .inl (fun _ => (0 : Int32))))] rfl rfl rfl (Nat.le_of_ble_eq_true rfl) rfl ?_
  exact hend _ _ _ [h0, q7, q15, q23] [0, 1, 2, 3] [(h0, .inr (0, [.ref (q7), .ref (q15), .ref (q23), .int (0 : Int32)])), (q7, .inl (cI, 6, .inl (fun _ => (0 : Int32)))), (q15, .inl (cI, 6, .inl (fun _ => (0 : Int32)))), (q23, .inl (cI, 6, .inl (fun _ => (0 : Int32))))] rfl (by decide) rfl dX0_init_33
def s0_X6 : ax_S := (fun k => (fun _ => (0 : Int32)), fun _ _ => 0)
def cl_X6 : ax_L := [(0, 5, [3, 4, 5, 6, 7, 8, 0, 9, 10, 11, 12, 13, 14]), (0, 6, [15, 16, 17, 18, 19, 20, 21, 0]), (0, 0, [22, 23, 24, 0]), (1, 40, []), (1, 40, []), (1, 40, []), (1, 40, []), (1, 18, []), (1, 18, []), (1, 18, []), (1, 18, []), (1, 18, []), (1, 18, []), (1, 40, []), (1, 40, []), (1, 40, []), (1, 40, []), (1, 40, []), (1, 40, []), (1, 40, []), (1, 6, []), (1, 6, []), (1, 6, [])]
def mu_X6_init : ax_Mu := (yX6_init, cX6_init, 1, none, 2, 32)
theorem lc_X6_init : Cond.code mu_X6_init.1 mu_X6_init.2.1 mu_X6_init.2.2.1 mu_X6_init.2.2.2.1 ∈ ax_tb := (ax_m1 29 rfl rfl)
def nl_X6 : cn_N := [(RX6, 11, yX7_init, "WhenItWas"), (RX6, 20, yX0_init, "WhenItWas")]
theorem cf_X6_12 : cn_F RX6 12 5 0 true (.object "WhenItWas$Rows") := ⟨RX6, TX6, 13, tyX6, rfl, by decide, in2X6, (ax_m1 105 rfl rfl), tyX6_ok, nmX6, rfl, by decide +kernel, fun _ => rfl⟩
theorem cf_X6_21 : cn_F RX6 21 5 1 true (.object "WhenItWas$Books") := ⟨RX6, TX6, 13, tyX6, rfl, by decide, in2X6, (ax_m1 109 rfl rfl), tyX6_ok, nmX6, rfl, by decide +kernel, fun _ => rfl⟩
theorem cf_X6_25 : cn_F RX6 25 5 2 true (.array .int) := ⟨RX6, TX6, 13, tyX6, rfl, by decide, in2X6, (ax_m1 111 rfl rfl), tyX6_ok, nmX6, rfl, by decide +kernel, fun _ => rfl⟩
theorem cf_X6_29 : cn_F RX6 29 5 3 true (.array .int) := ⟨RX6, TX6, 13, tyX6, rfl, by decide, in2X6, (ax_m1 112 rfl rfl), tyX6_ok, nmX6, rfl, by decide +kernel, fun _ => rfl⟩
theorem cf_X6_32 : cn_F RX6 32 5 4 true (.array .int) := ⟨RX6, TX6, 13, tyX6, rfl, by decide, in2X6, (ax_m1 113 rfl rfl), tyX6_ok, nmX6, rfl, by decide +kernel, fun _ => rfl⟩
theorem cf_X6_35 : cn_F RX6 35 5 5 true (.array .int) := ⟨RX6, TX6, 13, tyX6, rfl, by decide, in2X6, (ax_m1 114 rfl rfl), tyX6_ok, nmX6, rfl, by decide +kernel, fun _ => rfl⟩
theorem cf_X6_38 : cn_F RX6 38 5 6 false (.int) := ⟨RX6, TX6, 13, tyX6, rfl, by decide, in2X6, (ax_m1 115 rfl rfl), tyX6_ok, nmX6, rfl, by decide +kernel, fun _ => rfl⟩
theorem cf_X6_42 : cn_F RX6 42 5 7 true (.array .int) := ⟨RX6, TX6, 13, tyX6, rfl, by decide, in2X6, (ax_m1 116 rfl rfl), tyX6_ok, nmX6, rfl, by decide +kernel, fun _ => rfl⟩
theorem cf_X6_45 : cn_F RX6 45 5 8 true (.array .int) := ⟨RX6, TX6, 13, tyX6, rfl, by decide, in2X6, (ax_m1 117 rfl rfl), tyX6_ok, nmX6, rfl, by decide +kernel, fun _ => rfl⟩
theorem cf_X6_48 : cn_F RX6 48 5 9 true (.array .int) := ⟨RX6, TX6, 13, tyX6, rfl, by decide, in2X6, (ax_m1 118 rfl rfl), tyX6_ok, nmX6, rfl, by decide +kernel, fun _ => rfl⟩
theorem cf_X6_51 : cn_F RX6 51 5 10 true (.array .int) := ⟨RX6, TX6, 13, tyX6, rfl, by decide, in2X6, (ax_m1 119 rfl rfl), tyX6_ok, nmX6, rfl, by decide +kernel, fun _ => rfl⟩
theorem cf_X6_54 : cn_F RX6 54 5 11 true (.array .int) := ⟨RX6, TX6, 13, tyX6, rfl, by decide, in2X6, (ax_m1 120 rfl rfl), tyX6_ok, nmX6, rfl, by decide +kernel, fun _ => rfl⟩
theorem cf_X6_57 : cn_F RX6 57 5 12 true (.array .int) := ⟨RX6, TX6, 13, tyX6, rfl, by decide, in2X6, (ax_m1 121 rfl rfl), tyX6_ok, nmX6, rfl, by decide +kernel, fun _ => rfl⟩
set_option maxHeartbeats 4000000 in
set_option maxRecDepth 10000 in
theorem c_X6_init : cn_M mu_X6_init 22 578 nl_X6 5 [.null, .null, .null, .null, .null, .null, .int 0, .null, .null, .null, .null, .null, .null] cl_X6 s0_X6 := by
  refine cn_enter (by decide +kernel) rfl rfl (by decide) 0 (fun h0 => [some (.ref h0)]) (fun _ => rfl) (fun K D cI cJ cZ h0 sz Q hV hin hnw hlt hend => ?_)
  refine cn_aload_n hV dX6_init_0 rfl ?_
  refine cn_obj hV (ax_m1 30 rfl rfl) cn_o1 cn_o2 rfl dX6_init_1 ?_
  refine cn_aload_n hV dX6_init_4 rfl ?_
  refine cn_new hV (ci := 6) dX6_init_5 rfl in2X7 tyX7 tyX7_ok (ax_m1 31 rfl rfl) (ax_m1 32 rfl rfl) (ax_m1 3 rfl rfl) [.null, .null, .null, .null, .null, .null, .null, .int 0] (fun j hj => by rcases (show j = 0 ∨ j = 1 ∨ j = 2 ∨ j = 3 ∨ j = 4 ∨ j = 5 ∨ j = 6 ∨ j = 7 by omega) with rfl | rfl | rfl | rfl | rfl | rfl | rfl | rfl <;> rfl) (by decide) (by decide) (fun q5 => ?_)
  refine cn_dup hV dX6_init_8 rfl ?_
  refine cn_callN (host := "WhenItWas") hV c_X7_init hnw (by decide +kernel) (by decide +kernel) (ax_m1 34 rfl rfl) (ax_m1 3 rfl rfl) lc_X7_init rfl ⟨by decide +kernel, by decide +kernel, by decide +kernel⟩ rfl rfl (by decide) (by decide) dX6_init_9 rfl (fun ad9 h9 => ?_)
  subst h9
  refine cn_put hV hin cf_X6_12 dX6_init_12 0 [(h0, .inr (5, [.ref ((ad9 0)), .null, .null, .null, .null, .null, .int 0, .null, .null, .null, .null, .null, .null])), ((ad9 0), .inr (6, [.ref (ad9 1), .ref (ad9 2), .ref (ad9 3), .ref (ad9 4), .ref (ad9 5), .ref (ad9 6), .ref (ad9 7), .int 0])), ((ad9 1), .inl (cI, 40, .inl (fun _ => (0 : Int32)))), ((ad9 2), .inl (cI, 40, .inl (fun _ => (0 : Int32)))), ((ad9 3), .inl (cI, 40, .inl (fun _ => (0 : Int32)))), ((ad9 4), .inl (cI, 40, .inl (fun _ => (0 : Int32)))), ((ad9 5), .inl (cI, 40, .inl (fun _ => (0 : Int32)))), ((ad9 6), .inl (cI, 40, .inl (fun _ => (0 : Int32)))), ((ad9 7), .inl (cI, 40, .inl (fun _ => (0 : Int32))))] rfl rfl rfl (Nat.le_of_ble_eq_true rfl) rfl ?_
  refine cn_aload_n hV dX6_init_15 rfl ?_
  refine cn_new hV (ci := 0) dX6_init_16 rfl in2X0 tyX0 tyX0_ok (ax_m1 78 rfl rfl) (ax_m1 79 rfl rfl) (ax_m1 4 rfl rfl) [.null, .null, .null, .int 0] (fun j hj => by rcases (show j = 0 ∨ j = 1 ∨ j = 2 ∨ j = 3 by omega) with rfl | rfl | rfl | rfl <;> rfl) (by decide) (by decide) (fun q16 => ?_)
  refine cn_dup hV dX6_init_19 rfl ?_
  refine cn_callN (host := "WhenItWas") hV c_X0_init hnw (by decide +kernel) (by decide +kernel) (ax_m1 81 rfl rfl) (ax_m1 4 rfl rfl) lc_X0_init rfl ⟨by decide +kernel, by decide +kernel, by decide +kernel⟩ rfl rfl (by decide) (by decide) dX6_init_20 rfl (fun ad20 h20 => ?_)
  subst h20
  refine cn_put hV hin cf_X6_21 dX6_init_23 0 [(h0, .inr (5, [.ref ((ad9 0)), .ref ((ad20 0)), .null, .null, .null, .null, .int 0, .null, .null, .null, .null, .null, .null])), ((ad9 0), .inr (6, [.ref (ad9 1), .ref (ad9 2), .ref (ad9 3), .ref (ad9 4), .ref (ad9 5), .ref (ad9 6), .ref (ad9 7), .int 0])), ((ad9 1), .inl (cI, 40, .inl (fun _ => (0 : Int32)))), ((ad9 2), .inl (cI, 40, .inl (fun _ => (0 : Int32)))), ((ad9 3), .inl (cI, 40, .inl (fun _ => (0 : Int32)))), ((ad9 4), .inl (cI, 40, .inl (fun _ => (0 : Int32)))), ((ad9 5), .inl (cI, 40, .inl (fun _ => (0 : Int32)))), ((ad9 6), .inl (cI, 40, .inl (fun _ => (0 : Int32)))), ((ad9 7), .inl (cI, 40, .inl (fun _ => (0 : Int32)))), ((ad20 0), .inr (0, [.ref (ad20 1), .ref (ad20 2), .ref (ad20 3), .int 0])), ((ad20 1), .inl (cI, 6, .inl (fun _ => (0 : Int32)))), ((ad20 2), .inl (cI, 6, .inl (fun _ => (0 : Int32)))), ((ad20 3), .inl (cI, 6, .inl (fun _ => (0 : Int32))))] rfl rfl rfl (Nat.le_of_ble_eq_true rfl) rfl ?_
  refine cn_aload_n hV dX6_init_26 rfl ?_
  refine cn_bipush hV (40 : Int32) dX6_init_27 (by decide) ?_
  refine cn_newI hV 40 ca_int dX6_init_29 (by decide) (by decide) (by decide) (by decide) (by decide) (fun q29 => ?_)
  refine cn_put hV hin cf_X6_25 dX6_init_31 0 [(h0, .inr (5, [.ref ((ad9 0)), .ref ((ad20 0)), .ref (q29), .null, .null, .null, .int 0, .null, .null, .null, .null, .null, .null])), ((ad9 0), .inr (6, [.ref (ad9 1), .ref (ad9 2), .ref (ad9 3), .ref (ad9 4), .ref (ad9 5), .ref (ad9 6), .ref (ad9 7), .int 0])), ((ad9 1), .inl (cI, 40, .inl (fun _ => (0 : Int32)))), ((ad9 2), .inl (cI, 40, .inl (fun _ => (0 : Int32)))), ((ad9 3), .inl (cI, 40, .inl (fun _ => (0 : Int32)))), ((ad9 4), .inl (cI, 40, .inl (fun _ => (0 : Int32)))), ((ad9 5), .inl (cI, 40, .inl (fun _ => (0 : Int32)))), ((ad9 6), .inl (cI, 40, .inl (fun _ => (0 : Int32)))), ((ad9 7), .inl (cI, 40, .inl (fun _ => (0 : Int32)))), ((ad20 0), .inr (0, [.ref (ad20 1), .ref (ad20 2), .ref (ad20 3), .int 0])), ((ad20 1), .inl (cI, 6, .inl (fun _ => (0 : Int32)))), ((ad20 2), .inl (cI, 6, .inl (fun _ => (0 : Int32)))), ((ad20 3), .inl (cI, 6, .inl (fun _ => (0 : Int32)))), (q29, .inl (cI, 40, .inl (fun _ => (0 : Int32))))] rfl rfl rfl (Nat.le_of_ble_eq_true rfl) rfl ?_
  refine cn_aload_n hV dX6_init_34 rfl ?_
  refine cn_bipush hV (40 : Int32) dX6_init_35 (by decide) ?_
  refine cn_newI hV 40 ca_int dX6_init_37 (by decide) (by decide) (by decide) (by decide) (by decide) (fun q37 => ?_)
  refine cn_put hV hin cf_X6_29 dX6_init_39 0 [(h0, .inr (5, [.ref ((ad9 0)), .ref ((ad20 0)), .ref (q29), .ref (q37), .null, .null, .int 0, .null, .null, .null, .null, .null, .null])), ((ad9 0), .inr (6, [.ref (ad9 1), .ref (ad9 2), .ref (ad9 3), .ref (ad9 4), .ref (ad9 5), .ref (ad9 6), .ref (ad9 7), .int 0])), ((ad9 1), .inl (cI, 40, .inl (fun _ => (0 : Int32)))), ((ad9 2), .inl (cI, 40, .inl (fun _ => (0 : Int32)))), ((ad9 3), .inl (cI, 40, .inl (fun _ => (0 : Int32)))), ((ad9 4), .inl (cI, 40, .inl (fun _ => (0 : Int32)))), ((ad9 5), .inl (cI, 40, .inl (fun _ => (0 : Int32)))), ((ad9 6), .inl (cI, 40, .inl (fun _ => (0 : Int32)))), ((ad9 7), .inl (cI, 40, .inl (fun _ => (0 : Int32)))), ((ad20 0), .inr (0, [.ref (ad20 1), .ref (ad20 2), .ref (ad20 3), .int 0])), ((ad20 1), .inl (cI, 6, .inl (fun _ => (0 : Int32)))), ((ad20 2), .inl (cI, 6, .inl (fun _ => (0 : Int32)))), ((ad20 3), .inl (cI, 6, .inl (fun _ => (0 : Int32)))), (q29, .inl (cI, 40, .inl (fun _ => (0 : Int32)))), (q37, .inl (cI, 40, .inl (fun _ => (0 : Int32))))] rfl rfl rfl (Nat.le_of_ble_eq_true rfl) rfl ?_
  refine cn_aload_n hV dX6_init_42 rfl ?_
  refine cn_bipush hV (40 : Int32) dX6_init_43 (by decide) ?_
  refine cn_newI hV 40 ca_int dX6_init_45 (by decide) (by decide) (by decide) (by decide) (by decide) (fun q45 => ?_)
  refine cn_put hV hin cf_X6_32 dX6_init_47 0 [(h0, .inr (5, [.ref ((ad9 0)), .ref ((ad20 0)), .ref (q29), .ref (q37), .ref (q45), .null, .int 0, .null, .null, .null, .null, .null, .null])), ((ad9 0), .inr (6, [.ref (ad9 1), .ref (ad9 2), .ref (ad9 3), .ref (ad9 4), .ref (ad9 5), .ref (ad9 6), .ref (ad9 7), .int 0])), ((ad9 1), .inl (cI, 40, .inl (fun _ => (0 : Int32)))), ((ad9 2), .inl (cI, 40, .inl (fun _ => (0 : Int32)))), ((ad9 3), .inl (cI, 40, .inl (fun _ => (0 : Int32)))), ((ad9 4), .inl (cI, 40, .inl (fun _ => (0 : Int32)))), ((ad9 5), .inl (cI, 40, .inl (fun _ => (0 : Int32)))), ((ad9 6), .inl (cI, 40, .inl (fun _ => (0 : Int32)))), ((ad9 7), .inl (cI, 40, .inl (fun _ => (0 : Int32)))), ((ad20 0), .inr (0, [.ref (ad20 1), .ref (ad20 2), .ref (ad20 3), .int 0])), ((ad20 1), .inl (cI, 6, .inl (fun _ => (0 : Int32)))), ((ad20 2), .inl (cI, 6, .inl (fun _ => (0 : Int32)))), ((ad20 3), .inl (cI, 6, .inl (fun _ => (0 : Int32)))), (q29, .inl (cI, 40, .inl (fun _ => (0 : Int32)))), (q37, .inl (cI, 40, .inl (fun _ => (0 : Int32)))), (q45, .inl (cI, 40, .inl (fun _ => (0 : Int32))))] rfl rfl rfl (Nat.le_of_ble_eq_true rfl) rfl ?_
  refine cn_aload_n hV dX6_init_50 rfl ?_
  refine cn_bipush hV (40 : Int32) dX6_init_51 (by decide) ?_
  refine cn_newI hV 40 ca_int dX6_init_53 (by decide) (by decide) (by decide) (by decide) (by decide) (fun q53 => ?_)
  refine cn_put hV hin cf_X6_35 dX6_init_55 0 [(h0, .inr (5, [.ref ((ad9 0)), .ref ((ad20 0)), .ref (q29), .ref (q37), .ref (q45), .ref (q53), .int 0, .null, .null, .null, .null, .null, .null])), ((ad9 0), .inr (6, [.ref (ad9 1), .ref (ad9 2), .ref (ad9 3), .ref (ad9 4), .ref (ad9 5), .ref (ad9 6), .ref (ad9 7), .int 0])), ((ad9 1), .inl (cI, 40, .inl (fun _ => (0 : Int32)))), ((ad9 2), .inl (cI, 40, .inl (fun _ => (0 : Int32)))), ((ad9 3), .inl (cI, 40, .inl (fun _ => (0 : Int32)))), ((ad9 4), .inl (cI, 40, .inl (fun _ => (0 : Int32)))), ((ad9 5), .inl (cI, 40, .inl (fun _ => (0 : Int32)))), ((ad9 6), .inl (cI, 40, .inl (fun _ => (0 : Int32)))), ((ad9 7), .inl (cI, 40, .inl (fun _ => (0 : Int32)))), ((ad20 0), .inr (0, [.ref (ad20 1), .ref (ad20 2), .ref (ad20 3), .int 0])), ((ad20 1), .inl (cI, 6, .inl (fun _ => (0 : Int32)))), ((ad20 2), .inl (cI, 6, .inl (fun _ => (0 : Int32)))), ((ad20 3), .inl (cI, 6, .inl (fun _ => (0 : Int32)))), (q29, .inl (cI, 40, .inl (fun _ => (0 : Int32)))), (q37, .inl (cI, 40, .inl (fun _ => (0 : Int32)))), (q45, .inl (cI, 40, .inl (fun _ => (0 : Int32)))), (q53, .inl (cI, 40, .inl (fun _ => (0 : Int32))))] rfl rfl rfl (Nat.le_of_ble_eq_true rfl) rfl ?_
  refine cn_aload_n hV dX6_init_58 rfl ?_
  refine cn_iconst hV (0 : Int32) dX6_init_59 (by decide) ?_
  refine cn_put hV hin cf_X6_38 dX6_init_60 0 [(h0, .inr (5, [.ref ((ad9 0)), .ref ((ad20 0)), .ref (q29), .ref (q37), .ref (q45), .ref (q53), .int (0 : Int32), .null, .null, .null, .null, .null, .null])), ((ad9 0), .inr (6, [.ref (ad9 1), .ref (ad9 2), .ref (ad9 3), .ref (ad9 4), .ref (ad9 5), .ref (ad9 6), .ref (ad9 7), .int 0])), ((ad9 1), .inl (cI, 40, .inl (fun _ => (0 : Int32)))), ((ad9 2), .inl (cI, 40, .inl (fun _ => (0 : Int32)))), ((ad9 3), .inl (cI, 40, .inl (fun _ => (0 : Int32)))), ((ad9 4), .inl (cI, 40, .inl (fun _ => (0 : Int32)))), ((ad9 5), .inl (cI, 40, .inl (fun _ => (0 : Int32)))), ((ad9 6), .inl (cI, 40, .inl (fun _ => (0 : Int32)))), ((ad9 7), .inl (cI, 40, .inl (fun _ => (0 : Int32)))), ((ad20 0), .inr (0, [.ref (ad20 1), .ref (ad20 2), .ref (ad20 3), .int 0])), ((ad20 1), .inl (cI, 6, .inl (fun _ => (0 : Int32)))), ((ad20 2), .inl (cI, 6, .inl (fun _ => (0 : Int32)))), ((ad20 3), .inl (cI, 6, .inl (fun _ => (0 : Int32)))), (q29, .inl (cI, 40, .inl (fun _ => (0 : Int32)))), (q37, .inl (cI, 40, .inl (fun _ => (0 : Int32)))), (q45, .inl (cI, 40, .inl (fun _ => (0 : Int32)))), (q53, .inl (cI, 40, .inl (fun _ => (0 : Int32))))] rfl rfl rfl (Nat.le_of_ble_eq_true rfl) rfl ?_
  refine cn_aload_n hV dX6_init_63 rfl ?_
  refine cn_bipush hV (18 : Int32) dX6_init_64 (by decide) ?_
  refine cn_newI hV 18 ca_int dX6_init_66 (by decide) (by decide) (by decide) (by decide) (by decide) (fun q66 => ?_)
  refine cn_put hV hin cf_X6_42 dX6_init_68 0 [(h0, .inr (5, [.ref ((ad9 0)), .ref ((ad20 0)), .ref (q29), .ref (q37), .ref (q45), .ref (q53), .int (0 : Int32), .ref (q66), .null, .null, .null, .null, .null])), ((ad9 0), .inr (6, [.ref (ad9 1), .ref (ad9 2), .ref (ad9 3), .ref (ad9 4), .ref (ad9 5), .ref (ad9 6), .ref (ad9 7), .int 0])), ((ad9 1), .inl (cI, 40, .inl (fun _ => (0 : Int32)))), ((ad9 2), .inl (cI, 40, .inl (fun _ => (0 : Int32)))), ((ad9 3), .inl (cI, 40, .inl (fun _ => (0 : Int32)))), ((ad9 4), .inl (cI, 40, .inl (fun _ => (0 : Int32)))), ((ad9 5), .inl (cI, 40, .inl (fun _ => (0 : Int32)))), ((ad9 6), .inl (cI, 40, .inl (fun _ => (0 : Int32)))), ((ad9 7), .inl (cI, 40, .inl (fun _ => (0 : Int32)))), ((ad20 0), .inr (0, [.ref (ad20 1), .ref (ad20 2), .ref (ad20 3), .int 0])), ((ad20 1), .inl (cI, 6, .inl (fun _ => (0 : Int32)))), ((ad20 2), .inl (cI, 6, .inl (fun _ => (0 : Int32)))), ((ad20 3), .inl (cI, 6, .inl (fun _ => (0 : Int32)))), (q29, .inl (cI, 40, .inl (fun _ => (0 : Int32)))), (q37, .inl (cI, 40, .inl (fun _ => (0 : Int32)))), (q45, .inl (cI, 40, .inl (fun _ => (0 : Int32)))), (q53, .inl (cI, 40, .inl (fun _ => (0 : Int32)))), (q66, .inl (cI, 18, .inl (fun _ => (0 : Int32))))] rfl rfl rfl (Nat.le_of_ble_eq_true rfl) rfl ?_
  refine cn_aload_n hV dX6_init_71 rfl ?_
  refine cn_bipush hV (18 : Int32) dX6_init_72 (by decide) ?_
  refine cn_newI hV 18 ca_int dX6_init_74 (by decide) (by decide) (by decide) (by decide) (by decide) (fun q74 => ?_)
  refine cn_put hV hin cf_X6_45 dX6_init_76 0 [(h0, .inr (5, [.ref ((ad9 0)), .ref ((ad20 0)), .ref (q29), .ref (q37), .ref (q45), .ref (q53), .int (0 : Int32), .ref (q66), .ref (q74), .null, .null, .null, .null])), ((ad9 0), .inr (6, [.ref (ad9 1), .ref (ad9 2), .ref (ad9 3), .ref (ad9 4), .ref (ad9 5), .ref (ad9 6), .ref (ad9 7), .int 0])), ((ad9 1), .inl (cI, 40, .inl (fun _ => (0 : Int32)))), ((ad9 2), .inl (cI, 40, .inl (fun _ => (0 : Int32)))), ((ad9 3), .inl (cI, 40, .inl (fun _ => (0 : Int32)))), ((ad9 4), .inl (cI, 40, .inl (fun _ => (0 : Int32)))), ((ad9 5), .inl (cI, 40, .inl (fun _ => (0 : Int32)))), ((ad9 6), .inl (cI, 40, .inl (fun _ => (0 : Int32)))), ((ad9 7), .inl (cI, 40, .inl (fun _ => (0 : Int32)))), ((ad20 0), .inr (0, [.ref (ad20 1), .ref (ad20 2), .ref (ad20 3), .int 0])), ((ad20 1), .inl (cI, 6, .inl (fun _ => (0 : Int32)))), ((ad20 2), .inl (cI, 6, .inl (fun _ => (0 : Int32)))), ((ad20 3), .inl (cI, 6, .inl (fun _ => (0 : Int32)))), (q29, .inl (cI, 40, .inl (fun _ => (0 : Int32)))), (q37, .inl (cI, 40, .inl (fun _ => (0 : Int32)))), (q45, .inl (cI, 40, .inl (fun _ => (0 : Int32)))), (q53, .inl (cI, 40, .inl (fun _ => (0 : Int32)))), (q66, .inl (cI, 18, .inl (fun _ => (0 : Int32)))), (q74, .inl (cI, 18, .inl (fun _ => (0 : Int32))))] rfl rfl rfl (Nat.le_of_ble_eq_true rfl) rfl ?_
  refine cn_aload_n hV dX6_init_79 rfl ?_
  refine cn_bipush hV (18 : Int32) dX6_init_80 (by decide) ?_
  refine cn_newI hV 18 ca_int dX6_init_82 (by decide) (by decide) (by decide) (by decide) (by decide) (fun q82 => ?_)
  refine cn_put hV hin cf_X6_48 dX6_init_84 0 [(h0, .inr (5, [.ref ((ad9 0)), .ref ((ad20 0)), .ref (q29), .ref (q37), .ref (q45), .ref (q53), .int (0 : Int32), .ref (q66), .ref (q74), .ref (q82), .null, .null, .null])), ((ad9 0), .inr (6, [.ref (ad9 1), .ref (ad9 2), .ref (ad9 3), .ref (ad9 4), .ref (ad9 5), .ref (ad9 6), .ref (ad9 7), .int 0])), ((ad9 1), .inl (cI, 40, .inl (fun _ => (0 : Int32)))), ((ad9 2), .inl (cI, 40, .inl (fun _ => (0 : Int32)))), ((ad9 3), .inl (cI, 40, .inl (fun _ => (0 : Int32)))), ((ad9 4), .inl (cI, 40, .inl (fun _ => (0 : Int32)))), ((ad9 5), .inl (cI, 40, .inl (fun _ => (0 : Int32)))), ((ad9 6), .inl (cI, 40, .inl (fun _ => (0 : Int32)))), ((ad9 7), .inl (cI, 40, .inl (fun _ => (0 : Int32)))), ((ad20 0), .inr (0, [.ref (ad20 1), .ref (ad20 2), .ref (ad20 3), .int 0])), ((ad20 1), .inl (cI, 6, .inl (fun _ => (0 : Int32)))), ((ad20 2), .inl (cI, 6, .inl (fun _ => (0 : Int32)))), ((ad20 3), .inl (cI, 6, .inl (fun _ => (0 : Int32)))), (q29, .inl (cI, 40, .inl (fun _ => (0 : Int32)))), (q37, .inl (cI, 40, .inl (fun _ => (0 : Int32)))), (q45, .inl (cI, 40, .inl (fun _ => (0 : Int32)))), (q53, .inl (cI, 40, .inl (fun _ => (0 : Int32)))), (q66, .inl (cI, 18, .inl (fun _ => (0 : Int32)))), (q74, .inl (cI, 18, .inl (fun _ => (0 : Int32)))), (q82, .inl (cI, 18, .inl (fun _ => (0 : Int32))))] rfl rfl rfl (Nat.le_of_ble_eq_true rfl) rfl ?_
  refine cn_aload_n hV dX6_init_87 rfl ?_
  refine cn_bipush hV (18 : Int32) dX6_init_88 (by decide) ?_
  refine cn_newI hV 18 ca_int dX6_init_90 (by decide) (by decide) (by decide) (by decide) (by decide) (fun q90 => ?_)
  refine cn_put hV hin cf_X6_51 dX6_init_92 0 [(h0, .inr (5, [.ref ((ad9 0)), .ref ((ad20 0)), .ref (q29), .ref (q37), .ref (q45), .ref (q53), .int (0 : Int32), .ref (q66), .ref (q74), .ref (q82), .ref (q90), .null, .null])), ((ad9 0), .inr (6, [.ref (ad9 1), .ref (ad9 2), .ref (ad9 3), .ref (ad9 4), .ref (ad9 5), .ref (ad9 6), .ref (ad9 7), .int 0])), ((ad9 1), .inl (cI, 40, .inl (fun _ => (0 : Int32)))), ((ad9 2), .inl (cI, 40, .inl (fun _ => (0 : Int32)))), ((ad9 3), .inl (cI, 40, .inl (fun _ => (0 : Int32)))), ((ad9 4), .inl (cI, 40, .inl (fun _ => (0 : Int32)))), ((ad9 5), .inl (cI, 40, .inl (fun _ => (0 : Int32)))), ((ad9 6), .inl (cI, 40, .inl (fun _ => (0 : Int32)))), ((ad9 7), .inl (cI, 40, .inl (fun _ => (0 : Int32)))), ((ad20 0), .inr (0, [.ref (ad20 1), .ref (ad20 2), .ref (ad20 3), .int 0])), ((ad20 1), .inl (cI, 6, .inl (fun _ => (0 : Int32)))), ((ad20 2), .inl (cI, 6, .inl (fun _ => (0 : Int32)))), ((ad20 3), .inl (cI, 6, .inl (fun _ => (0 : Int32)))), (q29, .inl (cI, 40, .inl (fun _ => (0 : Int32)))), (q37, .inl (cI, 40, .inl (fun _ => (0 : Int32)))), (q45, .inl (cI, 40, .inl (fun _ => (0 : Int32)))), (q53, .inl (cI, 40, .inl (fun _ => (0 : Int32)))), (q66, .inl (cI, 18, .inl (fun _ => (0 : Int32)))), (q74, .inl (cI, 18, .inl (fun _ => (0 : Int32)))), (q82, .inl (cI, 18, .inl (fun _ => (0 : Int32)))), (q90, .inl (cI, 18, .inl (fun _ => (0 : Int32))))] rfl rfl rfl (Nat.le_of_ble_eq_true rfl) rfl ?_
  refine cn_aload_n hV dX6_init_95 rfl ?_
  refine cn_bipush hV (18 : Int32) dX6_init_96 (by decide) ?_
  refine cn_newI hV 18 ca_int dX6_init_98 (by decide) (by decide) (by decide) (by decide) (by decide) (fun q98 => ?_)
  refine cn_put hV hin cf_X6_54 dX6_init_100 0 [(h0, .inr (5, [.ref ((ad9 0)), .ref ((ad20 0)), .ref (q29), .ref (q37), .ref (q45), .ref (q53), .int (0 : Int32), .ref (q66), .ref (q74), .ref (q82), .ref (q90), .ref (q98), .null])), ((ad9 0), .inr (6, [.ref (ad9 1), .ref (ad9 2), .ref (ad9 3), .ref (ad9 4), .ref (ad9 5), .ref (ad9 6), .ref (ad9 7), .int 0])), ((ad9 1), .inl (cI, 40, .inl (fun _ => (0 : Int32)))), ((ad9 2), .inl (cI, 40, .inl (fun _ => (0 : Int32)))), ((ad9 3), .inl (cI, 40, .inl (fun _ => (0 : Int32)))), ((ad9 4), .inl (cI, 40, .inl (fun _ => (0 : Int32)))), ((ad9 5), .inl (cI, 40, .inl (fun _ => (0 : Int32)))), ((ad9 6), .inl (cI, 40, .inl (fun _ => (0 : Int32)))), ((ad9 7), .inl (cI, 40, .inl (fun _ => (0 : Int32)))), ((ad20 0), .inr (0, [.ref (ad20 1), .ref (ad20 2), .ref (ad20 3), .int 0])), ((ad20 1), .inl (cI, 6, .inl (fun _ => (0 : Int32)))), ((ad20 2), .inl (cI, 6, .inl (fun _ => (0 : Int32)))), ((ad20 3), .inl (cI, 6, .inl (fun _ => (0 : Int32)))), (q29, .inl (cI, 40, .inl (fun _ => (0 : Int32)))), (q37, .inl (cI, 40, .inl (fun _ => (0 : Int32)))), (q45, .inl (cI, 40, .inl (fun _ => (0 : Int32)))), (q53, .inl (cI, 40, .inl (fun _ => (0 : Int32)))), (q66, .inl (cI, 18, .inl (fun _ => (0 : Int32)))), (q74, .inl (cI, 18, .inl (fun _ => (0 : Int32)))), (q82, .inl (cI, 18, .inl (fun _ => (0 : Int32)))), (q90, .inl (cI, 18, .inl (fun _ => (0 : Int32)))), (q98, .inl (cI, 18, .inl (fun _ => (0 : Int32))))] rfl rfl rfl (Nat.le_of_ble_eq_true rfl) rfl ?_
  refine cn_aload_n hV dX6_init_103 rfl ?_
  refine cn_bipush hV (18 : Int32) dX6_init_104 (by decide) ?_
  refine cn_newI hV 18 ca_int dX6_init_106 (by decide) (by decide) (by decide) (by decide) (by decide) (fun q106 => ?_)
  refine cn_put hV hin cf_X6_57 dX6_init_108 0 [(h0, .inr (5, [.ref ((ad9 0)), .ref ((ad20 0)), .ref (q29), .ref (q37), .ref (q45), .ref (q53), .int (0 : Int32), .ref (q66), .ref (q74), .ref (q82), .ref (q90), .ref (q98), .ref (q106)])), ((ad9 0), .inr (6, [.ref (ad9 1), .ref (ad9 2), .ref (ad9 3), .ref (ad9 4), .ref (ad9 5), .ref (ad9 6), .ref (ad9 7), .int 0])), ((ad9 1), .inl (cI, 40, .inl (fun _ => (0 : Int32)))), ((ad9 2), .inl (cI, 40, .inl (fun _ => (0 : Int32)))), ((ad9 3), .inl (cI, 40, .inl (fun _ => (0 : Int32)))), ((ad9 4), .inl (cI, 40, .inl (fun _ => (0 : Int32)))), ((ad9 5), .inl (cI, 40, .inl (fun _ => (0 : Int32)))), ((ad9 6), .inl (cI, 40, .inl (fun _ => (0 : Int32)))), ((ad9 7), .inl (cI, 40, .inl (fun _ => (0 : Int32)))), ((ad20 0), .inr (0, [.ref (ad20 1), .ref (ad20 2), .ref (ad20 3), .int 0])), ((ad20 1), .inl (cI, 6, .inl (fun _ => (0 : Int32)))), ((ad20 2), .inl (cI, 6, .inl (fun _ => (0 : Int32)))), ((ad20 3), .inl (cI, 6, .inl (fun _ => (0 : Int32)))), (q29, .inl (cI, 40, .inl (fun _ => (0 : Int32)))), (q37, .inl (cI, 40, .inl (fun _ => (0 : Int32)))), (q45, .inl (cI, 40, .inl (fun _ => (0 : Int32)))), (q53, .inl (cI, 40, .inl (fun _ => (0 : Int32)))), (q66, .inl (cI, 18, .inl (fun _ => (0 : Int32)))), (q74, .inl (cI, 18, .inl (fun _ => (0 : Int32)))), (q82, .inl (cI, 18, .inl (fun _ => (0 : Int32)))), (q90, .inl (cI, 18, .inl (fun _ => (0 : Int32)))), (q98, .inl (cI, 18, .inl (fun _ => (0 : Int32)))), (q106, .inl (cI, 18, .inl (fun _ => (0 : Int32))))] rfl rfl rfl (Nat.le_of_ble_eq_true rfl) rfl ?_
  exact hend _ _ _ [h0, (ad9 0), (ad20 0), q29, q37, q45, q53, q66, q74, q82, q90, q98, q106, (ad9 1), (ad9 2), (ad9 3), (ad9 4), (ad9 5), (ad9 6), (ad9 7), (ad20 1), (ad20 2), (ad20 3)] [0, 1, 9, 13, 14, 15, 16, 17, 18, 19, 20, 21, 22, 2, 3, 4, 5, 6, 7, 8, 10, 11, 12] [(h0, .inr (5, [.ref ((ad9 0)), .ref ((ad20 0)), .ref (q29), .ref (q37), .ref (q45), .ref (q53), .int (0 : Int32), .ref (q66), .ref (q74), .ref (q82), .ref (q90), .ref (q98), .ref (q106)])), ((ad9 0), .inr (6, [.ref (ad9 1), .ref (ad9 2), .ref (ad9 3), .ref (ad9 4), .ref (ad9 5), .ref (ad9 6), .ref (ad9 7), .int 0])), ((ad9 1), .inl (cI, 40, .inl (fun _ => (0 : Int32)))), ((ad9 2), .inl (cI, 40, .inl (fun _ => (0 : Int32)))), ((ad9 3), .inl (cI, 40, .inl (fun _ => (0 : Int32)))), ((ad9 4), .inl (cI, 40, .inl (fun _ => (0 : Int32)))), ((ad9 5), .inl (cI, 40, .inl (fun _ => (0 : Int32)))), ((ad9 6), .inl (cI, 40, .inl (fun _ => (0 : Int32)))), ((ad9 7), .inl (cI, 40, .inl (fun _ => (0 : Int32)))), ((ad20 0), .inr (0, [.ref (ad20 1), .ref (ad20 2), .ref (ad20 3), .int 0])), ((ad20 1), .inl (cI, 6, .inl (fun _ => (0 : Int32)))), ((ad20 2), .inl (cI, 6, .inl (fun _ => (0 : Int32)))), ((ad20 3), .inl (cI, 6, .inl (fun _ => (0 : Int32)))), (q29, .inl (cI, 40, .inl (fun _ => (0 : Int32)))), (q37, .inl (cI, 40, .inl (fun _ => (0 : Int32)))), (q45, .inl (cI, 40, .inl (fun _ => (0 : Int32)))), (q53, .inl (cI, 40, .inl (fun _ => (0 : Int32)))), (q66, .inl (cI, 18, .inl (fun _ => (0 : Int32)))), (q74, .inl (cI, 18, .inl (fun _ => (0 : Int32)))), (q82, .inl (cI, 18, .inl (fun _ => (0 : Int32)))), (q90, .inl (cI, 18, .inl (fun _ => (0 : Int32)))), (q98, .inl (cI, 18, .inl (fun _ => (0 : Int32)))), (q106, .inl (cI, 18, .inl (fun _ => (0 : Int32))))] rfl (by decide) rfl dX6_init_111
def s0_X3 : ax_S := (fun k => (fun _ => (0 : Int32)), fun _ _ => 0)
def cl_X3 : ax_L := [(0, 2, [3, 0, 4, 1, 0]), (1, 12, []), (1, 40, [])]
def mu_X3_init : ax_Mu := (yX3_init, cX3_init, 1, none, 1, 12)
theorem lc_X3_init : Cond.code mu_X3_init.1 mu_X3_init.2.1 mu_X3_init.2.2.1 mu_X3_init.2.2.2.1 ∈ ax_tb := (ax_m1 153 rfl rfl)
def nl_X3 : cn_N := []
theorem cf_X3_9 : cn_F RX3 9 2 0 true (.array .int) := ⟨RX3, TX3, 5, tyX3, rfl, by decide, in2X3, (ax_m1 155 rfl rfl), tyX3_ok, nmX3, rfl, by decide +kernel, fun _ => rfl⟩
theorem cf_X3_15 : cn_F RX3 15 2 1 false (.int) := ⟨RX3, TX3, 5, tyX3, rfl, by decide, in2X3, (ax_m1 156 rfl rfl), tyX3_ok, nmX3, rfl, by decide +kernel, fun _ => rfl⟩
theorem cf_X3_19 : cn_F RX3 19 2 2 true (.array .int) := ⟨RX3, TX3, 5, tyX3, rfl, by decide, in2X3, (ax_m1 157 rfl rfl), tyX3_ok, nmX3, rfl, by decide +kernel, fun _ => rfl⟩
theorem cf_X3_22 : cn_F RX3 22 2 3 false (.long) := ⟨RX3, TX3, 5, tyX3, rfl, by decide, in2X3, (ax_m1 159 rfl rfl), tyX3_ok, nmX3, rfl, by decide +kernel, fun _ => rfl⟩
theorem cf_X3_26 : cn_F RX3 26 2 4 false (.int) := ⟨RX3, TX3, 5, tyX3, rfl, by decide, in2X3, (ax_m1 161 rfl rfl), tyX3_ok, nmX3, rfl, by decide +kernel, fun _ => rfl⟩
set_option maxHeartbeats 4000000 in
set_option maxRecDepth 10000 in
theorem c_X3_init : cn_M mu_X3_init 2 52 nl_X3 2 [.null, .int 0, .null, .long 0, .int 0] cl_X3 s0_X3 := by
  refine cn_enter (by decide +kernel) rfl rfl (by decide) 0 (fun h0 => [some (.ref h0)]) (fun _ => rfl) (fun K D cI cJ cZ h0 sz Q hV hin hnw hlt hend => ?_)
  refine cn_aload_n hV dX3_init_0 rfl ?_
  refine cn_obj hV (ax_m1 154 rfl rfl) cn_o1 cn_o2 rfl dX3_init_1 ?_
  refine cn_aload_n hV dX3_init_4 rfl ?_
  refine cn_bipush hV (12 : Int32) dX3_init_5 (by decide) ?_
  refine cn_newI hV 12 ca_int dX3_init_7 (by decide) (by decide) (by decide) (by decide) (by decide) (fun q7 => ?_)
  refine cn_put hV hin cf_X3_9 dX3_init_9 0 [(h0, .inr (2, [.ref (q7), .int 0, .null, .long 0, .int 0])), (q7, .inl (cI, 12, .inl (fun _ => (0 : Int32))))] rfl rfl rfl (Nat.le_of_ble_eq_true rfl) rfl ?_
  refine cn_aload_n hV dX3_init_12 rfl ?_
  refine cn_iconst hV (0 : Int32) dX3_init_13 (by decide) ?_
  refine cn_put hV hin cf_X3_15 dX3_init_14 0 [(h0, .inr (2, [.ref (q7), .int (0 : Int32), .null, .long 0, .int 0])), (q7, .inl (cI, 12, .inl (fun _ => (0 : Int32))))] rfl rfl rfl (Nat.le_of_ble_eq_true rfl) rfl ?_
  refine cn_aload_n hV dX3_init_17 rfl ?_
  refine cn_bipush hV (40 : Int32) dX3_init_18 (by decide) ?_
  refine cn_newI hV 40 ca_int dX3_init_20 (by decide) (by decide) (by decide) (by decide) (by decide) (fun q20 => ?_)
  refine cn_put hV hin cf_X3_19 dX3_init_22 0 [(h0, .inr (2, [.ref (q7), .int (0 : Int32), .ref (q20), .long 0, .int 0])), (q7, .inl (cI, 12, .inl (fun _ => (0 : Int32)))), (q20, .inl (cI, 40, .inl (fun _ => (0 : Int32))))] rfl rfl rfl (Nat.le_of_ble_eq_true rfl) rfl ?_
  refine cn_aload_n hV dX3_init_25 rfl ?_
  refine cn_lconst hV (0 : Int64) dX3_init_26 (by decide) ?_
  refine cn_put hV hin cf_X3_22 dX3_init_27 0 [(h0, .inr (2, [.ref (q7), .int (0 : Int32), .ref (q20), .long (0 : Int64), .int 0])), (q7, .inl (cI, 12, .inl (fun _ => (0 : Int32)))), (q20, .inl (cI, 40, .inl (fun _ => (0 : Int32))))] rfl rfl rfl (Nat.le_of_ble_eq_true rfl) rfl ?_
  refine cn_aload_n hV dX3_init_30 rfl ?_
  refine cn_iconst hV (0 : Int32) dX3_init_31 (by decide) ?_
  refine cn_put hV hin cf_X3_26 dX3_init_32 0 [(h0, .inr (2, [.ref (q7), .int (0 : Int32), .ref (q20), .long (0 : Int64), .int (0 : Int32)])), (q7, .inl (cI, 12, .inl (fun _ => (0 : Int32)))), (q20, .inl (cI, 40, .inl (fun _ => (0 : Int32))))] rfl rfl rfl (Nat.le_of_ble_eq_true rfl) rfl ?_
  exact hend _ _ _ [h0, q7, q20] [0, 1, 2] [(h0, .inr (2, [.ref (q7), .int (0 : Int32), .ref (q20), .long (0 : Int64), .int (0 : Int32)])), (q7, .inl (cI, 12, .inl (fun _ => (0 : Int32)))), (q20, .inl (cI, 40, .inl (fun _ => (0 : Int32))))] rfl (by decide) rfl dX3_init_35
def s0_X5 : ax_S := (fun k => (fun _ => (0 : Int32)), fun _ _ => 0)
def cl_X5 : ax_L := [(0, 4, [3, 4, 5, 6, 0]), (1, 12, []), (1, 4096, []), (1, 4096, []), (1, 144, [])]
def mu_X5_init : ax_Mu := (yX5_init, cX5_init, 1, none, 1, 12)
theorem lc_X5_init : Cond.code mu_X5_init.1 mu_X5_init.2.1 mu_X5_init.2.2.1 mu_X5_init.2.2.2.1 ∈ ax_tb := (ax_m1 177 rfl rfl)
def nl_X5 : cn_N := []
theorem cf_X5_9 : cn_F RX5 9 4 0 true (.array .int) := ⟨RX5, TX5, 5, tyX5, rfl, by decide, in2X5, (ax_m1 179 rfl rfl), tyX5_ok, nmX5, rfl, by decide +kernel, fun _ => rfl⟩
theorem cf_X5_15 : cn_F RX5 15 4 1 true (.array .int) := ⟨RX5, TX5, 5, tyX5, rfl, by decide, in2X5, (ax_m1 181 rfl rfl), tyX5_ok, nmX5, rfl, by decide +kernel, fun _ => rfl⟩
theorem cf_X5_18 : cn_F RX5 18 4 2 true (.array .int) := ⟨RX5, TX5, 5, tyX5, rfl, by decide, in2X5, (ax_m1 182 rfl rfl), tyX5_ok, nmX5, rfl, by decide +kernel, fun _ => rfl⟩
theorem cf_X5_21 : cn_F RX5 21 4 3 true (.array .int) := ⟨RX5, TX5, 5, tyX5, rfl, by decide, in2X5, (ax_m1 183 rfl rfl), tyX5_ok, nmX5, rfl, by decide +kernel, fun _ => rfl⟩
theorem cf_X5_24 : cn_F RX5 24 4 4 false (.int) := ⟨RX5, TX5, 5, tyX5, rfl, by decide, in2X5, (ax_m1 184 rfl rfl), tyX5_ok, nmX5, rfl, by decide +kernel, fun _ => rfl⟩
set_option maxHeartbeats 4000000 in
set_option maxRecDepth 10000 in
theorem c_X5_init : cn_M mu_X5_init 4 8348 nl_X5 4 [.null, .null, .null, .null, .int 0] cl_X5 s0_X5 := by
  refine cn_enter (by decide +kernel) rfl rfl (by decide) 0 (fun h0 => [some (.ref h0)]) (fun _ => rfl) (fun K D cI cJ cZ h0 sz Q hV hin hnw hlt hend => ?_)
  refine cn_aload_n hV dX5_init_0 rfl ?_
  refine cn_obj hV (ax_m1 178 rfl rfl) cn_o1 cn_o2 rfl dX5_init_1 ?_
  refine cn_aload_n hV dX5_init_4 rfl ?_
  refine cn_bipush hV (12 : Int32) dX5_init_5 (by decide) ?_
  refine cn_newI hV 12 ca_int dX5_init_7 (by decide) (by decide) (by decide) (by decide) (by decide) (fun q7 => ?_)
  refine cn_put hV hin cf_X5_9 dX5_init_9 0 [(h0, .inr (4, [.ref (q7), .null, .null, .null, .int 0])), (q7, .inl (cI, 12, .inl (fun _ => (0 : Int32))))] rfl rfl rfl (Nat.le_of_ble_eq_true rfl) rfl ?_
  refine cn_aload_n hV dX5_init_12 rfl ?_
  refine cn_sipush hV (4096 : Int32) dX5_init_13 (by decide) ?_
  refine cn_newI hV 4096 ca_int dX5_init_16 (by decide) (by decide) (by decide) (by decide) (by decide) (fun q16 => ?_)
  refine cn_put hV hin cf_X5_15 dX5_init_18 0 [(h0, .inr (4, [.ref (q7), .ref (q16), .null, .null, .int 0])), (q7, .inl (cI, 12, .inl (fun _ => (0 : Int32)))), (q16, .inl (cI, 4096, .inl (fun _ => (0 : Int32))))] rfl rfl rfl (Nat.le_of_ble_eq_true rfl) rfl ?_
  refine cn_aload_n hV dX5_init_21 rfl ?_
  refine cn_sipush hV (4096 : Int32) dX5_init_22 (by decide) ?_
  refine cn_newI hV 4096 ca_int dX5_init_25 (by decide) (by decide) (by decide) (by decide) (by decide) (fun q25 => ?_)
  refine cn_put hV hin cf_X5_18 dX5_init_27 0 [(h0, .inr (4, [.ref (q7), .ref (q16), .ref (q25), .null, .int 0])), (q7, .inl (cI, 12, .inl (fun _ => (0 : Int32)))), (q16, .inl (cI, 4096, .inl (fun _ => (0 : Int32)))), (q25, .inl (cI, 4096, .inl (fun _ => (0 : Int32))))] rfl rfl rfl (Nat.le_of_ble_eq_true rfl) rfl ?_
  refine cn_aload_n hV dX5_init_30 rfl ?_
  refine cn_sipush hV (144 : Int32) dX5_init_31 (by decide) ?_
  refine cn_newI hV 144 ca_int dX5_init_34 (by decide) (by decide) (by decide) (by decide) (by decide) (fun q34 => ?_)
  refine cn_put hV hin cf_X5_21 dX5_init_36 0 [(h0, .inr (4, [.ref (q7), .ref (q16), .ref (q25), .ref (q34), .int 0])), (q7, .inl (cI, 12, .inl (fun _ => (0 : Int32)))), (q16, .inl (cI, 4096, .inl (fun _ => (0 : Int32)))), (q25, .inl (cI, 4096, .inl (fun _ => (0 : Int32)))), (q34, .inl (cI, 144, .inl (fun _ => (0 : Int32))))] rfl rfl rfl (Nat.le_of_ble_eq_true rfl) rfl ?_
  refine cn_aload_n hV dX5_init_39 rfl ?_
  refine cn_iconst hV (0 : Int32) dX5_init_40 (by decide) ?_
  refine cn_put hV hin cf_X5_24 dX5_init_41 0 [(h0, .inr (4, [.ref (q7), .ref (q16), .ref (q25), .ref (q34), .int (0 : Int32)])), (q7, .inl (cI, 12, .inl (fun _ => (0 : Int32)))), (q16, .inl (cI, 4096, .inl (fun _ => (0 : Int32)))), (q25, .inl (cI, 4096, .inl (fun _ => (0 : Int32)))), (q34, .inl (cI, 144, .inl (fun _ => (0 : Int32))))] rfl rfl rfl (Nat.le_of_ble_eq_true rfl) rfl ?_
  exact hend _ _ _ [h0, q7, q16, q25, q34] [0, 1, 2, 3, 4] [(h0, .inr (4, [.ref (q7), .ref (q16), .ref (q25), .ref (q34), .int (0 : Int32)])), (q7, .inl (cI, 12, .inl (fun _ => (0 : Int32)))), (q16, .inl (cI, 4096, .inl (fun _ => (0 : Int32)))), (q25, .inl (cI, 4096, .inl (fun _ => (0 : Int32)))), (q34, .inl (cI, 144, .inl (fun _ => (0 : Int32))))] rfl (by decide) rfl dX5_init_44
def s0_X4 : ax_S := (fun k => (fun _ => (0 : Int32)), fun _ _ => 0)
def cl_X4 : ax_L := [(0, 3, [3, 0, 0, 0]), (1, 12, [])]
def mu_X4_init : ax_Mu := (yX4_init, cX4_init, 1, none, 1, 12)
theorem lc_X4_init : Cond.code mu_X4_init.1 mu_X4_init.2.1 mu_X4_init.2.2.1 mu_X4_init.2.2.2.1 ∈ ax_tb := (ax_m1 200 rfl rfl)
def nl_X4 : cn_N := []
theorem cf_X4_9 : cn_F RX4 9 3 0 true (.array .int) := ⟨RX4, TX4, 4, tyX4, rfl, by decide, in2X4, (ax_m1 202 rfl rfl), tyX4_ok, nmX4, rfl, by decide +kernel, fun _ => rfl⟩
theorem cf_X4_15 : cn_F RX4 15 3 1 false (.int) := ⟨RX4, TX4, 4, tyX4, rfl, by decide, in2X4, (ax_m1 203 rfl rfl), tyX4_ok, nmX4, rfl, by decide +kernel, fun _ => rfl⟩
theorem cf_X4_19 : cn_F RX4 19 3 2 false (.int) := ⟨RX4, TX4, 4, tyX4, rfl, by decide, in2X4, (ax_m1 205 rfl rfl), tyX4_ok, nmX4, rfl, by decide +kernel, fun _ => rfl⟩
theorem cf_X4_22 : cn_F RX4 22 3 3 false (.int) := ⟨RX4, TX4, 4, tyX4, rfl, by decide, in2X4, (ax_m1 207 rfl rfl), tyX4_ok, nmX4, rfl, by decide +kernel, fun _ => rfl⟩
set_option maxHeartbeats 4000000 in
set_option maxRecDepth 10000 in
theorem c_X4_init : cn_M mu_X4_init 1 12 nl_X4 3 [.null, .int 0, .int 0, .int 0] cl_X4 s0_X4 := by
  refine cn_enter (by decide +kernel) rfl rfl (by decide) 0 (fun h0 => [some (.ref h0)]) (fun _ => rfl) (fun K D cI cJ cZ h0 sz Q hV hin hnw hlt hend => ?_)
  refine cn_aload_n hV dX4_init_0 rfl ?_
  refine cn_obj hV (ax_m1 201 rfl rfl) cn_o1 cn_o2 rfl dX4_init_1 ?_
  refine cn_aload_n hV dX4_init_4 rfl ?_
  refine cn_bipush hV (12 : Int32) dX4_init_5 (by decide) ?_
  refine cn_newI hV 12 ca_int dX4_init_7 (by decide) (by decide) (by decide) (by decide) (by decide) (fun q7 => ?_)
  refine cn_put hV hin cf_X4_9 dX4_init_9 0 [(h0, .inr (3, [.ref (q7), .int 0, .int 0, .int 0])), (q7, .inl (cI, 12, .inl (fun _ => (0 : Int32))))] rfl rfl rfl (Nat.le_of_ble_eq_true rfl) rfl ?_
  refine cn_aload_n hV dX4_init_12 rfl ?_
  refine cn_iconst hV (0 : Int32) dX4_init_13 (by decide) ?_
  refine cn_put hV hin cf_X4_15 dX4_init_14 0 [(h0, .inr (3, [.ref (q7), .int (0 : Int32), .int 0, .int 0])), (q7, .inl (cI, 12, .inl (fun _ => (0 : Int32))))] rfl rfl rfl (Nat.le_of_ble_eq_true rfl) rfl ?_
  refine cn_aload_n hV dX4_init_17 rfl ?_
  refine cn_iconst hV (0 : Int32) dX4_init_18 (by decide) ?_
  refine cn_put hV hin cf_X4_19 dX4_init_19 0 [(h0, .inr (3, [.ref (q7), .int (0 : Int32), .int (0 : Int32), .int 0])), (q7, .inl (cI, 12, .inl (fun _ => (0 : Int32))))] rfl rfl rfl (Nat.le_of_ble_eq_true rfl) rfl ?_
  refine cn_aload_n hV dX4_init_22 rfl ?_
  refine cn_iconst hV (0 : Int32) dX4_init_23 (by decide) ?_
  refine cn_put hV hin cf_X4_22 dX4_init_24 0 [(h0, .inr (3, [.ref (q7), .int (0 : Int32), .int (0 : Int32), .int (0 : Int32)])), (q7, .inl (cI, 12, .inl (fun _ => (0 : Int32))))] rfl rfl rfl (Nat.le_of_ble_eq_true rfl) rfl ?_
  exact hend _ _ _ [h0, q7] [0, 1] [(h0, .inr (3, [.ref (q7), .int (0 : Int32), .int (0 : Int32), .int (0 : Int32)])), (q7, .inl (cI, 12, .inl (fun _ => (0 : Int32))))] rfl (by decide) rfl dX4_init_27
def s0_X2 : ax_S := (fun k => (fun _ => (0 : Int32)), fun _ _ => 0)
def cl_X2 : ax_L := [(0, 1, [3, 0, 0, 0, 0, 0, 0]), (1, 40, [])]
def mu_X2_init : ax_Mu := (yX2_init, cX2_init, 1, none, 1, 12)
theorem lc_X2_init : Cond.code mu_X2_init.1 mu_X2_init.2.1 mu_X2_init.2.2.1 mu_X2_init.2.2.2.1 ∈ ax_tb := (ax_m1 222 rfl rfl)
def nl_X2 : cn_N := []
theorem cf_X2_9 : cn_F RX2 9 1 0 true (.array .int) := ⟨RX2, TX2, 7, tyX2, rfl, by decide, in2X2, (ax_m1 224 rfl rfl), tyX2_ok, nmX2, rfl, by decide +kernel, fun _ => rfl⟩
theorem cf_X2_15 : cn_F RX2 15 1 1 false (.int) := ⟨RX2, TX2, 7, tyX2, rfl, by decide, in2X2, (ax_m1 225 rfl rfl), tyX2_ok, nmX2, rfl, by decide +kernel, fun _ => rfl⟩
theorem cf_X2_19 : cn_F RX2 19 1 2 false (.int) := ⟨RX2, TX2, 7, tyX2, rfl, by decide, in2X2, (ax_m1 227 rfl rfl), tyX2_ok, nmX2, rfl, by decide +kernel, fun _ => rfl⟩
theorem cf_X2_22 : cn_F RX2 22 1 3 false (.int) := ⟨RX2, TX2, 7, tyX2, rfl, by decide, in2X2, (ax_m1 229 rfl rfl), tyX2_ok, nmX2, rfl, by decide +kernel, fun _ => rfl⟩
theorem cf_X2_25 : cn_F RX2 25 1 4 false (.int) := ⟨RX2, TX2, 7, tyX2, rfl, by decide, in2X2, (ax_m1 231 rfl rfl), tyX2_ok, nmX2, rfl, by decide +kernel, fun _ => rfl⟩
theorem cf_X2_28 : cn_F RX2 28 1 5 false (.int) := ⟨RX2, TX2, 7, tyX2, rfl, by decide, in2X2, (ax_m1 232 rfl rfl), tyX2_ok, nmX2, rfl, by decide +kernel, fun _ => rfl⟩
theorem cf_X2_31 : cn_F RX2 31 1 6 false (.int) := ⟨RX2, TX2, 7, tyX2, rfl, by decide, in2X2, (ax_m1 233 rfl rfl), tyX2_ok, nmX2, rfl, by decide +kernel, fun _ => rfl⟩
set_option maxHeartbeats 4000000 in
set_option maxRecDepth 10000 in
theorem c_X2_init : cn_M mu_X2_init 1 40 nl_X2 1 [.null, .int 0, .int 0, .int 0, .int 0, .int 0, .int 0] cl_X2 s0_X2 := by
  refine cn_enter (by decide +kernel) rfl rfl (by decide) 0 (fun h0 => [some (.ref h0)]) (fun _ => rfl) (fun K D cI cJ cZ h0 sz Q hV hin hnw hlt hend => ?_)
  refine cn_aload_n hV dX2_init_0 rfl ?_
  refine cn_obj hV (ax_m1 223 rfl rfl) cn_o1 cn_o2 rfl dX2_init_1 ?_
  refine cn_aload_n hV dX2_init_4 rfl ?_
  refine cn_bipush hV (40 : Int32) dX2_init_5 (by decide) ?_
  refine cn_newI hV 40 ca_int dX2_init_7 (by decide) (by decide) (by decide) (by decide) (by decide) (fun q7 => ?_)
  refine cn_put hV hin cf_X2_9 dX2_init_9 0 [(h0, .inr (1, [.ref (q7), .int 0, .int 0, .int 0, .int 0, .int 0, .int 0])), (q7, .inl (cI, 40, .inl (fun _ => (0 : Int32))))] rfl rfl rfl (Nat.le_of_ble_eq_true rfl) rfl ?_
  refine cn_aload_n hV dX2_init_12 rfl ?_
  refine cn_iconst hV (0 : Int32) dX2_init_13 (by decide) ?_
  refine cn_put hV hin cf_X2_15 dX2_init_14 0 [(h0, .inr (1, [.ref (q7), .int (0 : Int32), .int 0, .int 0, .int 0, .int 0, .int 0])), (q7, .inl (cI, 40, .inl (fun _ => (0 : Int32))))] rfl rfl rfl (Nat.le_of_ble_eq_true rfl) rfl ?_
  refine cn_aload_n hV dX2_init_17 rfl ?_
  refine cn_iconst hV (0 : Int32) dX2_init_18 (by decide) ?_
  refine cn_put hV hin cf_X2_19 dX2_init_19 0 [(h0, .inr (1, [.ref (q7), .int (0 : Int32), .int (0 : Int32), .int 0, .int 0, .int 0, .int 0])), (q7, .inl (cI, 40, .inl (fun _ => (0 : Int32))))] rfl rfl rfl (Nat.le_of_ble_eq_true rfl) rfl ?_
  refine cn_aload_n hV dX2_init_22 rfl ?_
  refine cn_iconst hV (0 : Int32) dX2_init_23 (by decide) ?_
  refine cn_put hV hin cf_X2_22 dX2_init_24 0 [(h0, .inr (1, [.ref (q7), .int (0 : Int32), .int (0 : Int32), .int (0 : Int32), .int 0, .int 0, .int 0])), (q7, .inl (cI, 40, .inl (fun _ => (0 : Int32))))] rfl rfl rfl (Nat.le_of_ble_eq_true rfl) rfl ?_
  refine cn_aload_n hV dX2_init_27 rfl ?_
  refine cn_iconst hV (0 : Int32) dX2_init_28 (by decide) ?_
  refine cn_put hV hin cf_X2_25 dX2_init_29 0 [(h0, .inr (1, [.ref (q7), .int (0 : Int32), .int (0 : Int32), .int (0 : Int32), .int (0 : Int32), .int 0, .int 0])), (q7, .inl (cI, 40, .inl (fun _ => (0 : Int32))))] rfl rfl rfl (Nat.le_of_ble_eq_true rfl) rfl ?_
  refine cn_aload_n hV dX2_init_32 rfl ?_
  refine cn_iconst hV (0 : Int32) dX2_init_33 (by decide) ?_
  refine cn_put hV hin cf_X2_28 dX2_init_34 0 [(h0, .inr (1, [.ref (q7), .int (0 : Int32), .int (0 : Int32), .int (0 : Int32), .int (0 : Int32), .int (0 : Int32), .int 0])), (q7, .inl (cI, 40, .inl (fun _ => (0 : Int32))))] rfl rfl rfl (Nat.le_of_ble_eq_true rfl) rfl ?_
  refine cn_aload_n hV dX2_init_37 rfl ?_
  refine cn_iconst hV (0 : Int32) dX2_init_38 (by decide) ?_
  refine cn_put hV hin cf_X2_31 dX2_init_39 0 [(h0, .inr (1, [.ref (q7), .int (0 : Int32), .int (0 : Int32), .int (0 : Int32), .int (0 : Int32), .int (0 : Int32), .int (0 : Int32)])), (q7, .inl (cI, 40, .inl (fun _ => (0 : Int32))))] rfl rfl rfl (Nat.le_of_ble_eq_true rfl) rfl ?_
  exact hend _ _ _ [h0, q7] [0, 1] [(h0, .inr (1, [.ref (q7), .int (0 : Int32), .int (0 : Int32), .int (0 : Int32), .int (0 : Int32), .int (0 : Int32), .int (0 : Int32)])), (q7, .inl (cI, 40, .inl (fun _ => (0 : Int32))))] rfl (by decide) rfl dX2_init_42
def s0_X8 : ax_S := (fun k => if k = 1 then (upd (upd (upd (upd (fun _ => (0 : Int32)) (0 : Int32).toNatClampNeg (-1 : Int32)) (1 : Int32).toNatClampNeg (-1 : Int32)) (2 : Int32).toNatClampNeg (-1 : Int32)) (3 : Int32).toNatClampNeg (-1 : Int32)) else (fun _ => (0 : Int32)), fun _ _ => 0)
def cl_X8 : ax_L := [(0, 7, [3, 4, 5]), (1, 4, []), (1, 4, []), (1, 160, [])]
def mu_X8_init : ax_Mu := (yX8_init, cX8_init, 1, none, 1, 12)
theorem lc_X8_init : Cond.code mu_X8_init.1 mu_X8_init.2.1 mu_X8_init.2.2.1 mu_X8_init.2.2.2.1 ∈ ax_tb := (ax_m2 13 rfl rfl)
def nl_X8 : cn_N := []
theorem cf_X8_9 : cn_F RX8 9 7 0 true (.array .int) := ⟨RX8, TX8, 3, tyX8, rfl, by decide, in2X8, (ax_m2 15 rfl rfl), tyX8_ok, nmX8, rfl, by decide +kernel, fun _ => rfl⟩
theorem cf_X8_15 : cn_F RX8 15 7 1 true (.array .int) := ⟨RX8, TX8, 3, tyX8, rfl, by decide, in2X8, (ax_m2 17 rfl rfl), tyX8_ok, nmX8, rfl, by decide +kernel, fun _ => rfl⟩
theorem cf_X8_18 : cn_F RX8 18 7 2 true (.array .int) := ⟨RX8, TX8, 3, tyX8, rfl, by decide, in2X8, (ax_m2 19 rfl rfl), tyX8_ok, nmX8, rfl, by decide +kernel, fun _ => rfl⟩
set_option maxHeartbeats 4000000 in
set_option maxRecDepth 10000 in
theorem c_X8_init : cn_M mu_X8_init 3 168 nl_X8 7 [.null, .null, .null] cl_X8 s0_X8 := by
  refine cn_enter (by decide +kernel) rfl rfl (by decide) 0 (fun h0 => [some (.ref h0)]) (fun _ => rfl) (fun K D cI cJ cZ h0 sz Q hV hin hnw hlt hend => ?_)
  refine cn_aload_n hV dX8_init_0 rfl ?_
  refine cn_obj hV (ax_m2 14 rfl rfl) cn_o1 cn_o2 rfl dX8_init_1 ?_
  refine cn_aload_n hV dX8_init_4 rfl ?_
  refine cn_iconst hV (4 : Int32) dX8_init_5 (by decide) ?_
  refine cn_newI hV 4 ca_int dX8_init_6 (by decide) (by decide) (by decide) (by decide) (by decide) (fun q6 => ?_)
  refine cn_dup hV dX8_init_8 rfl ?_
  refine cn_iconst hV (0 : Int32) dX8_init_9 (by decide) ?_
  refine cn_iconst hV (-1 : Int32) dX8_init_10 (by decide) ?_
  refine cn_iast hV dX8_init_11 1 [(h0, .inr (7, [.null, .null, .null])), (q6, .inl (cI, 4, .inl (upd (fun _ => (0 : Int32)) (0 : Int32).toNatClampNeg (-1 : Int32))))] rfl (by unfold vp_in; decide) rfl ?_
  refine cn_dup hV dX8_init_12 rfl ?_
  refine cn_iconst hV (1 : Int32) dX8_init_13 (by decide) ?_
  refine cn_iconst hV (-1 : Int32) dX8_init_14 (by decide) ?_
  refine cn_iast hV dX8_init_15 1 [(h0, .inr (7, [.null, .null, .null])), (q6, .inl (cI, 4, .inl (upd (upd (fun _ => (0 : Int32)) (0 : Int32).toNatClampNeg (-1 : Int32)) (1 : Int32).toNatClampNeg (-1 : Int32))))] rfl (by unfold vp_in; decide) rfl ?_
  refine cn_dup hV dX8_init_16 rfl ?_
  refine cn_iconst hV (2 : Int32) dX8_init_17 (by decide) ?_
  refine cn_iconst hV (-1 : Int32) dX8_init_18 (by decide) ?_
  refine cn_iast hV dX8_init_19 1 [(h0, .inr (7, [.null, .null, .null])), (q6, .inl (cI, 4, .inl (upd (upd (upd (fun _ => (0 : Int32)) (0 : Int32).toNatClampNeg (-1 : Int32)) (1 : Int32).toNatClampNeg (-1 : Int32)) (2 : Int32).toNatClampNeg (-1 : Int32))))] rfl (by unfold vp_in; decide) rfl ?_
  refine cn_dup hV dX8_init_20 rfl ?_
  refine cn_iconst hV (3 : Int32) dX8_init_21 (by decide) ?_
  refine cn_iconst hV (-1 : Int32) dX8_init_22 (by decide) ?_
  refine cn_iast hV dX8_init_23 1 [(h0, .inr (7, [.null, .null, .null])), (q6, .inl (cI, 4, .inl (upd (upd (upd (upd (fun _ => (0 : Int32)) (0 : Int32).toNatClampNeg (-1 : Int32)) (1 : Int32).toNatClampNeg (-1 : Int32)) (2 : Int32).toNatClampNeg (-1 : Int32)) (3 : Int32).toNatClampNeg (-1 : Int32))))] rfl (by unfold vp_in; decide) rfl ?_
  refine cn_put hV hin cf_X8_9 dX8_init_24 0 [(h0, .inr (7, [.ref (q6), .null, .null])), (q6, .inl (cI, 4, .inl (upd (upd (upd (upd (fun _ => (0 : Int32)) (0 : Int32).toNatClampNeg (-1 : Int32)) (1 : Int32).toNatClampNeg (-1 : Int32)) (2 : Int32).toNatClampNeg (-1 : Int32)) (3 : Int32).toNatClampNeg (-1 : Int32))))] rfl rfl rfl (Nat.le_of_ble_eq_true rfl) rfl ?_
  refine cn_aload_n hV dX8_init_27 rfl ?_
  refine cn_iconst hV (4 : Int32) dX8_init_28 (by decide) ?_
  refine cn_newI hV 4 ca_int dX8_init_29 (by decide) (by decide) (by decide) (by decide) (by decide) (fun q29 => ?_)
  refine cn_put hV hin cf_X8_15 dX8_init_31 0 [(h0, .inr (7, [.ref (q6), .ref (q29), .null])), (q6, .inl (cI, 4, .inl (upd (upd (upd (upd (fun _ => (0 : Int32)) (0 : Int32).toNatClampNeg (-1 : Int32)) (1 : Int32).toNatClampNeg (-1 : Int32)) (2 : Int32).toNatClampNeg (-1 : Int32)) (3 : Int32).toNatClampNeg (-1 : Int32)))), (q29, .inl (cI, 4, .inl (fun _ => (0 : Int32))))] rfl rfl rfl (Nat.le_of_ble_eq_true rfl) rfl ?_
  refine cn_aload_n hV dX8_init_34 rfl ?_
  refine cn_sipush hV (160 : Int32) dX8_init_35 (by decide) ?_
  refine cn_newI hV 160 ca_int dX8_init_38 (by decide) (by decide) (by decide) (by decide) (by decide) (fun q38 => ?_)
  refine cn_put hV hin cf_X8_18 dX8_init_40 0 [(h0, .inr (7, [.ref (q6), .ref (q29), .ref (q38)])), (q6, .inl (cI, 4, .inl (upd (upd (upd (upd (fun _ => (0 : Int32)) (0 : Int32).toNatClampNeg (-1 : Int32)) (1 : Int32).toNatClampNeg (-1 : Int32)) (2 : Int32).toNatClampNeg (-1 : Int32)) (3 : Int32).toNatClampNeg (-1 : Int32)))), (q29, .inl (cI, 4, .inl (fun _ => (0 : Int32)))), (q38, .inl (cI, 160, .inl (fun _ => (0 : Int32))))] rfl rfl rfl (Nat.le_of_ble_eq_true rfl) rfl ?_
  exact hend _ _ _ [h0, q6, q29, q38] [0, 1, 2, 3] [(h0, .inr (7, [.ref (q6), .ref (q29), .ref (q38)])), (q6, .inl (cI, 4, .inl (upd (upd (upd (upd (fun _ => (0 : Int32)) (0 : Int32).toNatClampNeg (-1 : Int32)) (1 : Int32).toNatClampNeg (-1 : Int32)) (2 : Int32).toNatClampNeg (-1 : Int32)) (3 : Int32).toNatClampNeg (-1 : Int32)))), (q29, .inl (cI, 4, .inl (fun _ => (0 : Int32)))), (q38, .inl (cI, 160, .inl (fun _ => (0 : Int32))))] rfl (by decide) rfl dX8_init_43
def s0_X9 : ax_S := (fun k => if k = 37 then (upd (upd (upd (upd (fun _ => (0 : Int32)) (0 : Int32).toNatClampNeg (-1 : Int32)) (1 : Int32).toNatClampNeg (-1 : Int32)) (2 : Int32).toNatClampNeg (-1 : Int32)) (3 : Int32).toNatClampNeg (-1 : Int32)) else if k = 0 then (fun j => if j = 9 then (-1 : Int32) else 0) else (fun _ => (0 : Int32)), fun _ _ => 0)
def mu_X9_init : ax_Mu := (yX9_init, cX9_init, 1, none, 3, 52)
theorem lc_X9_init : Cond.code mu_X9_init.1 mu_X9_init.2.1 mu_X9_init.2.2.1 mu_X9_init.2.2.2.1 ∈ ax_tb := (ax_m1 21 rfl rfl)
def nl_X9 : cn_N := [(RX9, 9, yX6_init, "WhenItWas"), (RX6, 11, yX7_init, "WhenItWas"), (RX6, 20, yX0_init, "WhenItWas"), (RX9, 28, yX3_init, "WhenItWas"), (RX9, 35, yX5_init, "WhenItWas"), (RX9, 42, yX4_init, "WhenItWas"), (RX9, 49, yX2_init, "WhenItWas"), (RX9, 56, yX8_init, "WhenItWas")]
theorem cf_X9_10 : cn_F RX9 10 8 0 true (.object "WhenItWas$Net") := ⟨RX9, TX9, 12, tyX9, rfl, by decide, in2X9, (ax_m2 27 rfl rfl), tyX9_ok, nmX9, rfl, by decide +kernel, fun _ => rfl⟩
theorem cf_X9_20 : cn_F RX9 20 8 1 true (.object "WhenItWas$Books") := ⟨RX9, TX9, 12, tyX9, rfl, by decide, in2X9, (ax_m2 28 rfl rfl), tyX9_ok, nmX9, rfl, by decide +kernel, fun _ => rfl⟩
theorem cf_X9_25 : cn_F RX9 25 8 2 true (.object "WhenItWas$Rows") := ⟨RX9, TX9, 12, tyX9, rfl, by decide, in2X9, (ax_m2 29 rfl rfl), tyX9_ok, nmX9, rfl, by decide +kernel, fun _ => rfl⟩
theorem cf_X9_29 : cn_F RX9 29 8 3 true (.object "WhenItWas$Doubt") := ⟨RX9, TX9, 12, tyX9, rfl, by decide, in2X9, (ax_m2 30 rfl rfl), tyX9_ok, nmX9, rfl, by decide +kernel, fun _ => rfl⟩
theorem cf_X9_36 : cn_F RX9 36 8 4 true (.object "WhenItWas$Lines") := ⟨RX9, TX9, 12, tyX9, rfl, by decide, in2X9, (ax_m2 31 rfl rfl), tyX9_ok, nmX9, rfl, by decide +kernel, fun _ => rfl⟩
theorem cf_X9_43 : cn_F RX9 43 8 5 true (.object "WhenItWas$Kin") := ⟨RX9, TX9, 12, tyX9, rfl, by decide, in2X9, (ax_m2 32 rfl rfl), tyX9_ok, nmX9, rfl, by decide +kernel, fun _ => rfl⟩
theorem cf_X9_50 : cn_F RX9 50 8 6 true (.object "WhenItWas$Dates") := ⟨RX9, TX9, 12, tyX9, rfl, by decide, in2X9, (ax_m2 33 rfl rfl), tyX9_ok, nmX9, rfl, by decide +kernel, fun _ => rfl⟩
theorem cf_X9_57 : cn_F RX9 57 8 7 true (.object "WhenItWas$Sheets") := ⟨RX9, TX9, 12, tyX9, rfl, by decide, in2X9, (ax_m2 34 rfl rfl), tyX9_ok, nmX9, rfl, by decide +kernel, fun _ => rfl⟩
theorem cf_X9_61 : cn_F RX9 61 8 8 false (.int) := ⟨RX9, TX9, 12, tyX9, rfl, by decide, in2X9, (ax_m2 35 rfl rfl), tyX9_ok, nmX9, rfl, by decide +kernel, fun _ => rfl⟩
theorem cf_X9_65 : cn_F RX9 65 8 9 false (.int) := ⟨RX9, TX9, 12, tyX9, rfl, by decide, in2X9, (ax_m2 36 rfl rfl), tyX9_ok, nmX9, rfl, by decide +kernel, fun _ => rfl⟩
theorem cf_X9_68 : cn_F RX9 68 8 10 false (.int) := ⟨RX9, TX9, 12, tyX9, rfl, by decide, in2X9, (ax_m2 37 rfl rfl), tyX9_ok, nmX9, rfl, by decide +kernel, fun _ => rfl⟩
theorem cf_X9_71 : cn_F RX9 71 8 11 false (.int) := ⟨RX9, TX9, 12, tyX9, rfl, by decide, in2X9, (ax_m2 38 rfl rfl), tyX9_ok, nmX9, rfl, by decide +kernel, fun _ => rfl⟩
set_option maxHeartbeats 4000000 in
set_option maxRecDepth 10000 in
theorem c_X9_init : cn_M mu_X9_init 39 9235 nl_X9 8 [.null, .null, .null, .null, .null, .null, .null, .null, .int 0, .int 0, .int 0, .int 0] cx_C.1 s0_X9 := by
  refine cn_enter (by decide +kernel) rfl rfl (by decide) 0 (fun h0 => [some (.ref h0)]) (fun _ => rfl) (fun K D cI cJ cZ h0 sz Q hV hin hnw hlt hend => ?_)
  refine cn_aload_n hV dX9_init_0 rfl ?_
  refine cn_obj hV (ax_m1 22 rfl rfl) cn_o1 cn_o2 rfl dX9_init_1 ?_
  refine cn_aload_n hV dX9_init_4 rfl ?_
  refine cn_new hV (ci := 5) dX9_init_5 rfl in2X6 tyX6 tyX6_ok (ax_m1 25 rfl rfl) (ax_m1 26 rfl rfl) (ax_m1 2 rfl rfl) [.null, .null, .null, .null, .null, .null, .int 0, .null, .null, .null, .null, .null, .null] (fun j hj => by rcases (show j = 0 ∨ j = 1 ∨ j = 2 ∨ j = 3 ∨ j = 4 ∨ j = 5 ∨ j = 6 ∨ j = 7 ∨ j = 8 ∨ j = 9 ∨ j = 10 ∨ j = 11 ∨ j = 12 by omega) with rfl | rfl | rfl | rfl | rfl | rfl | rfl | rfl | rfl | rfl | rfl | rfl | rfl <;> rfl) (by decide) (by decide) (fun q5 => ?_)
  refine cn_dup hV dX9_init_8 rfl ?_
  refine cn_callN (host := "WhenItWas") hV c_X6_init hnw (by decide +kernel) (by decide +kernel) (ax_m1 28 rfl rfl) (ax_m1 2 rfl rfl) lc_X6_init rfl ⟨by decide +kernel, by decide +kernel, by decide +kernel⟩ rfl rfl (by decide) (by decide) dX9_init_9 rfl (fun ad9 h9 => ?_)
  subst h9
  refine cn_put hV hin cf_X9_10 dX9_init_12 0 [(h0, .inr (8, [.ref ((ad9 0)), .null, .null, .null, .null, .null, .null, .null, .int 0, .int 0, .int 0, .int 0])), ((ad9 0), .inr (5, [.ref (ad9 1), .ref (ad9 2), .ref (ad9 3), .ref (ad9 4), .ref (ad9 5), .ref (ad9 6), .int 0, .ref (ad9 7), .ref (ad9 8), .ref (ad9 9), .ref (ad9 10), .ref (ad9 11), .ref (ad9 12)])), ((ad9 1), .inr (6, [.ref (ad9 13), .ref (ad9 14), .ref (ad9 15), .ref (ad9 16), .ref (ad9 17), .ref (ad9 18), .ref (ad9 19), .int 0])), ((ad9 2), .inr (0, [.ref (ad9 20), .ref (ad9 21), .ref (ad9 22), .int 0])), ((ad9 3), .inl (cI, 40, .inl (fun _ => (0 : Int32)))), ((ad9 4), .inl (cI, 40, .inl (fun _ => (0 : Int32)))), ((ad9 5), .inl (cI, 40, .inl (fun _ => (0 : Int32)))), ((ad9 6), .inl (cI, 40, .inl (fun _ => (0 : Int32)))), ((ad9 7), .inl (cI, 18, .inl (fun _ => (0 : Int32)))), ((ad9 8), .inl (cI, 18, .inl (fun _ => (0 : Int32)))), ((ad9 9), .inl (cI, 18, .inl (fun _ => (0 : Int32)))), ((ad9 10), .inl (cI, 18, .inl (fun _ => (0 : Int32)))), ((ad9 11), .inl (cI, 18, .inl (fun _ => (0 : Int32)))), ((ad9 12), .inl (cI, 18, .inl (fun _ => (0 : Int32)))), ((ad9 13), .inl (cI, 40, .inl (fun _ => (0 : Int32)))), ((ad9 14), .inl (cI, 40, .inl (fun _ => (0 : Int32)))), ((ad9 15), .inl (cI, 40, .inl (fun _ => (0 : Int32)))), ((ad9 16), .inl (cI, 40, .inl (fun _ => (0 : Int32)))), ((ad9 17), .inl (cI, 40, .inl (fun _ => (0 : Int32)))), ((ad9 18), .inl (cI, 40, .inl (fun _ => (0 : Int32)))), ((ad9 19), .inl (cI, 40, .inl (fun _ => (0 : Int32)))), ((ad9 20), .inl (cI, 6, .inl (fun _ => (0 : Int32)))), ((ad9 21), .inl (cI, 6, .inl (fun _ => (0 : Int32)))), ((ad9 22), .inl (cI, 6, .inl (fun _ => (0 : Int32))))] rfl rfl rfl (Nat.le_of_ble_eq_true rfl) rfl ?_
  refine cn_aload_n hV dX9_init_15 rfl ?_
  refine cn_aload_n hV dX9_init_16 rfl ?_
  refine cn_get hV lf_X9_10 dX9_init_17 0 rfl rfl ?_
  refine cn_get hV lf_X9_16 dX9_init_20 1 rfl rfl ?_
  refine cn_put hV hin cf_X9_20 dX9_init_23 0 [(h0, .inr (8, [.ref ((ad9 0)), .ref (ad9 2), .null, .null, .null, .null, .null, .null, .int 0, .int 0, .int 0, .int 0])), ((ad9 0), .inr (5, [.ref (ad9 1), .ref (ad9 2), .ref (ad9 3), .ref (ad9 4), .ref (ad9 5), .ref (ad9 6), .int 0, .ref (ad9 7), .ref (ad9 8), .ref (ad9 9), .ref (ad9 10), .ref (ad9 11), .ref (ad9 12)])), ((ad9 1), .inr (6, [.ref (ad9 13), .ref (ad9 14), .ref (ad9 15), .ref (ad9 16), .ref (ad9 17), .ref (ad9 18), .ref (ad9 19), .int 0])), ((ad9 2), .inr (0, [.ref (ad9 20), .ref (ad9 21), .ref (ad9 22), .int 0])), ((ad9 3), .inl (cI, 40, .inl (fun _ => (0 : Int32)))), ((ad9 4), .inl (cI, 40, .inl (fun _ => (0 : Int32)))), ((ad9 5), .inl (cI, 40, .inl (fun _ => (0 : Int32)))), ((ad9 6), .inl (cI, 40, .inl (fun _ => (0 : Int32)))), ((ad9 7), .inl (cI, 18, .inl (fun _ => (0 : Int32)))), ((ad9 8), .inl (cI, 18, .inl (fun _ => (0 : Int32)))), ((ad9 9), .inl (cI, 18, .inl (fun _ => (0 : Int32)))), ((ad9 10), .inl (cI, 18, .inl (fun _ => (0 : Int32)))), ((ad9 11), .inl (cI, 18, .inl (fun _ => (0 : Int32)))), ((ad9 12), .inl (cI, 18, .inl (fun _ => (0 : Int32)))), ((ad9 13), .inl (cI, 40, .inl (fun _ => (0 : Int32)))), ((ad9 14), .inl (cI, 40, .inl (fun _ => (0 : Int32)))), ((ad9 15), .inl (cI, 40, .inl (fun _ => (0 : Int32)))), ((ad9 16), .inl (cI, 40, .inl (fun _ => (0 : Int32)))), ((ad9 17), .inl (cI, 40, .inl (fun _ => (0 : Int32)))), ((ad9 18), .inl (cI, 40, .inl (fun _ => (0 : Int32)))), ((ad9 19), .inl (cI, 40, .inl (fun _ => (0 : Int32)))), ((ad9 20), .inl (cI, 6, .inl (fun _ => (0 : Int32)))), ((ad9 21), .inl (cI, 6, .inl (fun _ => (0 : Int32)))), ((ad9 22), .inl (cI, 6, .inl (fun _ => (0 : Int32))))] rfl rfl rfl (Nat.le_of_ble_eq_true rfl) rfl ?_
  refine cn_aload_n hV dX9_init_26 rfl ?_
  refine cn_aload_n hV dX9_init_27 rfl ?_
  refine cn_get hV lf_X9_10 dX9_init_28 0 rfl rfl ?_
  refine cn_get hV lf_X9_21 dX9_init_31 1 rfl rfl ?_
  refine cn_put hV hin cf_X9_25 dX9_init_34 0 [(h0, .inr (8, [.ref ((ad9 0)), .ref (ad9 2), .ref (ad9 1), .null, .null, .null, .null, .null, .int 0, .int 0, .int 0, .int 0])), ((ad9 0), .inr (5, [.ref (ad9 1), .ref (ad9 2), .ref (ad9 3), .ref (ad9 4), .ref (ad9 5), .ref (ad9 6), .int 0, .ref (ad9 7), .ref (ad9 8), .ref (ad9 9), .ref (ad9 10), .ref (ad9 11), .ref (ad9 12)])), ((ad9 1), .inr (6, [.ref (ad9 13), .ref (ad9 14), .ref (ad9 15), .ref (ad9 16), .ref (ad9 17), .ref (ad9 18), .ref (ad9 19), .int 0])), ((ad9 2), .inr (0, [.ref (ad9 20), .ref (ad9 21), .ref (ad9 22), .int 0])), ((ad9 3), .inl (cI, 40, .inl (fun _ => (0 : Int32)))), ((ad9 4), .inl (cI, 40, .inl (fun _ => (0 : Int32)))), ((ad9 5), .inl (cI, 40, .inl (fun _ => (0 : Int32)))), ((ad9 6), .inl (cI, 40, .inl (fun _ => (0 : Int32)))), ((ad9 7), .inl (cI, 18, .inl (fun _ => (0 : Int32)))), ((ad9 8), .inl (cI, 18, .inl (fun _ => (0 : Int32)))), ((ad9 9), .inl (cI, 18, .inl (fun _ => (0 : Int32)))), ((ad9 10), .inl (cI, 18, .inl (fun _ => (0 : Int32)))), ((ad9 11), .inl (cI, 18, .inl (fun _ => (0 : Int32)))), ((ad9 12), .inl (cI, 18, .inl (fun _ => (0 : Int32)))), ((ad9 13), .inl (cI, 40, .inl (fun _ => (0 : Int32)))), ((ad9 14), .inl (cI, 40, .inl (fun _ => (0 : Int32)))), ((ad9 15), .inl (cI, 40, .inl (fun _ => (0 : Int32)))), ((ad9 16), .inl (cI, 40, .inl (fun _ => (0 : Int32)))), ((ad9 17), .inl (cI, 40, .inl (fun _ => (0 : Int32)))), ((ad9 18), .inl (cI, 40, .inl (fun _ => (0 : Int32)))), ((ad9 19), .inl (cI, 40, .inl (fun _ => (0 : Int32)))), ((ad9 20), .inl (cI, 6, .inl (fun _ => (0 : Int32)))), ((ad9 21), .inl (cI, 6, .inl (fun _ => (0 : Int32)))), ((ad9 22), .inl (cI, 6, .inl (fun _ => (0 : Int32))))] rfl rfl rfl (Nat.le_of_ble_eq_true rfl) rfl ?_
  refine cn_aload_n hV dX9_init_37 rfl ?_
  refine cn_new hV (ci := 2) dX9_init_38 rfl in2X3 tyX3 tyX3_ok (ax_m1 149 rfl rfl) (ax_m1 150 rfl rfl) (ax_m1 5 rfl rfl) [.null, .int 0, .null, .long 0, .int 0] (fun j hj => by rcases (show j = 0 ∨ j = 1 ∨ j = 2 ∨ j = 3 ∨ j = 4 by omega) with rfl | rfl | rfl | rfl | rfl <;> rfl) (by decide) (by decide) (fun q38 => ?_)
  refine cn_dup hV dX9_init_41 rfl ?_
  refine cn_callN (host := "WhenItWas") hV c_X3_init hnw (by decide +kernel) (by decide +kernel) (ax_m1 152 rfl rfl) (ax_m1 5 rfl rfl) lc_X3_init rfl ⟨by decide +kernel, by decide +kernel, by decide +kernel⟩ rfl rfl (by decide) (by decide) dX9_init_42 rfl (fun ad42 h42 => ?_)
  subst h42
  refine cn_put hV hin cf_X9_29 dX9_init_45 0 [(h0, .inr (8, [.ref ((ad9 0)), .ref (ad9 2), .ref (ad9 1), .ref ((ad42 0)), .null, .null, .null, .null, .int 0, .int 0, .int 0, .int 0])), ((ad9 0), .inr (5, [.ref (ad9 1), .ref (ad9 2), .ref (ad9 3), .ref (ad9 4), .ref (ad9 5), .ref (ad9 6), .int 0, .ref (ad9 7), .ref (ad9 8), .ref (ad9 9), .ref (ad9 10), .ref (ad9 11), .ref (ad9 12)])), ((ad9 1), .inr (6, [.ref (ad9 13), .ref (ad9 14), .ref (ad9 15), .ref (ad9 16), .ref (ad9 17), .ref (ad9 18), .ref (ad9 19), .int 0])), ((ad9 2), .inr (0, [.ref (ad9 20), .ref (ad9 21), .ref (ad9 22), .int 0])), ((ad9 3), .inl (cI, 40, .inl (fun _ => (0 : Int32)))), ((ad9 4), .inl (cI, 40, .inl (fun _ => (0 : Int32)))), ((ad9 5), .inl (cI, 40, .inl (fun _ => (0 : Int32)))), ((ad9 6), .inl (cI, 40, .inl (fun _ => (0 : Int32)))), ((ad9 7), .inl (cI, 18, .inl (fun _ => (0 : Int32)))), ((ad9 8), .inl (cI, 18, .inl (fun _ => (0 : Int32)))), ((ad9 9), .inl (cI, 18, .inl (fun _ => (0 : Int32)))), ((ad9 10), .inl (cI, 18, .inl (fun _ => (0 : Int32)))), ((ad9 11), .inl (cI, 18, .inl (fun _ => (0 : Int32)))), ((ad9 12), .inl (cI, 18, .inl (fun _ => (0 : Int32)))), ((ad9 13), .inl (cI, 40, .inl (fun _ => (0 : Int32)))), ((ad9 14), .inl (cI, 40, .inl (fun _ => (0 : Int32)))), ((ad9 15), .inl (cI, 40, .inl (fun _ => (0 : Int32)))), ((ad9 16), .inl (cI, 40, .inl (fun _ => (0 : Int32)))), ((ad9 17), .inl (cI, 40, .inl (fun _ => (0 : Int32)))), ((ad9 18), .inl (cI, 40, .inl (fun _ => (0 : Int32)))), ((ad9 19), .inl (cI, 40, .inl (fun _ => (0 : Int32)))), ((ad9 20), .inl (cI, 6, .inl (fun _ => (0 : Int32)))), ((ad9 21), .inl (cI, 6, .inl (fun _ => (0 : Int32)))), ((ad9 22), .inl (cI, 6, .inl (fun _ => (0 : Int32)))), ((ad42 0), .inr (2, [.ref (ad42 1), .int 0, .ref (ad42 2), .long 0, .int 0])), ((ad42 1), .inl (cI, 12, .inl (fun _ => (0 : Int32)))), ((ad42 2), .inl (cI, 40, .inl (fun _ => (0 : Int32))))] rfl rfl rfl (Nat.le_of_ble_eq_true rfl) rfl ?_
  refine cn_aload_n hV dX9_init_48 rfl ?_
  refine cn_new hV (ci := 4) dX9_init_49 rfl in2X5 tyX5 tyX5_ok (ax_m1 173 rfl rfl) (ax_m1 174 rfl rfl) (ax_m1 6 rfl rfl) [.null, .null, .null, .null, .int 0] (fun j hj => by rcases (show j = 0 ∨ j = 1 ∨ j = 2 ∨ j = 3 ∨ j = 4 by omega) with rfl | rfl | rfl | rfl | rfl <;> rfl) (by decide) (by decide) (fun q49 => ?_)
  refine cn_dup hV dX9_init_52 rfl ?_
  refine cn_callN (host := "WhenItWas") hV c_X5_init hnw (by decide +kernel) (by decide +kernel) (ax_m1 176 rfl rfl) (ax_m1 6 rfl rfl) lc_X5_init rfl ⟨by decide +kernel, by decide +kernel, by decide +kernel⟩ rfl rfl (by decide) (by decide) dX9_init_53 rfl (fun ad53 h53 => ?_)
  subst h53
  refine cn_put hV hin cf_X9_36 dX9_init_56 0 [(h0, .inr (8, [.ref ((ad9 0)), .ref (ad9 2), .ref (ad9 1), .ref ((ad42 0)), .ref ((ad53 0)), .null, .null, .null, .int 0, .int 0, .int 0, .int 0])), ((ad9 0), .inr (5, [.ref (ad9 1), .ref (ad9 2), .ref (ad9 3), .ref (ad9 4), .ref (ad9 5), .ref (ad9 6), .int 0, .ref (ad9 7), .ref (ad9 8), .ref (ad9 9), .ref (ad9 10), .ref (ad9 11), .ref (ad9 12)])), ((ad9 1), .inr (6, [.ref (ad9 13), .ref (ad9 14), .ref (ad9 15), .ref (ad9 16), .ref (ad9 17), .ref (ad9 18), .ref (ad9 19), .int 0])), ((ad9 2), .inr (0, [.ref (ad9 20), .ref (ad9 21), .ref (ad9 22), .int 0])), ((ad9 3), .inl (cI, 40, .inl (fun _ => (0 : Int32)))), ((ad9 4), .inl (cI, 40, .inl (fun _ => (0 : Int32)))), ((ad9 5), .inl (cI, 40, .inl (fun _ => (0 : Int32)))), ((ad9 6), .inl (cI, 40, .inl (fun _ => (0 : Int32)))), ((ad9 7), .inl (cI, 18, .inl (fun _ => (0 : Int32)))), ((ad9 8), .inl (cI, 18, .inl (fun _ => (0 : Int32)))), ((ad9 9), .inl (cI, 18, .inl (fun _ => (0 : Int32)))), ((ad9 10), .inl (cI, 18, .inl (fun _ => (0 : Int32)))), ((ad9 11), .inl (cI, 18, .inl (fun _ => (0 : Int32)))), ((ad9 12), .inl (cI, 18, .inl (fun _ => (0 : Int32)))), ((ad9 13), .inl (cI, 40, .inl (fun _ => (0 : Int32)))), ((ad9 14), .inl (cI, 40, .inl (fun _ => (0 : Int32)))), ((ad9 15), .inl (cI, 40, .inl (fun _ => (0 : Int32)))), ((ad9 16), .inl (cI, 40, .inl (fun _ => (0 : Int32)))), ((ad9 17), .inl (cI, 40, .inl (fun _ => (0 : Int32)))), ((ad9 18), .inl (cI, 40, .inl (fun _ => (0 : Int32)))), ((ad9 19), .inl (cI, 40, .inl (fun _ => (0 : Int32)))), ((ad9 20), .inl (cI, 6, .inl (fun _ => (0 : Int32)))), ((ad9 21), .inl (cI, 6, .inl (fun _ => (0 : Int32)))), ((ad9 22), .inl (cI, 6, .inl (fun _ => (0 : Int32)))), ((ad42 0), .inr (2, [.ref (ad42 1), .int 0, .ref (ad42 2), .long 0, .int 0])), ((ad42 1), .inl (cI, 12, .inl (fun _ => (0 : Int32)))), ((ad42 2), .inl (cI, 40, .inl (fun _ => (0 : Int32)))), ((ad53 0), .inr (4, [.ref (ad53 1), .ref (ad53 2), .ref (ad53 3), .ref (ad53 4), .int 0])), ((ad53 1), .inl (cI, 12, .inl (fun _ => (0 : Int32)))), ((ad53 2), .inl (cI, 4096, .inl (fun _ => (0 : Int32)))), ((ad53 3), .inl (cI, 4096, .inl (fun _ => (0 : Int32)))), ((ad53 4), .inl (cI, 144, .inl (fun _ => (0 : Int32))))] rfl rfl rfl (Nat.le_of_ble_eq_true rfl) rfl ?_
  refine cn_aload_n hV dX9_init_59 rfl ?_
  refine cn_new hV (ci := 3) dX9_init_60 rfl in2X4 tyX4 tyX4_ok (ax_m1 196 rfl rfl) (ax_m1 197 rfl rfl) (ax_m1 7 rfl rfl) [.null, .int 0, .int 0, .int 0] (fun j hj => by rcases (show j = 0 ∨ j = 1 ∨ j = 2 ∨ j = 3 by omega) with rfl | rfl | rfl | rfl <;> rfl) (by decide) (by decide) (fun q60 => ?_)
  refine cn_dup hV dX9_init_63 rfl ?_
  refine cn_callN (host := "WhenItWas") hV c_X4_init hnw (by decide +kernel) (by decide +kernel) (ax_m1 199 rfl rfl) (ax_m1 7 rfl rfl) lc_X4_init rfl ⟨by decide +kernel, by decide +kernel, by decide +kernel⟩ rfl rfl (by decide) (by decide) dX9_init_64 rfl (fun ad64 h64 => ?_)
  subst h64
  refine cn_put hV hin cf_X9_43 dX9_init_67 0 [(h0, .inr (8, [.ref ((ad9 0)), .ref (ad9 2), .ref (ad9 1), .ref ((ad42 0)), .ref ((ad53 0)), .ref ((ad64 0)), .null, .null, .int 0, .int 0, .int 0, .int 0])), ((ad9 0), .inr (5, [.ref (ad9 1), .ref (ad9 2), .ref (ad9 3), .ref (ad9 4), .ref (ad9 5), .ref (ad9 6), .int 0, .ref (ad9 7), .ref (ad9 8), .ref (ad9 9), .ref (ad9 10), .ref (ad9 11), .ref (ad9 12)])), ((ad9 1), .inr (6, [.ref (ad9 13), .ref (ad9 14), .ref (ad9 15), .ref (ad9 16), .ref (ad9 17), .ref (ad9 18), .ref (ad9 19), .int 0])), ((ad9 2), .inr (0, [.ref (ad9 20), .ref (ad9 21), .ref (ad9 22), .int 0])), ((ad9 3), .inl (cI, 40, .inl (fun _ => (0 : Int32)))), ((ad9 4), .inl (cI, 40, .inl (fun _ => (0 : Int32)))), ((ad9 5), .inl (cI, 40, .inl (fun _ => (0 : Int32)))), ((ad9 6), .inl (cI, 40, .inl (fun _ => (0 : Int32)))), ((ad9 7), .inl (cI, 18, .inl (fun _ => (0 : Int32)))), ((ad9 8), .inl (cI, 18, .inl (fun _ => (0 : Int32)))), ((ad9 9), .inl (cI, 18, .inl (fun _ => (0 : Int32)))), ((ad9 10), .inl (cI, 18, .inl (fun _ => (0 : Int32)))), ((ad9 11), .inl (cI, 18, .inl (fun _ => (0 : Int32)))), ((ad9 12), .inl (cI, 18, .inl (fun _ => (0 : Int32)))), ((ad9 13), .inl (cI, 40, .inl (fun _ => (0 : Int32)))), ((ad9 14), .inl (cI, 40, .inl (fun _ => (0 : Int32)))), ((ad9 15), .inl (cI, 40, .inl (fun _ => (0 : Int32)))), ((ad9 16), .inl (cI, 40, .inl (fun _ => (0 : Int32)))), ((ad9 17), .inl (cI, 40, .inl (fun _ => (0 : Int32)))), ((ad9 18), .inl (cI, 40, .inl (fun _ => (0 : Int32)))), ((ad9 19), .inl (cI, 40, .inl (fun _ => (0 : Int32)))), ((ad9 20), .inl (cI, 6, .inl (fun _ => (0 : Int32)))), ((ad9 21), .inl (cI, 6, .inl (fun _ => (0 : Int32)))), ((ad9 22), .inl (cI, 6, .inl (fun _ => (0 : Int32)))), ((ad42 0), .inr (2, [.ref (ad42 1), .int 0, .ref (ad42 2), .long 0, .int 0])), ((ad42 1), .inl (cI, 12, .inl (fun _ => (0 : Int32)))), ((ad42 2), .inl (cI, 40, .inl (fun _ => (0 : Int32)))), ((ad53 0), .inr (4, [.ref (ad53 1), .ref (ad53 2), .ref (ad53 3), .ref (ad53 4), .int 0])), ((ad53 1), .inl (cI, 12, .inl (fun _ => (0 : Int32)))), ((ad53 2), .inl (cI, 4096, .inl (fun _ => (0 : Int32)))), ((ad53 3), .inl (cI, 4096, .inl (fun _ => (0 : Int32)))), ((ad53 4), .inl (cI, 144, .inl (fun _ => (0 : Int32)))), ((ad64 0), .inr (3, [.ref (ad64 1), .int 0, .int 0, .int 0])), ((ad64 1), .inl (cI, 12, .inl (fun _ => (0 : Int32))))] rfl rfl rfl (Nat.le_of_ble_eq_true rfl) rfl ?_
  refine cn_aload_n hV dX9_init_70 rfl ?_
  refine cn_new hV (ci := 1) dX9_init_71 rfl in2X2 tyX2 tyX2_ok (ax_m1 218 rfl rfl) (ax_m1 219 rfl rfl) (ax_m1 8 rfl rfl) [.null, .int 0, .int 0, .int 0, .int 0, .int 0, .int 0] (fun j hj => by rcases (show j = 0 ∨ j = 1 ∨ j = 2 ∨ j = 3 ∨ j = 4 ∨ j = 5 ∨ j = 6 by omega) with rfl | rfl | rfl | rfl | rfl | rfl | rfl <;> rfl) (by decide) (by decide) (fun q71 => ?_)
  refine cn_dup hV dX9_init_74 rfl ?_
  refine cn_callN (host := "WhenItWas") hV c_X2_init hnw (by decide +kernel) (by decide +kernel) (ax_m1 221 rfl rfl) (ax_m1 8 rfl rfl) lc_X2_init rfl ⟨by decide +kernel, by decide +kernel, by decide +kernel⟩ rfl rfl (by decide) (by decide) dX9_init_75 rfl (fun ad75 h75 => ?_)
  subst h75
  refine cn_put hV hin cf_X9_50 dX9_init_78 0 [(h0, .inr (8, [.ref ((ad9 0)), .ref (ad9 2), .ref (ad9 1), .ref ((ad42 0)), .ref ((ad53 0)), .ref ((ad64 0)), .ref ((ad75 0)), .null, .int 0, .int 0, .int 0, .int 0])), ((ad9 0), .inr (5, [.ref (ad9 1), .ref (ad9 2), .ref (ad9 3), .ref (ad9 4), .ref (ad9 5), .ref (ad9 6), .int 0, .ref (ad9 7), .ref (ad9 8), .ref (ad9 9), .ref (ad9 10), .ref (ad9 11), .ref (ad9 12)])), ((ad9 1), .inr (6, [.ref (ad9 13), .ref (ad9 14), .ref (ad9 15), .ref (ad9 16), .ref (ad9 17), .ref (ad9 18), .ref (ad9 19), .int 0])), ((ad9 2), .inr (0, [.ref (ad9 20), .ref (ad9 21), .ref (ad9 22), .int 0])), ((ad9 3), .inl (cI, 40, .inl (fun _ => (0 : Int32)))), ((ad9 4), .inl (cI, 40, .inl (fun _ => (0 : Int32)))), ((ad9 5), .inl (cI, 40, .inl (fun _ => (0 : Int32)))), ((ad9 6), .inl (cI, 40, .inl (fun _ => (0 : Int32)))), ((ad9 7), .inl (cI, 18, .inl (fun _ => (0 : Int32)))), ((ad9 8), .inl (cI, 18, .inl (fun _ => (0 : Int32)))), ((ad9 9), .inl (cI, 18, .inl (fun _ => (0 : Int32)))), ((ad9 10), .inl (cI, 18, .inl (fun _ => (0 : Int32)))), ((ad9 11), .inl (cI, 18, .inl (fun _ => (0 : Int32)))), ((ad9 12), .inl (cI, 18, .inl (fun _ => (0 : Int32)))), ((ad9 13), .inl (cI, 40, .inl (fun _ => (0 : Int32)))), ((ad9 14), .inl (cI, 40, .inl (fun _ => (0 : Int32)))), ((ad9 15), .inl (cI, 40, .inl (fun _ => (0 : Int32)))), ((ad9 16), .inl (cI, 40, .inl (fun _ => (0 : Int32)))), ((ad9 17), .inl (cI, 40, .inl (fun _ => (0 : Int32)))), ((ad9 18), .inl (cI, 40, .inl (fun _ => (0 : Int32)))), ((ad9 19), .inl (cI, 40, .inl (fun _ => (0 : Int32)))), ((ad9 20), .inl (cI, 6, .inl (fun _ => (0 : Int32)))), ((ad9 21), .inl (cI, 6, .inl (fun _ => (0 : Int32)))), ((ad9 22), .inl (cI, 6, .inl (fun _ => (0 : Int32)))), ((ad42 0), .inr (2, [.ref (ad42 1), .int 0, .ref (ad42 2), .long 0, .int 0])), ((ad42 1), .inl (cI, 12, .inl (fun _ => (0 : Int32)))), ((ad42 2), .inl (cI, 40, .inl (fun _ => (0 : Int32)))), ((ad53 0), .inr (4, [.ref (ad53 1), .ref (ad53 2), .ref (ad53 3), .ref (ad53 4), .int 0])), ((ad53 1), .inl (cI, 12, .inl (fun _ => (0 : Int32)))), ((ad53 2), .inl (cI, 4096, .inl (fun _ => (0 : Int32)))), ((ad53 3), .inl (cI, 4096, .inl (fun _ => (0 : Int32)))), ((ad53 4), .inl (cI, 144, .inl (fun _ => (0 : Int32)))), ((ad64 0), .inr (3, [.ref (ad64 1), .int 0, .int 0, .int 0])), ((ad64 1), .inl (cI, 12, .inl (fun _ => (0 : Int32)))), ((ad75 0), .inr (1, [.ref (ad75 1), .int 0, .int 0, .int 0, .int 0, .int 0, .int 0])), ((ad75 1), .inl (cI, 40, .inl (fun _ => (0 : Int32))))] rfl rfl rfl (Nat.le_of_ble_eq_true rfl) rfl ?_
  refine cn_aload_n hV dX9_init_81 rfl ?_
  refine cn_new hV (ci := 7) dX9_init_82 rfl in2X8 tyX8 tyX8_ok (ax_m2 9 rfl rfl) (ax_m2 10 rfl rfl) (ax_m1 9 rfl rfl) [.null, .null, .null] (fun j hj => by rcases (show j = 0 ∨ j = 1 ∨ j = 2 by omega) with rfl | rfl | rfl <;> rfl) (by decide) (by decide) (fun q82 => ?_)
  refine cn_dup hV dX9_init_85 rfl ?_
  refine cn_callN (host := "WhenItWas") hV c_X8_init hnw (by decide +kernel) (by decide +kernel) (ax_m2 12 rfl rfl) (ax_m1 9 rfl rfl) lc_X8_init rfl ⟨by decide +kernel, by decide +kernel, by decide +kernel⟩ rfl rfl (by decide) (by decide) dX9_init_86 rfl (fun ad86 h86 => ?_)
  subst h86
  refine cn_put hV hin cf_X9_57 dX9_init_89 0 [(h0, .inr (8, [.ref ((ad9 0)), .ref (ad9 2), .ref (ad9 1), .ref ((ad42 0)), .ref ((ad53 0)), .ref ((ad64 0)), .ref ((ad75 0)), .ref ((ad86 0)), .int 0, .int 0, .int 0, .int 0])), ((ad9 0), .inr (5, [.ref (ad9 1), .ref (ad9 2), .ref (ad9 3), .ref (ad9 4), .ref (ad9 5), .ref (ad9 6), .int 0, .ref (ad9 7), .ref (ad9 8), .ref (ad9 9), .ref (ad9 10), .ref (ad9 11), .ref (ad9 12)])), ((ad9 1), .inr (6, [.ref (ad9 13), .ref (ad9 14), .ref (ad9 15), .ref (ad9 16), .ref (ad9 17), .ref (ad9 18), .ref (ad9 19), .int 0])), ((ad9 2), .inr (0, [.ref (ad9 20), .ref (ad9 21), .ref (ad9 22), .int 0])), ((ad9 3), .inl (cI, 40, .inl (fun _ => (0 : Int32)))), ((ad9 4), .inl (cI, 40, .inl (fun _ => (0 : Int32)))), ((ad9 5), .inl (cI, 40, .inl (fun _ => (0 : Int32)))), ((ad9 6), .inl (cI, 40, .inl (fun _ => (0 : Int32)))), ((ad9 7), .inl (cI, 18, .inl (fun _ => (0 : Int32)))), ((ad9 8), .inl (cI, 18, .inl (fun _ => (0 : Int32)))), ((ad9 9), .inl (cI, 18, .inl (fun _ => (0 : Int32)))), ((ad9 10), .inl (cI, 18, .inl (fun _ => (0 : Int32)))), ((ad9 11), .inl (cI, 18, .inl (fun _ => (0 : Int32)))), ((ad9 12), .inl (cI, 18, .inl (fun _ => (0 : Int32)))), ((ad9 13), .inl (cI, 40, .inl (fun _ => (0 : Int32)))), ((ad9 14), .inl (cI, 40, .inl (fun _ => (0 : Int32)))), ((ad9 15), .inl (cI, 40, .inl (fun _ => (0 : Int32)))), ((ad9 16), .inl (cI, 40, .inl (fun _ => (0 : Int32)))), ((ad9 17), .inl (cI, 40, .inl (fun _ => (0 : Int32)))), ((ad9 18), .inl (cI, 40, .inl (fun _ => (0 : Int32)))), ((ad9 19), .inl (cI, 40, .inl (fun _ => (0 : Int32)))), ((ad9 20), .inl (cI, 6, .inl (fun _ => (0 : Int32)))), ((ad9 21), .inl (cI, 6, .inl (fun _ => (0 : Int32)))), ((ad9 22), .inl (cI, 6, .inl (fun _ => (0 : Int32)))), ((ad42 0), .inr (2, [.ref (ad42 1), .int 0, .ref (ad42 2), .long 0, .int 0])), ((ad42 1), .inl (cI, 12, .inl (fun _ => (0 : Int32)))), ((ad42 2), .inl (cI, 40, .inl (fun _ => (0 : Int32)))), ((ad53 0), .inr (4, [.ref (ad53 1), .ref (ad53 2), .ref (ad53 3), .ref (ad53 4), .int 0])), ((ad53 1), .inl (cI, 12, .inl (fun _ => (0 : Int32)))), ((ad53 2), .inl (cI, 4096, .inl (fun _ => (0 : Int32)))), ((ad53 3), .inl (cI, 4096, .inl (fun _ => (0 : Int32)))), ((ad53 4), .inl (cI, 144, .inl (fun _ => (0 : Int32)))), ((ad64 0), .inr (3, [.ref (ad64 1), .int 0, .int 0, .int 0])), ((ad64 1), .inl (cI, 12, .inl (fun _ => (0 : Int32)))), ((ad75 0), .inr (1, [.ref (ad75 1), .int 0, .int 0, .int 0, .int 0, .int 0, .int 0])), ((ad75 1), .inl (cI, 40, .inl (fun _ => (0 : Int32)))), ((ad86 0), .inr (7, [.ref (ad86 1), .ref (ad86 2), .ref (ad86 3)])), ((ad86 1), .inl (cI, 4, .inl (upd (upd (upd (upd (fun _ => (0 : Int32)) (0 : Int32).toNatClampNeg (-1 : Int32)) (1 : Int32).toNatClampNeg (-1 : Int32)) (2 : Int32).toNatClampNeg (-1 : Int32)) (3 : Int32).toNatClampNeg (-1 : Int32)))), ((ad86 2), .inl (cI, 4, .inl (fun _ => (0 : Int32)))), ((ad86 3), .inl (cI, 160, .inl (fun _ => (0 : Int32))))] rfl rfl rfl (Nat.le_of_ble_eq_true rfl) rfl ?_
  refine cn_aload_n hV dX9_init_92 rfl ?_
  refine cn_iconst hV (0 : Int32) dX9_init_93 (by decide) ?_
  refine cn_put hV hin cf_X9_61 dX9_init_94 0 [(h0, .inr (8, [.ref ((ad9 0)), .ref (ad9 2), .ref (ad9 1), .ref ((ad42 0)), .ref ((ad53 0)), .ref ((ad64 0)), .ref ((ad75 0)), .ref ((ad86 0)), .int (0 : Int32), .int 0, .int 0, .int 0])), ((ad9 0), .inr (5, [.ref (ad9 1), .ref (ad9 2), .ref (ad9 3), .ref (ad9 4), .ref (ad9 5), .ref (ad9 6), .int 0, .ref (ad9 7), .ref (ad9 8), .ref (ad9 9), .ref (ad9 10), .ref (ad9 11), .ref (ad9 12)])), ((ad9 1), .inr (6, [.ref (ad9 13), .ref (ad9 14), .ref (ad9 15), .ref (ad9 16), .ref (ad9 17), .ref (ad9 18), .ref (ad9 19), .int 0])), ((ad9 2), .inr (0, [.ref (ad9 20), .ref (ad9 21), .ref (ad9 22), .int 0])), ((ad9 3), .inl (cI, 40, .inl (fun _ => (0 : Int32)))), ((ad9 4), .inl (cI, 40, .inl (fun _ => (0 : Int32)))), ((ad9 5), .inl (cI, 40, .inl (fun _ => (0 : Int32)))), ((ad9 6), .inl (cI, 40, .inl (fun _ => (0 : Int32)))), ((ad9 7), .inl (cI, 18, .inl (fun _ => (0 : Int32)))), ((ad9 8), .inl (cI, 18, .inl (fun _ => (0 : Int32)))), ((ad9 9), .inl (cI, 18, .inl (fun _ => (0 : Int32)))), ((ad9 10), .inl (cI, 18, .inl (fun _ => (0 : Int32)))), ((ad9 11), .inl (cI, 18, .inl (fun _ => (0 : Int32)))), ((ad9 12), .inl (cI, 18, .inl (fun _ => (0 : Int32)))), ((ad9 13), .inl (cI, 40, .inl (fun _ => (0 : Int32)))), ((ad9 14), .inl (cI, 40, .inl (fun _ => (0 : Int32)))), ((ad9 15), .inl (cI, 40, .inl (fun _ => (0 : Int32)))), ((ad9 16), .inl (cI, 40, .inl (fun _ => (0 : Int32)))), ((ad9 17), .inl (cI, 40, .inl (fun _ => (0 : Int32)))), ((ad9 18), .inl (cI, 40, .inl (fun _ => (0 : Int32)))), ((ad9 19), .inl (cI, 40, .inl (fun _ => (0 : Int32)))), ((ad9 20), .inl (cI, 6, .inl (fun _ => (0 : Int32)))), ((ad9 21), .inl (cI, 6, .inl (fun _ => (0 : Int32)))), ((ad9 22), .inl (cI, 6, .inl (fun _ => (0 : Int32)))), ((ad42 0), .inr (2, [.ref (ad42 1), .int 0, .ref (ad42 2), .long 0, .int 0])), ((ad42 1), .inl (cI, 12, .inl (fun _ => (0 : Int32)))), ((ad42 2), .inl (cI, 40, .inl (fun _ => (0 : Int32)))), ((ad53 0), .inr (4, [.ref (ad53 1), .ref (ad53 2), .ref (ad53 3), .ref (ad53 4), .int 0])), ((ad53 1), .inl (cI, 12, .inl (fun _ => (0 : Int32)))), ((ad53 2), .inl (cI, 4096, .inl (fun _ => (0 : Int32)))), ((ad53 3), .inl (cI, 4096, .inl (fun _ => (0 : Int32)))), ((ad53 4), .inl (cI, 144, .inl (fun _ => (0 : Int32)))), ((ad64 0), .inr (3, [.ref (ad64 1), .int 0, .int 0, .int 0])), ((ad64 1), .inl (cI, 12, .inl (fun _ => (0 : Int32)))), ((ad75 0), .inr (1, [.ref (ad75 1), .int 0, .int 0, .int 0, .int 0, .int 0, .int 0])), ((ad75 1), .inl (cI, 40, .inl (fun _ => (0 : Int32)))), ((ad86 0), .inr (7, [.ref (ad86 1), .ref (ad86 2), .ref (ad86 3)])), ((ad86 1), .inl (cI, 4, .inl (upd (upd (upd (upd (fun _ => (0 : Int32)) (0 : Int32).toNatClampNeg (-1 : Int32)) (1 : Int32).toNatClampNeg (-1 : Int32)) (2 : Int32).toNatClampNeg (-1 : Int32)) (3 : Int32).toNatClampNeg (-1 : Int32)))), ((ad86 2), .inl (cI, 4, .inl (fun _ => (0 : Int32)))), ((ad86 3), .inl (cI, 160, .inl (fun _ => (0 : Int32))))] rfl rfl rfl (Nat.le_of_ble_eq_true rfl) rfl ?_
  refine cn_aload_n hV dX9_init_97 rfl ?_
  refine cn_iconst hV (-1 : Int32) dX9_init_98 (by decide) ?_
  refine cn_put hV hin cf_X9_65 dX9_init_99 0 [(h0, .inr (8, [.ref ((ad9 0)), .ref (ad9 2), .ref (ad9 1), .ref ((ad42 0)), .ref ((ad53 0)), .ref ((ad64 0)), .ref ((ad75 0)), .ref ((ad86 0)), .int (0 : Int32), .int (-1 : Int32), .int 0, .int 0])), ((ad9 0), .inr (5, [.ref (ad9 1), .ref (ad9 2), .ref (ad9 3), .ref (ad9 4), .ref (ad9 5), .ref (ad9 6), .int 0, .ref (ad9 7), .ref (ad9 8), .ref (ad9 9), .ref (ad9 10), .ref (ad9 11), .ref (ad9 12)])), ((ad9 1), .inr (6, [.ref (ad9 13), .ref (ad9 14), .ref (ad9 15), .ref (ad9 16), .ref (ad9 17), .ref (ad9 18), .ref (ad9 19), .int 0])), ((ad9 2), .inr (0, [.ref (ad9 20), .ref (ad9 21), .ref (ad9 22), .int 0])), ((ad9 3), .inl (cI, 40, .inl (fun _ => (0 : Int32)))), ((ad9 4), .inl (cI, 40, .inl (fun _ => (0 : Int32)))), ((ad9 5), .inl (cI, 40, .inl (fun _ => (0 : Int32)))), ((ad9 6), .inl (cI, 40, .inl (fun _ => (0 : Int32)))), ((ad9 7), .inl (cI, 18, .inl (fun _ => (0 : Int32)))), ((ad9 8), .inl (cI, 18, .inl (fun _ => (0 : Int32)))), ((ad9 9), .inl (cI, 18, .inl (fun _ => (0 : Int32)))), ((ad9 10), .inl (cI, 18, .inl (fun _ => (0 : Int32)))), ((ad9 11), .inl (cI, 18, .inl (fun _ => (0 : Int32)))), ((ad9 12), .inl (cI, 18, .inl (fun _ => (0 : Int32)))), ((ad9 13), .inl (cI, 40, .inl (fun _ => (0 : Int32)))), ((ad9 14), .inl (cI, 40, .inl (fun _ => (0 : Int32)))), ((ad9 15), .inl (cI, 40, .inl (fun _ => (0 : Int32)))), ((ad9 16), .inl (cI, 40, .inl (fun _ => (0 : Int32)))), ((ad9 17), .inl (cI, 40, .inl (fun _ => (0 : Int32)))), ((ad9 18), .inl (cI, 40, .inl (fun _ => (0 : Int32)))), ((ad9 19), .inl (cI, 40, .inl (fun _ => (0 : Int32)))), ((ad9 20), .inl (cI, 6, .inl (fun _ => (0 : Int32)))), ((ad9 21), .inl (cI, 6, .inl (fun _ => (0 : Int32)))), ((ad9 22), .inl (cI, 6, .inl (fun _ => (0 : Int32)))), ((ad42 0), .inr (2, [.ref (ad42 1), .int 0, .ref (ad42 2), .long 0, .int 0])), ((ad42 1), .inl (cI, 12, .inl (fun _ => (0 : Int32)))), ((ad42 2), .inl (cI, 40, .inl (fun _ => (0 : Int32)))), ((ad53 0), .inr (4, [.ref (ad53 1), .ref (ad53 2), .ref (ad53 3), .ref (ad53 4), .int 0])), ((ad53 1), .inl (cI, 12, .inl (fun _ => (0 : Int32)))), ((ad53 2), .inl (cI, 4096, .inl (fun _ => (0 : Int32)))), ((ad53 3), .inl (cI, 4096, .inl (fun _ => (0 : Int32)))), ((ad53 4), .inl (cI, 144, .inl (fun _ => (0 : Int32)))), ((ad64 0), .inr (3, [.ref (ad64 1), .int 0, .int 0, .int 0])), ((ad64 1), .inl (cI, 12, .inl (fun _ => (0 : Int32)))), ((ad75 0), .inr (1, [.ref (ad75 1), .int 0, .int 0, .int 0, .int 0, .int 0, .int 0])), ((ad75 1), .inl (cI, 40, .inl (fun _ => (0 : Int32)))), ((ad86 0), .inr (7, [.ref (ad86 1), .ref (ad86 2), .ref (ad86 3)])), ((ad86 1), .inl (cI, 4, .inl (upd (upd (upd (upd (fun _ => (0 : Int32)) (0 : Int32).toNatClampNeg (-1 : Int32)) (1 : Int32).toNatClampNeg (-1 : Int32)) (2 : Int32).toNatClampNeg (-1 : Int32)) (3 : Int32).toNatClampNeg (-1 : Int32)))), ((ad86 2), .inl (cI, 4, .inl (fun _ => (0 : Int32)))), ((ad86 3), .inl (cI, 160, .inl (fun _ => (0 : Int32))))] rfl rfl rfl (Nat.le_of_ble_eq_true rfl) rfl ?_
  refine cn_aload_n hV dX9_init_102 rfl ?_
  refine cn_iconst hV (0 : Int32) dX9_init_103 (by decide) ?_
  refine cn_put hV hin cf_X9_68 dX9_init_104 0 [(h0, .inr (8, [.ref ((ad9 0)), .ref (ad9 2), .ref (ad9 1), .ref ((ad42 0)), .ref ((ad53 0)), .ref ((ad64 0)), .ref ((ad75 0)), .ref ((ad86 0)), .int (0 : Int32), .int (-1 : Int32), .int (0 : Int32), .int 0])), ((ad9 0), .inr (5, [.ref (ad9 1), .ref (ad9 2), .ref (ad9 3), .ref (ad9 4), .ref (ad9 5), .ref (ad9 6), .int 0, .ref (ad9 7), .ref (ad9 8), .ref (ad9 9), .ref (ad9 10), .ref (ad9 11), .ref (ad9 12)])), ((ad9 1), .inr (6, [.ref (ad9 13), .ref (ad9 14), .ref (ad9 15), .ref (ad9 16), .ref (ad9 17), .ref (ad9 18), .ref (ad9 19), .int 0])), ((ad9 2), .inr (0, [.ref (ad9 20), .ref (ad9 21), .ref (ad9 22), .int 0])), ((ad9 3), .inl (cI, 40, .inl (fun _ => (0 : Int32)))), ((ad9 4), .inl (cI, 40, .inl (fun _ => (0 : Int32)))), ((ad9 5), .inl (cI, 40, .inl (fun _ => (0 : Int32)))), ((ad9 6), .inl (cI, 40, .inl (fun _ => (0 : Int32)))), ((ad9 7), .inl (cI, 18, .inl (fun _ => (0 : Int32)))), ((ad9 8), .inl (cI, 18, .inl (fun _ => (0 : Int32)))), ((ad9 9), .inl (cI, 18, .inl (fun _ => (0 : Int32)))), ((ad9 10), .inl (cI, 18, .inl (fun _ => (0 : Int32)))), ((ad9 11), .inl (cI, 18, .inl (fun _ => (0 : Int32)))), ((ad9 12), .inl (cI, 18, .inl (fun _ => (0 : Int32)))), ((ad9 13), .inl (cI, 40, .inl (fun _ => (0 : Int32)))), ((ad9 14), .inl (cI, 40, .inl (fun _ => (0 : Int32)))), ((ad9 15), .inl (cI, 40, .inl (fun _ => (0 : Int32)))), ((ad9 16), .inl (cI, 40, .inl (fun _ => (0 : Int32)))), ((ad9 17), .inl (cI, 40, .inl (fun _ => (0 : Int32)))), ((ad9 18), .inl (cI, 40, .inl (fun _ => (0 : Int32)))), ((ad9 19), .inl (cI, 40, .inl (fun _ => (0 : Int32)))), ((ad9 20), .inl (cI, 6, .inl (fun _ => (0 : Int32)))), ((ad9 21), .inl (cI, 6, .inl (fun _ => (0 : Int32)))), ((ad9 22), .inl (cI, 6, .inl (fun _ => (0 : Int32)))), ((ad42 0), .inr (2, [.ref (ad42 1), .int 0, .ref (ad42 2), .long 0, .int 0])), ((ad42 1), .inl (cI, 12, .inl (fun _ => (0 : Int32)))), ((ad42 2), .inl (cI, 40, .inl (fun _ => (0 : Int32)))), ((ad53 0), .inr (4, [.ref (ad53 1), .ref (ad53 2), .ref (ad53 3), .ref (ad53 4), .int 0])), ((ad53 1), .inl (cI, 12, .inl (fun _ => (0 : Int32)))), ((ad53 2), .inl (cI, 4096, .inl (fun _ => (0 : Int32)))), ((ad53 3), .inl (cI, 4096, .inl (fun _ => (0 : Int32)))), ((ad53 4), .inl (cI, 144, .inl (fun _ => (0 : Int32)))), ((ad64 0), .inr (3, [.ref (ad64 1), .int 0, .int 0, .int 0])), ((ad64 1), .inl (cI, 12, .inl (fun _ => (0 : Int32)))), ((ad75 0), .inr (1, [.ref (ad75 1), .int 0, .int 0, .int 0, .int 0, .int 0, .int 0])), ((ad75 1), .inl (cI, 40, .inl (fun _ => (0 : Int32)))), ((ad86 0), .inr (7, [.ref (ad86 1), .ref (ad86 2), .ref (ad86 3)])), ((ad86 1), .inl (cI, 4, .inl (upd (upd (upd (upd (fun _ => (0 : Int32)) (0 : Int32).toNatClampNeg (-1 : Int32)) (1 : Int32).toNatClampNeg (-1 : Int32)) (2 : Int32).toNatClampNeg (-1 : Int32)) (3 : Int32).toNatClampNeg (-1 : Int32)))), ((ad86 2), .inl (cI, 4, .inl (fun _ => (0 : Int32)))), ((ad86 3), .inl (cI, 160, .inl (fun _ => (0 : Int32))))] rfl rfl rfl (Nat.le_of_ble_eq_true rfl) rfl ?_
  refine cn_aload_n hV dX9_init_107 rfl ?_
  refine cn_iconst hV (0 : Int32) dX9_init_108 (by decide) ?_
  refine cn_put hV hin cf_X9_71 dX9_init_109 0 [(h0, .inr (8, [.ref ((ad9 0)), .ref (ad9 2), .ref (ad9 1), .ref ((ad42 0)), .ref ((ad53 0)), .ref ((ad64 0)), .ref ((ad75 0)), .ref ((ad86 0)), .int (0 : Int32), .int (-1 : Int32), .int (0 : Int32), .int (0 : Int32)])), ((ad9 0), .inr (5, [.ref (ad9 1), .ref (ad9 2), .ref (ad9 3), .ref (ad9 4), .ref (ad9 5), .ref (ad9 6), .int 0, .ref (ad9 7), .ref (ad9 8), .ref (ad9 9), .ref (ad9 10), .ref (ad9 11), .ref (ad9 12)])), ((ad9 1), .inr (6, [.ref (ad9 13), .ref (ad9 14), .ref (ad9 15), .ref (ad9 16), .ref (ad9 17), .ref (ad9 18), .ref (ad9 19), .int 0])), ((ad9 2), .inr (0, [.ref (ad9 20), .ref (ad9 21), .ref (ad9 22), .int 0])), ((ad9 3), .inl (cI, 40, .inl (fun _ => (0 : Int32)))), ((ad9 4), .inl (cI, 40, .inl (fun _ => (0 : Int32)))), ((ad9 5), .inl (cI, 40, .inl (fun _ => (0 : Int32)))), ((ad9 6), .inl (cI, 40, .inl (fun _ => (0 : Int32)))), ((ad9 7), .inl (cI, 18, .inl (fun _ => (0 : Int32)))), ((ad9 8), .inl (cI, 18, .inl (fun _ => (0 : Int32)))), ((ad9 9), .inl (cI, 18, .inl (fun _ => (0 : Int32)))), ((ad9 10), .inl (cI, 18, .inl (fun _ => (0 : Int32)))), ((ad9 11), .inl (cI, 18, .inl (fun _ => (0 : Int32)))), ((ad9 12), .inl (cI, 18, .inl (fun _ => (0 : Int32)))), ((ad9 13), .inl (cI, 40, .inl (fun _ => (0 : Int32)))), ((ad9 14), .inl (cI, 40, .inl (fun _ => (0 : Int32)))), ((ad9 15), .inl (cI, 40, .inl (fun _ => (0 : Int32)))), ((ad9 16), .inl (cI, 40, .inl (fun _ => (0 : Int32)))), ((ad9 17), .inl (cI, 40, .inl (fun _ => (0 : Int32)))), ((ad9 18), .inl (cI, 40, .inl (fun _ => (0 : Int32)))), ((ad9 19), .inl (cI, 40, .inl (fun _ => (0 : Int32)))), ((ad9 20), .inl (cI, 6, .inl (fun _ => (0 : Int32)))), ((ad9 21), .inl (cI, 6, .inl (fun _ => (0 : Int32)))), ((ad9 22), .inl (cI, 6, .inl (fun _ => (0 : Int32)))), ((ad42 0), .inr (2, [.ref (ad42 1), .int 0, .ref (ad42 2), .long 0, .int 0])), ((ad42 1), .inl (cI, 12, .inl (fun _ => (0 : Int32)))), ((ad42 2), .inl (cI, 40, .inl (fun _ => (0 : Int32)))), ((ad53 0), .inr (4, [.ref (ad53 1), .ref (ad53 2), .ref (ad53 3), .ref (ad53 4), .int 0])), ((ad53 1), .inl (cI, 12, .inl (fun _ => (0 : Int32)))), ((ad53 2), .inl (cI, 4096, .inl (fun _ => (0 : Int32)))), ((ad53 3), .inl (cI, 4096, .inl (fun _ => (0 : Int32)))), ((ad53 4), .inl (cI, 144, .inl (fun _ => (0 : Int32)))), ((ad64 0), .inr (3, [.ref (ad64 1), .int 0, .int 0, .int 0])), ((ad64 1), .inl (cI, 12, .inl (fun _ => (0 : Int32)))), ((ad75 0), .inr (1, [.ref (ad75 1), .int 0, .int 0, .int 0, .int 0, .int 0, .int 0])), ((ad75 1), .inl (cI, 40, .inl (fun _ => (0 : Int32)))), ((ad86 0), .inr (7, [.ref (ad86 1), .ref (ad86 2), .ref (ad86 3)])), ((ad86 1), .inl (cI, 4, .inl (upd (upd (upd (upd (fun _ => (0 : Int32)) (0 : Int32).toNatClampNeg (-1 : Int32)) (1 : Int32).toNatClampNeg (-1 : Int32)) (2 : Int32).toNatClampNeg (-1 : Int32)) (3 : Int32).toNatClampNeg (-1 : Int32)))), ((ad86 2), .inl (cI, 4, .inl (fun _ => (0 : Int32)))), ((ad86 3), .inl (cI, 160, .inl (fun _ => (0 : Int32))))] rfl rfl rfl (Nat.le_of_ble_eq_true rfl) rfl ?_
  exact hend _ _ _ [h0, (ad9 0), (ad9 1), (ad9 2), (ad42 0), (ad53 0), (ad64 0), (ad75 0), (ad86 0), (ad9 3), (ad9 4), (ad9 5), (ad9 6), (ad9 7), (ad9 8), (ad9 9), (ad9 10), (ad9 11), (ad9 12), (ad9 13), (ad9 14), (ad9 15), (ad9 16), (ad9 17), (ad9 18), (ad9 19), (ad9 20), (ad9 21), (ad9 22), (ad42 1), (ad42 2), (ad53 1), (ad53 2), (ad53 3), (ad53 4), (ad64 1), (ad75 1), (ad86 1), (ad86 2), (ad86 3)] [0, 1, 2, 3, 24, 27, 32, 34, 36, 4, 5, 6, 7, 8, 9, 10, 11, 12, 13, 14, 15, 16, 17, 18, 19, 20, 21, 22, 23, 25, 26, 28, 29, 30, 31, 33, 35, 37, 38, 39] [(h0, .inr (8, [.ref ((ad9 0)), .ref (ad9 2), .ref (ad9 1), .ref ((ad42 0)), .ref ((ad53 0)), .ref ((ad64 0)), .ref ((ad75 0)), .ref ((ad86 0)), .int (0 : Int32), .int (-1 : Int32), .int (0 : Int32), .int (0 : Int32)])), ((ad9 0), .inr (5, [.ref (ad9 1), .ref (ad9 2), .ref (ad9 3), .ref (ad9 4), .ref (ad9 5), .ref (ad9 6), .int 0, .ref (ad9 7), .ref (ad9 8), .ref (ad9 9), .ref (ad9 10), .ref (ad9 11), .ref (ad9 12)])), ((ad9 1), .inr (6, [.ref (ad9 13), .ref (ad9 14), .ref (ad9 15), .ref (ad9 16), .ref (ad9 17), .ref (ad9 18), .ref (ad9 19), .int 0])), ((ad9 2), .inr (0, [.ref (ad9 20), .ref (ad9 21), .ref (ad9 22), .int 0])), ((ad9 3), .inl (cI, 40, .inl (fun _ => (0 : Int32)))), ((ad9 4), .inl (cI, 40, .inl (fun _ => (0 : Int32)))), ((ad9 5), .inl (cI, 40, .inl (fun _ => (0 : Int32)))), ((ad9 6), .inl (cI, 40, .inl (fun _ => (0 : Int32)))), ((ad9 7), .inl (cI, 18, .inl (fun _ => (0 : Int32)))), ((ad9 8), .inl (cI, 18, .inl (fun _ => (0 : Int32)))), ((ad9 9), .inl (cI, 18, .inl (fun _ => (0 : Int32)))), ((ad9 10), .inl (cI, 18, .inl (fun _ => (0 : Int32)))), ((ad9 11), .inl (cI, 18, .inl (fun _ => (0 : Int32)))), ((ad9 12), .inl (cI, 18, .inl (fun _ => (0 : Int32)))), ((ad9 13), .inl (cI, 40, .inl (fun _ => (0 : Int32)))), ((ad9 14), .inl (cI, 40, .inl (fun _ => (0 : Int32)))), ((ad9 15), .inl (cI, 40, .inl (fun _ => (0 : Int32)))), ((ad9 16), .inl (cI, 40, .inl (fun _ => (0 : Int32)))), ((ad9 17), .inl (cI, 40, .inl (fun _ => (0 : Int32)))), ((ad9 18), .inl (cI, 40, .inl (fun _ => (0 : Int32)))), ((ad9 19), .inl (cI, 40, .inl (fun _ => (0 : Int32)))), ((ad9 20), .inl (cI, 6, .inl (fun _ => (0 : Int32)))), ((ad9 21), .inl (cI, 6, .inl (fun _ => (0 : Int32)))), ((ad9 22), .inl (cI, 6, .inl (fun _ => (0 : Int32)))), ((ad42 0), .inr (2, [.ref (ad42 1), .int 0, .ref (ad42 2), .long 0, .int 0])), ((ad42 1), .inl (cI, 12, .inl (fun _ => (0 : Int32)))), ((ad42 2), .inl (cI, 40, .inl (fun _ => (0 : Int32)))), ((ad53 0), .inr (4, [.ref (ad53 1), .ref (ad53 2), .ref (ad53 3), .ref (ad53 4), .int 0])), ((ad53 1), .inl (cI, 12, .inl (fun _ => (0 : Int32)))), ((ad53 2), .inl (cI, 4096, .inl (fun _ => (0 : Int32)))), ((ad53 3), .inl (cI, 4096, .inl (fun _ => (0 : Int32)))), ((ad53 4), .inl (cI, 144, .inl (fun _ => (0 : Int32)))), ((ad64 0), .inr (3, [.ref (ad64 1), .int 0, .int 0, .int 0])), ((ad64 1), .inl (cI, 12, .inl (fun _ => (0 : Int32)))), ((ad75 0), .inr (1, [.ref (ad75 1), .int 0, .int 0, .int 0, .int 0, .int 0, .int 0])), ((ad75 1), .inl (cI, 40, .inl (fun _ => (0 : Int32)))), ((ad86 0), .inr (7, [.ref (ad86 1), .ref (ad86 2), .ref (ad86 3)])), ((ad86 1), .inl (cI, 4, .inl (upd (upd (upd (upd (fun _ => (0 : Int32)) (0 : Int32).toNatClampNeg (-1 : Int32)) (1 : Int32).toNatClampNeg (-1 : Int32)) (2 : Int32).toNatClampNeg (-1 : Int32)) (3 : Int32).toNatClampNeg (-1 : Int32)))), ((ad86 2), .inl (cI, 4, .inl (fun _ => (0 : Int32)))), ((ad86 3), .inl (cI, 160, .inl (fun _ => (0 : Int32))))] rfl (by decide) rfl dX9_init_112
def s0_X10 : ax_S := (fun k => if k = 0 then (fun j => if j = 14 then (-1 : Int32) else 0) else (fun _ => (0 : Int32)), fun _ _ => 0)
def mu_X10_init : ax_Mu := (yX10_init, cX10_init, 1, none, 1, 12)
theorem lc_X10_init : Cond.code mu_X10_init.1 mu_X10_init.2.1 mu_X10_init.2.2.1 mu_X10_init.2.2.2.1 ∈ ax_tb := (ax_m4 167 rfl rfl)
def nl_X10 : cn_N := []
theorem cf_X10_9 : cn_F RX10 9 9 3 true (.array .int) := ⟨RX10, TX10, 42, tyX10, rfl, by decide, in2X10, (ax_m4 172 rfl rfl), tyX10_ok, nmX10, rfl, by decide +kernel, fun _ => rfl⟩
theorem cf_X10_13 : cn_F RX10 13 9 4 true (.array .int) := ⟨RX10, TX10, 42, tyX10, rfl, by decide, in2X10, (ax_m4 173 rfl rfl), tyX10_ok, nmX10, rfl, by decide +kernel, fun _ => rfl⟩
theorem cf_X10_16 : cn_F RX10 16 9 5 true (.array .int) := ⟨RX10, TX10, 42, tyX10, rfl, by decide, in2X10, (ax_m4 174 rfl rfl), tyX10_ok, nmX10, rfl, by decide +kernel, fun _ => rfl⟩
theorem cf_X10_19 : cn_F RX10 19 9 7 true (.array .int) := ⟨RX10, TX10, 42, tyX10, rfl, by decide, in2X10, (ax_m4 176 rfl rfl), tyX10_ok, nmX10, rfl, by decide +kernel, fun _ => rfl⟩
theorem cf_X10_22 : cn_F RX10 22 9 8 true (.array .int) := ⟨RX10, TX10, 42, tyX10, rfl, by decide, in2X10, (ax_m4 177 rfl rfl), tyX10_ok, nmX10, rfl, by decide +kernel, fun _ => rfl⟩
theorem cf_X10_25 : cn_F RX10 25 9 9 true (.array .int) := ⟨RX10, TX10, 42, tyX10, rfl, by decide, in2X10, (ax_m4 178 rfl rfl), tyX10_ok, nmX10, rfl, by decide +kernel, fun _ => rfl⟩
theorem cf_X10_28 : cn_F RX10 28 9 10 true (.array .int) := ⟨RX10, TX10, 42, tyX10, rfl, by decide, in2X10, (ax_m4 179 rfl rfl), tyX10_ok, nmX10, rfl, by decide +kernel, fun _ => rfl⟩
theorem cf_X10_31 : cn_F RX10 31 9 11 true (.array .int) := ⟨RX10, TX10, 42, tyX10, rfl, by decide, in2X10, (ax_m4 180 rfl rfl), tyX10_ok, nmX10, rfl, by decide +kernel, fun _ => rfl⟩
theorem cf_X10_34 : cn_F RX10 34 9 12 true (.array .int) := ⟨RX10, TX10, 42, tyX10, rfl, by decide, in2X10, (ax_m4 181 rfl rfl), tyX10_ok, nmX10, rfl, by decide +kernel, fun _ => rfl⟩
theorem cf_X10_37 : cn_F RX10 37 9 13 true (.array .int) := ⟨RX10, TX10, 42, tyX10, rfl, by decide, in2X10, (ax_m4 182 rfl rfl), tyX10_ok, nmX10, rfl, by decide +kernel, fun _ => rfl⟩
theorem cf_X10_40 : cn_F RX10 40 9 14 false (.int) := ⟨RX10, TX10, 42, tyX10, rfl, by decide, in2X10, (ax_m4 183 rfl rfl), tyX10_ok, nmX10, rfl, by decide +kernel, fun _ => rfl⟩
theorem cf_X10_44 : cn_F RX10 44 9 15 true (.array .int) := ⟨RX10, TX10, 42, tyX10, rfl, by decide, in2X10, (ax_m4 184 rfl rfl), tyX10_ok, nmX10, rfl, by decide +kernel, fun _ => rfl⟩
theorem cf_X10_47 : cn_F RX10 47 9 16 true (.array .int) := ⟨RX10, TX10, 42, tyX10, rfl, by decide, in2X10, (ax_m4 185 rfl rfl), tyX10_ok, nmX10, rfl, by decide +kernel, fun _ => rfl⟩
theorem cf_X10_50 : cn_F RX10 50 9 17 true (.array .int) := ⟨RX10, TX10, 42, tyX10, rfl, by decide, in2X10, (ax_m4 186 rfl rfl), tyX10_ok, nmX10, rfl, by decide +kernel, fun _ => rfl⟩
theorem cf_X10_53 : cn_F RX10 53 9 21 true (.array .int) := ⟨RX10, TX10, 42, tyX10, rfl, by decide, in2X10, (ax_m4 190 rfl rfl), tyX10_ok, nmX10, rfl, by decide +kernel, fun _ => rfl⟩
theorem cf_X10_56 : cn_F RX10 56 9 22 true (.array .int) := ⟨RX10, TX10, 42, tyX10, rfl, by decide, in2X10, (ax_m4 191 rfl rfl), tyX10_ok, nmX10, rfl, by decide +kernel, fun _ => rfl⟩
theorem cf_X10_59 : cn_F RX10 59 9 23 true (.array .int) := ⟨RX10, TX10, 42, tyX10, rfl, by decide, in2X10, (ax_m4 192 rfl rfl), tyX10_ok, nmX10, rfl, by decide +kernel, fun _ => rfl⟩
theorem cf_X10_62 : cn_F RX10 62 9 24 true (.array .int) := ⟨RX10, TX10, 42, tyX10, rfl, by decide, in2X10, (ax_m4 193 rfl rfl), tyX10_ok, nmX10, rfl, by decide +kernel, fun _ => rfl⟩
theorem cf_X10_65 : cn_F RX10 65 9 26 true (.array .int) := ⟨RX10, TX10, 42, tyX10, rfl, by decide, in2X10, (ax_m4 195 rfl rfl), tyX10_ok, nmX10, rfl, by decide +kernel, fun _ => rfl⟩
theorem cf_X10_68 : cn_F RX10 68 9 28 true (.array .int) := ⟨RX10, TX10, 42, tyX10, rfl, by decide, in2X10, (ax_m4 197 rfl rfl), tyX10_ok, nmX10, rfl, by decide +kernel, fun _ => rfl⟩
theorem cf_X10_71 : cn_F RX10 71 9 29 true (.array .long) := ⟨RX10, TX10, 42, tyX10, rfl, by decide, in2X10, (ax_m4 198 rfl rfl), tyX10_ok, nmX10, rfl, by decide +kernel, fun _ => rfl⟩
theorem cf_X10_75 : cn_F RX10 75 9 31 true (.array .int) := ⟨RX10, TX10, 42, tyX10, rfl, by decide, in2X10, (ax_m4 200 rfl rfl), tyX10_ok, nmX10, rfl, by decide +kernel, fun _ => rfl⟩
theorem cf_X10_78 : cn_F RX10 78 9 36 true (.array .boolean) := ⟨RX10, TX10, 42, tyX10, rfl, by decide, in2X10, (ax_m4 205 rfl rfl), tyX10_ok, nmX10, rfl, by decide +kernel, fun _ => rfl⟩
theorem cf_X10_82 : cn_F RX10 82 9 37 true (.array .int) := ⟨RX10, TX10, 42, tyX10, rfl, by decide, in2X10, (ax_m4 206 rfl rfl), tyX10_ok, nmX10, rfl, by decide +kernel, fun _ => rfl⟩
theorem cf_X10_85 : cn_F RX10 85 9 38 true (.array .int) := ⟨RX10, TX10, 42, tyX10, rfl, by decide, in2X10, (ax_m4 207 rfl rfl), tyX10_ok, nmX10, rfl, by decide +kernel, fun _ => rfl⟩
theorem cf_X10_88 : cn_F RX10 88 9 39 true (.array .int) := ⟨RX10, TX10, 42, tyX10, rfl, by decide, in2X10, (ax_m4 208 rfl rfl), tyX10_ok, nmX10, rfl, by decide +kernel, fun _ => rfl⟩
theorem cf_X10_91 : cn_F RX10 91 9 40 true (.array .int) := ⟨RX10, TX10, 42, tyX10, rfl, by decide, in2X10, (ax_m4 209 rfl rfl), tyX10_ok, nmX10, rfl, by decide +kernel, fun _ => rfl⟩
set_option maxHeartbeats 4000000 in
set_option maxRecDepth 10000 in
theorem c_X10_init : cn_M mu_X10_init 26 5105 nl_X10 9 [.int 0, .int 0, .int 0, .null, .null, .null, .int 0, .null, .null, .null, .null, .null, .null, .null, .int 0, .null, .null, .null, .int 0, .int 0, .int 0, .null, .null, .null, .null, .int 0, .null, .long 0, .null, .null, .int 0, .null, .int 0, .int 0, .int 0, .int 0, .null, .null, .null, .null, .null, .int 0] cx_R.1 s0_X10 := by
  refine cn_enter (by decide +kernel) rfl rfl (by decide) 0 (fun h0 => [some (.ref h0)]) (fun _ => rfl) (fun K D cI cJ cZ h0 sz Q hV hin hnw hlt hend => ?_)
  refine cn_aload_n hV dX10_init_0 rfl ?_
  refine cn_obj hV (ax_m4 168 rfl rfl) cn_o1 cn_o2 rfl dX10_init_1 ?_
  refine cn_aload_n hV dX10_init_4 rfl ?_
  refine cn_bipush hV (6 : Int32) dX10_init_5 (by decide) ?_
  refine cn_newI hV 6 ca_int dX10_init_7 (by decide) (by decide) (by decide) (by decide) (by decide) (fun q7 => ?_)
  refine cn_put hV hin cf_X10_9 dX10_init_9 0 [(h0, .inr (9, [.int 0, .int 0, .int 0, .ref (q7), .null, .null, .int 0, .null, .null, .null, .null, .null, .null, .null, .int 0, .null, .null, .null, .int 0, .int 0, .int 0, .null, .null, .null, .null, .int 0, .null, .long 0, .null, .null, .int 0, .null, .int 0, .int 0, .int 0, .int 0, .null, .null, .null, .null, .null, .int 0])), (q7, .inl (cI, 6, .inl (fun _ => (0 : Int32))))] rfl rfl rfl (Nat.le_of_ble_eq_true rfl) rfl ?_
  refine cn_aload_n hV dX10_init_12 rfl ?_
  refine cn_bipush hV (6 : Int32) dX10_init_13 (by decide) ?_
  refine cn_newI hV 6 ca_int dX10_init_15 (by decide) (by decide) (by decide) (by decide) (by decide) (fun q15 => ?_)
  refine cn_put hV hin cf_X10_13 dX10_init_17 0 [(h0, .inr (9, [.int 0, .int 0, .int 0, .ref (q7), .ref (q15), .null, .int 0, .null, .null, .null, .null, .null, .null, .null, .int 0, .null, .null, .null, .int 0, .int 0, .int 0, .null, .null, .null, .null, .int 0, .null, .long 0, .null, .null, .int 0, .null, .int 0, .int 0, .int 0, .int 0, .null, .null, .null, .null, .null, .int 0])), (q7, .inl (cI, 6, .inl (fun _ => (0 : Int32)))), (q15, .inl (cI, 6, .inl (fun _ => (0 : Int32))))] rfl rfl rfl (Nat.le_of_ble_eq_true rfl) rfl ?_
  refine cn_aload_n hV dX10_init_20 rfl ?_
  refine cn_bipush hV (6 : Int32) dX10_init_21 (by decide) ?_
  refine cn_newI hV 6 ca_int dX10_init_23 (by decide) (by decide) (by decide) (by decide) (by decide) (fun q23 => ?_)
  refine cn_put hV hin cf_X10_16 dX10_init_25 0 [(h0, .inr (9, [.int 0, .int 0, .int 0, .ref (q7), .ref (q15), .ref (q23), .int 0, .null, .null, .null, .null, .null, .null, .null, .int 0, .null, .null, .null, .int 0, .int 0, .int 0, .null, .null, .null, .null, .int 0, .null, .long 0, .null, .null, .int 0, .null, .int 0, .int 0, .int 0, .int 0, .null, .null, .null, .null, .null, .int 0])), (q7, .inl (cI, 6, .inl (fun _ => (0 : Int32)))), (q15, .inl (cI, 6, .inl (fun _ => (0 : Int32)))), (q23, .inl (cI, 6, .inl (fun _ => (0 : Int32))))] rfl rfl rfl (Nat.le_of_ble_eq_true rfl) rfl ?_
  refine cn_aload_n hV dX10_init_28 rfl ?_
  refine cn_bipush hV (40 : Int32) dX10_init_29 (by decide) ?_
  refine cn_newI hV 40 ca_int dX10_init_31 (by decide) (by decide) (by decide) (by decide) (by decide) (fun q31 => ?_)
  refine cn_put hV hin cf_X10_19 dX10_init_33 0 [(h0, .inr (9, [.int 0, .int 0, .int 0, .ref (q7), .ref (q15), .ref (q23), .int 0, .ref (q31), .null, .null, .null, .null, .null, .null, .int 0, .null, .null, .null, .int 0, .int 0, .int 0, .null, .null, .null, .null, .int 0, .null, .long 0, .null, .null, .int 0, .null, .int 0, .int 0, .int 0, .int 0, .null, .null, .null, .null, .null, .int 0])), (q7, .inl (cI, 6, .inl (fun _ => (0 : Int32)))), (q15, .inl (cI, 6, .inl (fun _ => (0 : Int32)))), (q23, .inl (cI, 6, .inl (fun _ => (0 : Int32)))), (q31, .inl (cI, 40, .inl (fun _ => (0 : Int32))))] rfl rfl rfl (Nat.le_of_ble_eq_true rfl) rfl ?_
  refine cn_aload_n hV dX10_init_36 rfl ?_
  refine cn_bipush hV (40 : Int32) dX10_init_37 (by decide) ?_
  refine cn_newI hV 40 ca_int dX10_init_39 (by decide) (by decide) (by decide) (by decide) (by decide) (fun q39 => ?_)
  refine cn_put hV hin cf_X10_22 dX10_init_41 0 [(h0, .inr (9, [.int 0, .int 0, .int 0, .ref (q7), .ref (q15), .ref (q23), .int 0, .ref (q31), .ref (q39), .null, .null, .null, .null, .null, .int 0, .null, .null, .null, .int 0, .int 0, .int 0, .null, .null, .null, .null, .int 0, .null, .long 0, .null, .null, .int 0, .null, .int 0, .int 0, .int 0, .int 0, .null, .null, .null, .null, .null, .int 0])), (q7, .inl (cI, 6, .inl (fun _ => (0 : Int32)))), (q15, .inl (cI, 6, .inl (fun _ => (0 : Int32)))), (q23, .inl (cI, 6, .inl (fun _ => (0 : Int32)))), (q31, .inl (cI, 40, .inl (fun _ => (0 : Int32)))), (q39, .inl (cI, 40, .inl (fun _ => (0 : Int32))))] rfl rfl rfl (Nat.le_of_ble_eq_true rfl) rfl ?_
  refine cn_aload_n hV dX10_init_44 rfl ?_
  refine cn_bipush hV (40 : Int32) dX10_init_45 (by decide) ?_
  refine cn_newI hV 40 ca_int dX10_init_47 (by decide) (by decide) (by decide) (by decide) (by decide) (fun q47 => ?_)
  refine cn_put hV hin cf_X10_25 dX10_init_49 0 [(h0, .inr (9, [.int 0, .int 0, .int 0, .ref (q7), .ref (q15), .ref (q23), .int 0, .ref (q31), .ref (q39), .ref (q47), .null, .null, .null, .null, .int 0, .null, .null, .null, .int 0, .int 0, .int 0, .null, .null, .null, .null, .int 0, .null, .long 0, .null, .null, .int 0, .null, .int 0, .int 0, .int 0, .int 0, .null, .null, .null, .null, .null, .int 0])), (q7, .inl (cI, 6, .inl (fun _ => (0 : Int32)))), (q15, .inl (cI, 6, .inl (fun _ => (0 : Int32)))), (q23, .inl (cI, 6, .inl (fun _ => (0 : Int32)))), (q31, .inl (cI, 40, .inl (fun _ => (0 : Int32)))), (q39, .inl (cI, 40, .inl (fun _ => (0 : Int32)))), (q47, .inl (cI, 40, .inl (fun _ => (0 : Int32))))] rfl rfl rfl (Nat.le_of_ble_eq_true rfl) rfl ?_
  refine cn_aload_n hV dX10_init_52 rfl ?_
  refine cn_bipush hV (40 : Int32) dX10_init_53 (by decide) ?_
  refine cn_newI hV 40 ca_int dX10_init_55 (by decide) (by decide) (by decide) (by decide) (by decide) (fun q55 => ?_)
  refine cn_put hV hin cf_X10_28 dX10_init_57 0 [(h0, .inr (9, [.int 0, .int 0, .int 0, .ref (q7), .ref (q15), .ref (q23), .int 0, .ref (q31), .ref (q39), .ref (q47), .ref (q55), .null, .null, .null, .int 0, .null, .null, .null, .int 0, .int 0, .int 0, .null, .null, .null, .null, .int 0, .null, .long 0, .null, .null, .int 0, .null, .int 0, .int 0, .int 0, .int 0, .null, .null, .null, .null, .null, .int 0])), (q7, .inl (cI, 6, .inl (fun _ => (0 : Int32)))), (q15, .inl (cI, 6, .inl (fun _ => (0 : Int32)))), (q23, .inl (cI, 6, .inl (fun _ => (0 : Int32)))), (q31, .inl (cI, 40, .inl (fun _ => (0 : Int32)))), (q39, .inl (cI, 40, .inl (fun _ => (0 : Int32)))), (q47, .inl (cI, 40, .inl (fun _ => (0 : Int32)))), (q55, .inl (cI, 40, .inl (fun _ => (0 : Int32))))] rfl rfl rfl (Nat.le_of_ble_eq_true rfl) rfl ?_
  refine cn_aload_n hV dX10_init_60 rfl ?_
  refine cn_bipush hV (40 : Int32) dX10_init_61 (by decide) ?_
  refine cn_newI hV 40 ca_int dX10_init_63 (by decide) (by decide) (by decide) (by decide) (by decide) (fun q63 => ?_)
  refine cn_put hV hin cf_X10_31 dX10_init_65 0 [(h0, .inr (9, [.int 0, .int 0, .int 0, .ref (q7), .ref (q15), .ref (q23), .int 0, .ref (q31), .ref (q39), .ref (q47), .ref (q55), .ref (q63), .null, .null, .int 0, .null, .null, .null, .int 0, .int 0, .int 0, .null, .null, .null, .null, .int 0, .null, .long 0, .null, .null, .int 0, .null, .int 0, .int 0, .int 0, .int 0, .null, .null, .null, .null, .null, .int 0])), (q7, .inl (cI, 6, .inl (fun _ => (0 : Int32)))), (q15, .inl (cI, 6, .inl (fun _ => (0 : Int32)))), (q23, .inl (cI, 6, .inl (fun _ => (0 : Int32)))), (q31, .inl (cI, 40, .inl (fun _ => (0 : Int32)))), (q39, .inl (cI, 40, .inl (fun _ => (0 : Int32)))), (q47, .inl (cI, 40, .inl (fun _ => (0 : Int32)))), (q55, .inl (cI, 40, .inl (fun _ => (0 : Int32)))), (q63, .inl (cI, 40, .inl (fun _ => (0 : Int32))))] rfl rfl rfl (Nat.le_of_ble_eq_true rfl) rfl ?_
  refine cn_aload_n hV dX10_init_68 rfl ?_
  refine cn_bipush hV (40 : Int32) dX10_init_69 (by decide) ?_
  refine cn_newI hV 40 ca_int dX10_init_71 (by decide) (by decide) (by decide) (by decide) (by decide) (fun q71 => ?_)
  refine cn_put hV hin cf_X10_34 dX10_init_73 0 [(h0, .inr (9, [.int 0, .int 0, .int 0, .ref (q7), .ref (q15), .ref (q23), .int 0, .ref (q31), .ref (q39), .ref (q47), .ref (q55), .ref (q63), .ref (q71), .null, .int 0, .null, .null, .null, .int 0, .int 0, .int 0, .null, .null, .null, .null, .int 0, .null, .long 0, .null, .null, .int 0, .null, .int 0, .int 0, .int 0, .int 0, .null, .null, .null, .null, .null, .int 0])), (q7, .inl (cI, 6, .inl (fun _ => (0 : Int32)))), (q15, .inl (cI, 6, .inl (fun _ => (0 : Int32)))), (q23, .inl (cI, 6, .inl (fun _ => (0 : Int32)))), (q31, .inl (cI, 40, .inl (fun _ => (0 : Int32)))), (q39, .inl (cI, 40, .inl (fun _ => (0 : Int32)))), (q47, .inl (cI, 40, .inl (fun _ => (0 : Int32)))), (q55, .inl (cI, 40, .inl (fun _ => (0 : Int32)))), (q63, .inl (cI, 40, .inl (fun _ => (0 : Int32)))), (q71, .inl (cI, 40, .inl (fun _ => (0 : Int32))))] rfl rfl rfl (Nat.le_of_ble_eq_true rfl) rfl ?_
  refine cn_aload_n hV dX10_init_76 rfl ?_
  refine cn_bipush hV (40 : Int32) dX10_init_77 (by decide) ?_
  refine cn_newI hV 40 ca_int dX10_init_79 (by decide) (by decide) (by decide) (by decide) (by decide) (fun q79 => ?_)
  refine cn_put hV hin cf_X10_37 dX10_init_81 0 [(h0, .inr (9, [.int 0, .int 0, .int 0, .ref (q7), .ref (q15), .ref (q23), .int 0, .ref (q31), .ref (q39), .ref (q47), .ref (q55), .ref (q63), .ref (q71), .ref (q79), .int 0, .null, .null, .null, .int 0, .int 0, .int 0, .null, .null, .null, .null, .int 0, .null, .long 0, .null, .null, .int 0, .null, .int 0, .int 0, .int 0, .int 0, .null, .null, .null, .null, .null, .int 0])), (q7, .inl (cI, 6, .inl (fun _ => (0 : Int32)))), (q15, .inl (cI, 6, .inl (fun _ => (0 : Int32)))), (q23, .inl (cI, 6, .inl (fun _ => (0 : Int32)))), (q31, .inl (cI, 40, .inl (fun _ => (0 : Int32)))), (q39, .inl (cI, 40, .inl (fun _ => (0 : Int32)))), (q47, .inl (cI, 40, .inl (fun _ => (0 : Int32)))), (q55, .inl (cI, 40, .inl (fun _ => (0 : Int32)))), (q63, .inl (cI, 40, .inl (fun _ => (0 : Int32)))), (q71, .inl (cI, 40, .inl (fun _ => (0 : Int32)))), (q79, .inl (cI, 40, .inl (fun _ => (0 : Int32))))] rfl rfl rfl (Nat.le_of_ble_eq_true rfl) rfl ?_
  refine cn_aload_n hV dX10_init_84 rfl ?_
  refine cn_iconst hV (-1 : Int32) dX10_init_85 (by decide) ?_
  refine cn_put hV hin cf_X10_40 dX10_init_86 0 [(h0, .inr (9, [.int 0, .int 0, .int 0, .ref (q7), .ref (q15), .ref (q23), .int 0, .ref (q31), .ref (q39), .ref (q47), .ref (q55), .ref (q63), .ref (q71), .ref (q79), .int (-1 : Int32), .null, .null, .null, .int 0, .int 0, .int 0, .null, .null, .null, .null, .int 0, .null, .long 0, .null, .null, .int 0, .null, .int 0, .int 0, .int 0, .int 0, .null, .null, .null, .null, .null, .int 0])), (q7, .inl (cI, 6, .inl (fun _ => (0 : Int32)))), (q15, .inl (cI, 6, .inl (fun _ => (0 : Int32)))), (q23, .inl (cI, 6, .inl (fun _ => (0 : Int32)))), (q31, .inl (cI, 40, .inl (fun _ => (0 : Int32)))), (q39, .inl (cI, 40, .inl (fun _ => (0 : Int32)))), (q47, .inl (cI, 40, .inl (fun _ => (0 : Int32)))), (q55, .inl (cI, 40, .inl (fun _ => (0 : Int32)))), (q63, .inl (cI, 40, .inl (fun _ => (0 : Int32)))), (q71, .inl (cI, 40, .inl (fun _ => (0 : Int32)))), (q79, .inl (cI, 40, .inl (fun _ => (0 : Int32))))] rfl rfl rfl (Nat.le_of_ble_eq_true rfl) rfl ?_
  refine cn_aload_n hV dX10_init_89 rfl ?_
  refine cn_sipush hV (361 : Int32) dX10_init_90 (by decide) ?_
  refine cn_newI hV 361 ca_int dX10_init_93 (by decide) (by decide) (by decide) (by decide) (by decide) (fun q93 => ?_)
  refine cn_put hV hin cf_X10_44 dX10_init_95 0 [(h0, .inr (9, [.int 0, .int 0, .int 0, .ref (q7), .ref (q15), .ref (q23), .int 0, .ref (q31), .ref (q39), .ref (q47), .ref (q55), .ref (q63), .ref (q71), .ref (q79), .int (-1 : Int32), .ref (q93), .null, .null, .int 0, .int 0, .int 0, .null, .null, .null, .null, .int 0, .null, .long 0, .null, .null, .int 0, .null, .int 0, .int 0, .int 0, .int 0, .null, .null, .null, .null, .null, .int 0])), (q7, .inl (cI, 6, .inl (fun _ => (0 : Int32)))), (q15, .inl (cI, 6, .inl (fun _ => (0 : Int32)))), (q23, .inl (cI, 6, .inl (fun _ => (0 : Int32)))), (q31, .inl (cI, 40, .inl (fun _ => (0 : Int32)))), (q39, .inl (cI, 40, .inl (fun _ => (0 : Int32)))), (q47, .inl (cI, 40, .inl (fun _ => (0 : Int32)))), (q55, .inl (cI, 40, .inl (fun _ => (0 : Int32)))), (q63, .inl (cI, 40, .inl (fun _ => (0 : Int32)))), (q71, .inl (cI, 40, .inl (fun _ => (0 : Int32)))), (q79, .inl (cI, 40, .inl (fun _ => (0 : Int32)))), (q93, .inl (cI, 361, .inl (fun _ => (0 : Int32))))] rfl rfl rfl (Nat.le_of_ble_eq_true rfl) rfl ?_
  refine cn_aload_n hV dX10_init_98 rfl ?_
  refine cn_bipush hV (19 : Int32) dX10_init_99 (by decide) ?_
  refine cn_newI hV 19 ca_int dX10_init_101 (by decide) (by decide) (by decide) (by decide) (by decide) (fun q101 => ?_)
  refine cn_put hV hin cf_X10_47 dX10_init_103 0 [(h0, .inr (9, [.int 0, .int 0, .int 0, .ref (q7), .ref (q15), .ref (q23), .int 0, .ref (q31), .ref (q39), .ref (q47), .ref (q55), .ref (q63), .ref (q71), .ref (q79), .int (-1 : Int32), .ref (q93), .ref (q101), .null, .int 0, .int 0, .int 0, .null, .null, .null, .null, .int 0, .null, .long 0, .null, .null, .int 0, .null, .int 0, .int 0, .int 0, .int 0, .null, .null, .null, .null, .null, .int 0])), (q7, .inl (cI, 6, .inl (fun _ => (0 : Int32)))), (q15, .inl (cI, 6, .inl (fun _ => (0 : Int32)))), (q23, .inl (cI, 6, .inl (fun _ => (0 : Int32)))), (q31, .inl (cI, 40, .inl (fun _ => (0 : Int32)))), (q39, .inl (cI, 40, .inl (fun _ => (0 : Int32)))), (q47, .inl (cI, 40, .inl (fun _ => (0 : Int32)))), (q55, .inl (cI, 40, .inl (fun _ => (0 : Int32)))), (q63, .inl (cI, 40, .inl (fun _ => (0 : Int32)))), (q71, .inl (cI, 40, .inl (fun _ => (0 : Int32)))), (q79, .inl (cI, 40, .inl (fun _ => (0 : Int32)))), (q93, .inl (cI, 361, .inl (fun _ => (0 : Int32)))), (q101, .inl (cI, 19, .inl (fun _ => (0 : Int32))))] rfl rfl rfl (Nat.le_of_ble_eq_true rfl) rfl ?_
  refine cn_aload_n hV dX10_init_106 rfl ?_
  refine cn_bipush hV (19 : Int32) dX10_init_107 (by decide) ?_
  refine cn_newI hV 19 ca_int dX10_init_109 (by decide) (by decide) (by decide) (by decide) (by decide) (fun q109 => ?_)
  refine cn_put hV hin cf_X10_50 dX10_init_111 0 [(h0, .inr (9, [.int 0, .int 0, .int 0, .ref (q7), .ref (q15), .ref (q23), .int 0, .ref (q31), .ref (q39), .ref (q47), .ref (q55), .ref (q63), .ref (q71), .ref (q79), .int (-1 : Int32), .ref (q93), .ref (q101), .ref (q109), .int 0, .int 0, .int 0, .null, .null, .null, .null, .int 0, .null, .long 0, .null, .null, .int 0, .null, .int 0, .int 0, .int 0, .int 0, .null, .null, .null, .null, .null, .int 0])), (q7, .inl (cI, 6, .inl (fun _ => (0 : Int32)))), (q15, .inl (cI, 6, .inl (fun _ => (0 : Int32)))), (q23, .inl (cI, 6, .inl (fun _ => (0 : Int32)))), (q31, .inl (cI, 40, .inl (fun _ => (0 : Int32)))), (q39, .inl (cI, 40, .inl (fun _ => (0 : Int32)))), (q47, .inl (cI, 40, .inl (fun _ => (0 : Int32)))), (q55, .inl (cI, 40, .inl (fun _ => (0 : Int32)))), (q63, .inl (cI, 40, .inl (fun _ => (0 : Int32)))), (q71, .inl (cI, 40, .inl (fun _ => (0 : Int32)))), (q79, .inl (cI, 40, .inl (fun _ => (0 : Int32)))), (q93, .inl (cI, 361, .inl (fun _ => (0 : Int32)))), (q101, .inl (cI, 19, .inl (fun _ => (0 : Int32)))), (q109, .inl (cI, 19, .inl (fun _ => (0 : Int32))))] rfl rfl rfl (Nat.le_of_ble_eq_true rfl) rfl ?_
  refine cn_aload_n hV dX10_init_114 rfl ?_
  refine cn_bipush hV (6 : Int32) dX10_init_115 (by decide) ?_
  refine cn_newI hV 6 ca_int dX10_init_117 (by decide) (by decide) (by decide) (by decide) (by decide) (fun q117 => ?_)
  refine cn_put hV hin cf_X10_53 dX10_init_119 0 [(h0, .inr (9, [.int 0, .int 0, .int 0, .ref (q7), .ref (q15), .ref (q23), .int 0, .ref (q31), .ref (q39), .ref (q47), .ref (q55), .ref (q63), .ref (q71), .ref (q79), .int (-1 : Int32), .ref (q93), .ref (q101), .ref (q109), .int 0, .int 0, .int 0, .ref (q117), .null, .null, .null, .int 0, .null, .long 0, .null, .null, .int 0, .null, .int 0, .int 0, .int 0, .int 0, .null, .null, .null, .null, .null, .int 0])), (q7, .inl (cI, 6, .inl (fun _ => (0 : Int32)))), (q15, .inl (cI, 6, .inl (fun _ => (0 : Int32)))), (q23, .inl (cI, 6, .inl (fun _ => (0 : Int32)))), (q31, .inl (cI, 40, .inl (fun _ => (0 : Int32)))), (q39, .inl (cI, 40, .inl (fun _ => (0 : Int32)))), (q47, .inl (cI, 40, .inl (fun _ => (0 : Int32)))), (q55, .inl (cI, 40, .inl (fun _ => (0 : Int32)))), (q63, .inl (cI, 40, .inl (fun _ => (0 : Int32)))), (q71, .inl (cI, 40, .inl (fun _ => (0 : Int32)))), (q79, .inl (cI, 40, .inl (fun _ => (0 : Int32)))), (q93, .inl (cI, 361, .inl (fun _ => (0 : Int32)))), (q101, .inl (cI, 19, .inl (fun _ => (0 : Int32)))), (q109, .inl (cI, 19, .inl (fun _ => (0 : Int32)))), (q117, .inl (cI, 6, .inl (fun _ => (0 : Int32))))] rfl rfl rfl (Nat.le_of_ble_eq_true rfl) rfl ?_
  refine cn_aload_n hV dX10_init_122 rfl ?_
  refine cn_bipush hV (6 : Int32) dX10_init_123 (by decide) ?_
  refine cn_newI hV 6 ca_int dX10_init_125 (by decide) (by decide) (by decide) (by decide) (by decide) (fun q125 => ?_)
  refine cn_put hV hin cf_X10_56 dX10_init_127 0 [(h0, .inr (9, [.int 0, .int 0, .int 0, .ref (q7), .ref (q15), .ref (q23), .int 0, .ref (q31), .ref (q39), .ref (q47), .ref (q55), .ref (q63), .ref (q71), .ref (q79), .int (-1 : Int32), .ref (q93), .ref (q101), .ref (q109), .int 0, .int 0, .int 0, .ref (q117), .ref (q125), .null, .null, .int 0, .null, .long 0, .null, .null, .int 0, .null, .int 0, .int 0, .int 0, .int 0, .null, .null, .null, .null, .null, .int 0])), (q7, .inl (cI, 6, .inl (fun _ => (0 : Int32)))), (q15, .inl (cI, 6, .inl (fun _ => (0 : Int32)))), (q23, .inl (cI, 6, .inl (fun _ => (0 : Int32)))), (q31, .inl (cI, 40, .inl (fun _ => (0 : Int32)))), (q39, .inl (cI, 40, .inl (fun _ => (0 : Int32)))), (q47, .inl (cI, 40, .inl (fun _ => (0 : Int32)))), (q55, .inl (cI, 40, .inl (fun _ => (0 : Int32)))), (q63, .inl (cI, 40, .inl (fun _ => (0 : Int32)))), (q71, .inl (cI, 40, .inl (fun _ => (0 : Int32)))), (q79, .inl (cI, 40, .inl (fun _ => (0 : Int32)))), (q93, .inl (cI, 361, .inl (fun _ => (0 : Int32)))), (q101, .inl (cI, 19, .inl (fun _ => (0 : Int32)))), (q109, .inl (cI, 19, .inl (fun _ => (0 : Int32)))), (q117, .inl (cI, 6, .inl (fun _ => (0 : Int32)))), (q125, .inl (cI, 6, .inl (fun _ => (0 : Int32))))] rfl rfl rfl (Nat.le_of_ble_eq_true rfl) rfl ?_
  refine cn_aload_n hV dX10_init_130 rfl ?_
  refine cn_bipush hV (12 : Int32) dX10_init_131 (by decide) ?_
  refine cn_newI hV 12 ca_int dX10_init_133 (by decide) (by decide) (by decide) (by decide) (by decide) (fun q133 => ?_)
  refine cn_put hV hin cf_X10_59 dX10_init_135 0 [(h0, .inr (9, [.int 0, .int 0, .int 0, .ref (q7), .ref (q15), .ref (q23), .int 0, .ref (q31), .ref (q39), .ref (q47), .ref (q55), .ref (q63), .ref (q71), .ref (q79), .int (-1 : Int32), .ref (q93), .ref (q101), .ref (q109), .int 0, .int 0, .int 0, .ref (q117), .ref (q125), .ref (q133), .null, .int 0, .null, .long 0, .null, .null, .int 0, .null, .int 0, .int 0, .int 0, .int 0, .null, .null, .null, .null, .null, .int 0])), (q7, .inl (cI, 6, .inl (fun _ => (0 : Int32)))), (q15, .inl (cI, 6, .inl (fun _ => (0 : Int32)))), (q23, .inl (cI, 6, .inl (fun _ => (0 : Int32)))), (q31, .inl (cI, 40, .inl (fun _ => (0 : Int32)))), (q39, .inl (cI, 40, .inl (fun _ => (0 : Int32)))), (q47, .inl (cI, 40, .inl (fun _ => (0 : Int32)))), (q55, .inl (cI, 40, .inl (fun _ => (0 : Int32)))), (q63, .inl (cI, 40, .inl (fun _ => (0 : Int32)))), (q71, .inl (cI, 40, .inl (fun _ => (0 : Int32)))), (q79, .inl (cI, 40, .inl (fun _ => (0 : Int32)))), (q93, .inl (cI, 361, .inl (fun _ => (0 : Int32)))), (q101, .inl (cI, 19, .inl (fun _ => (0 : Int32)))), (q109, .inl (cI, 19, .inl (fun _ => (0 : Int32)))), (q117, .inl (cI, 6, .inl (fun _ => (0 : Int32)))), (q125, .inl (cI, 6, .inl (fun _ => (0 : Int32)))), (q133, .inl (cI, 12, .inl (fun _ => (0 : Int32))))] rfl rfl rfl (Nat.le_of_ble_eq_true rfl) rfl ?_
  refine cn_aload_n hV dX10_init_138 rfl ?_
  refine cn_bipush hV (12 : Int32) dX10_init_139 (by decide) ?_
  refine cn_newI hV 12 ca_int dX10_init_141 (by decide) (by decide) (by decide) (by decide) (by decide) (fun q141 => ?_)
  refine cn_put hV hin cf_X10_62 dX10_init_143 0 [(h0, .inr (9, [.int 0, .int 0, .int 0, .ref (q7), .ref (q15), .ref (q23), .int 0, .ref (q31), .ref (q39), .ref (q47), .ref (q55), .ref (q63), .ref (q71), .ref (q79), .int (-1 : Int32), .ref (q93), .ref (q101), .ref (q109), .int 0, .int 0, .int 0, .ref (q117), .ref (q125), .ref (q133), .ref (q141), .int 0, .null, .long 0, .null, .null, .int 0, .null, .int 0, .int 0, .int 0, .int 0, .null, .null, .null, .null, .null, .int 0])), (q7, .inl (cI, 6, .inl (fun _ => (0 : Int32)))), (q15, .inl (cI, 6, .inl (fun _ => (0 : Int32)))), (q23, .inl (cI, 6, .inl (fun _ => (0 : Int32)))), (q31, .inl (cI, 40, .inl (fun _ => (0 : Int32)))), (q39, .inl (cI, 40, .inl (fun _ => (0 : Int32)))), (q47, .inl (cI, 40, .inl (fun _ => (0 : Int32)))), (q55, .inl (cI, 40, .inl (fun _ => (0 : Int32)))), (q63, .inl (cI, 40, .inl (fun _ => (0 : Int32)))), (q71, .inl (cI, 40, .inl (fun _ => (0 : Int32)))), (q79, .inl (cI, 40, .inl (fun _ => (0 : Int32)))), (q93, .inl (cI, 361, .inl (fun _ => (0 : Int32)))), (q101, .inl (cI, 19, .inl (fun _ => (0 : Int32)))), (q109, .inl (cI, 19, .inl (fun _ => (0 : Int32)))), (q117, .inl (cI, 6, .inl (fun _ => (0 : Int32)))), (q125, .inl (cI, 6, .inl (fun _ => (0 : Int32)))), (q133, .inl (cI, 12, .inl (fun _ => (0 : Int32)))), (q141, .inl (cI, 12, .inl (fun _ => (0 : Int32))))] rfl rfl rfl (Nat.le_of_ble_eq_true rfl) rfl ?_
  refine cn_aload_n hV dX10_init_146 rfl ?_
  refine cn_bipush hV (12 : Int32) dX10_init_147 (by decide) ?_
  refine cn_newI hV 12 ca_int dX10_init_149 (by decide) (by decide) (by decide) (by decide) (by decide) (fun q149 => ?_)
  refine cn_put hV hin cf_X10_65 dX10_init_151 0 [(h0, .inr (9, [.int 0, .int 0, .int 0, .ref (q7), .ref (q15), .ref (q23), .int 0, .ref (q31), .ref (q39), .ref (q47), .ref (q55), .ref (q63), .ref (q71), .ref (q79), .int (-1 : Int32), .ref (q93), .ref (q101), .ref (q109), .int 0, .int 0, .int 0, .ref (q117), .ref (q125), .ref (q133), .ref (q141), .int 0, .ref (q149), .long 0, .null, .null, .int 0, .null, .int 0, .int 0, .int 0, .int 0, .null, .null, .null, .null, .null, .int 0])), (q7, .inl (cI, 6, .inl (fun _ => (0 : Int32)))), (q15, .inl (cI, 6, .inl (fun _ => (0 : Int32)))), (q23, .inl (cI, 6, .inl (fun _ => (0 : Int32)))), (q31, .inl (cI, 40, .inl (fun _ => (0 : Int32)))), (q39, .inl (cI, 40, .inl (fun _ => (0 : Int32)))), (q47, .inl (cI, 40, .inl (fun _ => (0 : Int32)))), (q55, .inl (cI, 40, .inl (fun _ => (0 : Int32)))), (q63, .inl (cI, 40, .inl (fun _ => (0 : Int32)))), (q71, .inl (cI, 40, .inl (fun _ => (0 : Int32)))), (q79, .inl (cI, 40, .inl (fun _ => (0 : Int32)))), (q93, .inl (cI, 361, .inl (fun _ => (0 : Int32)))), (q101, .inl (cI, 19, .inl (fun _ => (0 : Int32)))), (q109, .inl (cI, 19, .inl (fun _ => (0 : Int32)))), (q117, .inl (cI, 6, .inl (fun _ => (0 : Int32)))), (q125, .inl (cI, 6, .inl (fun _ => (0 : Int32)))), (q133, .inl (cI, 12, .inl (fun _ => (0 : Int32)))), (q141, .inl (cI, 12, .inl (fun _ => (0 : Int32)))), (q149, .inl (cI, 12, .inl (fun _ => (0 : Int32))))] rfl rfl rfl (Nat.le_of_ble_eq_true rfl) rfl ?_
  refine cn_aload_n hV dX10_init_154 rfl ?_
  refine cn_bipush hV (12 : Int32) dX10_init_155 (by decide) ?_
  refine cn_newI hV 12 ca_int dX10_init_157 (by decide) (by decide) (by decide) (by decide) (by decide) (fun q157 => ?_)
  refine cn_put hV hin cf_X10_68 dX10_init_159 0 [(h0, .inr (9, [.int 0, .int 0, .int 0, .ref (q7), .ref (q15), .ref (q23), .int 0, .ref (q31), .ref (q39), .ref (q47), .ref (q55), .ref (q63), .ref (q71), .ref (q79), .int (-1 : Int32), .ref (q93), .ref (q101), .ref (q109), .int 0, .int 0, .int 0, .ref (q117), .ref (q125), .ref (q133), .ref (q141), .int 0, .ref (q149), .long 0, .ref (q157), .null, .int 0, .null, .int 0, .int 0, .int 0, .int 0, .null, .null, .null, .null, .null, .int 0])), (q7, .inl (cI, 6, .inl (fun _ => (0 : Int32)))), (q15, .inl (cI, 6, .inl (fun _ => (0 : Int32)))), (q23, .inl (cI, 6, .inl (fun _ => (0 : Int32)))), (q31, .inl (cI, 40, .inl (fun _ => (0 : Int32)))), (q39, .inl (cI, 40, .inl (fun _ => (0 : Int32)))), (q47, .inl (cI, 40, .inl (fun _ => (0 : Int32)))), (q55, .inl (cI, 40, .inl (fun _ => (0 : Int32)))), (q63, .inl (cI, 40, .inl (fun _ => (0 : Int32)))), (q71, .inl (cI, 40, .inl (fun _ => (0 : Int32)))), (q79, .inl (cI, 40, .inl (fun _ => (0 : Int32)))), (q93, .inl (cI, 361, .inl (fun _ => (0 : Int32)))), (q101, .inl (cI, 19, .inl (fun _ => (0 : Int32)))), (q109, .inl (cI, 19, .inl (fun _ => (0 : Int32)))), (q117, .inl (cI, 6, .inl (fun _ => (0 : Int32)))), (q125, .inl (cI, 6, .inl (fun _ => (0 : Int32)))), (q133, .inl (cI, 12, .inl (fun _ => (0 : Int32)))), (q141, .inl (cI, 12, .inl (fun _ => (0 : Int32)))), (q149, .inl (cI, 12, .inl (fun _ => (0 : Int32)))), (q157, .inl (cI, 12, .inl (fun _ => (0 : Int32))))] rfl rfl rfl (Nat.le_of_ble_eq_true rfl) rfl ?_
  refine cn_aload_n hV dX10_init_162 rfl ?_
  refine cn_sipush hV (4096 : Int32) dX10_init_163 (by decide) ?_
  refine cn_newJ hV 4096 ca_long dX10_init_166 (by decide) (by decide) (by decide) (by decide) (by decide) (fun q166 => ?_)
  refine cn_put hV hin cf_X10_71 dX10_init_168 0 [(h0, .inr (9, [.int 0, .int 0, .int 0, .ref (q7), .ref (q15), .ref (q23), .int 0, .ref (q31), .ref (q39), .ref (q47), .ref (q55), .ref (q63), .ref (q71), .ref (q79), .int (-1 : Int32), .ref (q93), .ref (q101), .ref (q109), .int 0, .int 0, .int 0, .ref (q117), .ref (q125), .ref (q133), .ref (q141), .int 0, .ref (q149), .long 0, .ref (q157), .ref (q166), .int 0, .null, .int 0, .int 0, .int 0, .int 0, .null, .null, .null, .null, .null, .int 0])), (q7, .inl (cI, 6, .inl (fun _ => (0 : Int32)))), (q15, .inl (cI, 6, .inl (fun _ => (0 : Int32)))), (q23, .inl (cI, 6, .inl (fun _ => (0 : Int32)))), (q31, .inl (cI, 40, .inl (fun _ => (0 : Int32)))), (q39, .inl (cI, 40, .inl (fun _ => (0 : Int32)))), (q47, .inl (cI, 40, .inl (fun _ => (0 : Int32)))), (q55, .inl (cI, 40, .inl (fun _ => (0 : Int32)))), (q63, .inl (cI, 40, .inl (fun _ => (0 : Int32)))), (q71, .inl (cI, 40, .inl (fun _ => (0 : Int32)))), (q79, .inl (cI, 40, .inl (fun _ => (0 : Int32)))), (q93, .inl (cI, 361, .inl (fun _ => (0 : Int32)))), (q101, .inl (cI, 19, .inl (fun _ => (0 : Int32)))), (q109, .inl (cI, 19, .inl (fun _ => (0 : Int32)))), (q117, .inl (cI, 6, .inl (fun _ => (0 : Int32)))), (q125, .inl (cI, 6, .inl (fun _ => (0 : Int32)))), (q133, .inl (cI, 12, .inl (fun _ => (0 : Int32)))), (q141, .inl (cI, 12, .inl (fun _ => (0 : Int32)))), (q149, .inl (cI, 12, .inl (fun _ => (0 : Int32)))), (q157, .inl (cI, 12, .inl (fun _ => (0 : Int32)))), (q166, .inl (cJ, 4096, .inr (.inl (fun _ => (0 : Int64)))))] rfl rfl rfl (Nat.le_of_ble_eq_true rfl) rfl ?_
  refine cn_aload_n hV dX10_init_171 rfl ?_
  refine cn_bipush hV (40 : Int32) dX10_init_172 (by decide) ?_
  refine cn_newI hV 40 ca_int dX10_init_174 (by decide) (by decide) (by decide) (by decide) (by decide) (fun q174 => ?_)
  refine cn_put hV hin cf_X10_75 dX10_init_176 0 [(h0, .inr (9, [.int 0, .int 0, .int 0, .ref (q7), .ref (q15), .ref (q23), .int 0, .ref (q31), .ref (q39), .ref (q47), .ref (q55), .ref (q63), .ref (q71), .ref (q79), .int (-1 : Int32), .ref (q93), .ref (q101), .ref (q109), .int 0, .int 0, .int 0, .ref (q117), .ref (q125), .ref (q133), .ref (q141), .int 0, .ref (q149), .long 0, .ref (q157), .ref (q166), .int 0, .ref (q174), .int 0, .int 0, .int 0, .int 0, .null, .null, .null, .null, .null, .int 0])), (q7, .inl (cI, 6, .inl (fun _ => (0 : Int32)))), (q15, .inl (cI, 6, .inl (fun _ => (0 : Int32)))), (q23, .inl (cI, 6, .inl (fun _ => (0 : Int32)))), (q31, .inl (cI, 40, .inl (fun _ => (0 : Int32)))), (q39, .inl (cI, 40, .inl (fun _ => (0 : Int32)))), (q47, .inl (cI, 40, .inl (fun _ => (0 : Int32)))), (q55, .inl (cI, 40, .inl (fun _ => (0 : Int32)))), (q63, .inl (cI, 40, .inl (fun _ => (0 : Int32)))), (q71, .inl (cI, 40, .inl (fun _ => (0 : Int32)))), (q79, .inl (cI, 40, .inl (fun _ => (0 : Int32)))), (q93, .inl (cI, 361, .inl (fun _ => (0 : Int32)))), (q101, .inl (cI, 19, .inl (fun _ => (0 : Int32)))), (q109, .inl (cI, 19, .inl (fun _ => (0 : Int32)))), (q117, .inl (cI, 6, .inl (fun _ => (0 : Int32)))), (q125, .inl (cI, 6, .inl (fun _ => (0 : Int32)))), (q133, .inl (cI, 12, .inl (fun _ => (0 : Int32)))), (q141, .inl (cI, 12, .inl (fun _ => (0 : Int32)))), (q149, .inl (cI, 12, .inl (fun _ => (0 : Int32)))), (q157, .inl (cI, 12, .inl (fun _ => (0 : Int32)))), (q166, .inl (cJ, 4096, .inr (.inl (fun _ => (0 : Int64))))), (q174, .inl (cI, 40, .inl (fun _ => (0 : Int32))))] rfl rfl rfl (Nat.le_of_ble_eq_true rfl) rfl ?_
  refine cn_aload_n hV dX10_init_179 rfl ?_
  refine cn_iconst hV (4 : Int32) dX10_init_180 (by decide) ?_
  refine cn_newZ hV 4 ca_boolean dX10_init_181 (by decide) (by decide) (by decide) (by decide) (by decide) (fun q181 => ?_)
  refine cn_put hV hin cf_X10_78 dX10_init_183 0 [(h0, .inr (9, [.int 0, .int 0, .int 0, .ref (q7), .ref (q15), .ref (q23), .int 0, .ref (q31), .ref (q39), .ref (q47), .ref (q55), .ref (q63), .ref (q71), .ref (q79), .int (-1 : Int32), .ref (q93), .ref (q101), .ref (q109), .int 0, .int 0, .int 0, .ref (q117), .ref (q125), .ref (q133), .ref (q141), .int 0, .ref (q149), .long 0, .ref (q157), .ref (q166), .int 0, .ref (q174), .int 0, .int 0, .int 0, .int 0, .ref (q181), .null, .null, .null, .null, .int 0])), (q7, .inl (cI, 6, .inl (fun _ => (0 : Int32)))), (q15, .inl (cI, 6, .inl (fun _ => (0 : Int32)))), (q23, .inl (cI, 6, .inl (fun _ => (0 : Int32)))), (q31, .inl (cI, 40, .inl (fun _ => (0 : Int32)))), (q39, .inl (cI, 40, .inl (fun _ => (0 : Int32)))), (q47, .inl (cI, 40, .inl (fun _ => (0 : Int32)))), (q55, .inl (cI, 40, .inl (fun _ => (0 : Int32)))), (q63, .inl (cI, 40, .inl (fun _ => (0 : Int32)))), (q71, .inl (cI, 40, .inl (fun _ => (0 : Int32)))), (q79, .inl (cI, 40, .inl (fun _ => (0 : Int32)))), (q93, .inl (cI, 361, .inl (fun _ => (0 : Int32)))), (q101, .inl (cI, 19, .inl (fun _ => (0 : Int32)))), (q109, .inl (cI, 19, .inl (fun _ => (0 : Int32)))), (q117, .inl (cI, 6, .inl (fun _ => (0 : Int32)))), (q125, .inl (cI, 6, .inl (fun _ => (0 : Int32)))), (q133, .inl (cI, 12, .inl (fun _ => (0 : Int32)))), (q141, .inl (cI, 12, .inl (fun _ => (0 : Int32)))), (q149, .inl (cI, 12, .inl (fun _ => (0 : Int32)))), (q157, .inl (cI, 12, .inl (fun _ => (0 : Int32)))), (q166, .inl (cJ, 4096, .inr (.inl (fun _ => (0 : Int64))))), (q174, .inl (cI, 40, .inl (fun _ => (0 : Int32)))), (q181, .inl (cZ, 4, .inl (fun _ => (0 : Int32))))] rfl rfl rfl (Nat.le_of_ble_eq_true rfl) rfl ?_
  refine cn_aload_n hV dX10_init_186 rfl ?_
  refine cn_iconst hV (4 : Int32) dX10_init_187 (by decide) ?_
  refine cn_newI hV 4 ca_int dX10_init_188 (by decide) (by decide) (by decide) (by decide) (by decide) (fun q188 => ?_)
  refine cn_put hV hin cf_X10_82 dX10_init_190 0 [(h0, .inr (9, [.int 0, .int 0, .int 0, .ref (q7), .ref (q15), .ref (q23), .int 0, .ref (q31), .ref (q39), .ref (q47), .ref (q55), .ref (q63), .ref (q71), .ref (q79), .int (-1 : Int32), .ref (q93), .ref (q101), .ref (q109), .int 0, .int 0, .int 0, .ref (q117), .ref (q125), .ref (q133), .ref (q141), .int 0, .ref (q149), .long 0, .ref (q157), .ref (q166), .int 0, .ref (q174), .int 0, .int 0, .int 0, .int 0, .ref (q181), .ref (q188), .null, .null, .null, .int 0])), (q7, .inl (cI, 6, .inl (fun _ => (0 : Int32)))), (q15, .inl (cI, 6, .inl (fun _ => (0 : Int32)))), (q23, .inl (cI, 6, .inl (fun _ => (0 : Int32)))), (q31, .inl (cI, 40, .inl (fun _ => (0 : Int32)))), (q39, .inl (cI, 40, .inl (fun _ => (0 : Int32)))), (q47, .inl (cI, 40, .inl (fun _ => (0 : Int32)))), (q55, .inl (cI, 40, .inl (fun _ => (0 : Int32)))), (q63, .inl (cI, 40, .inl (fun _ => (0 : Int32)))), (q71, .inl (cI, 40, .inl (fun _ => (0 : Int32)))), (q79, .inl (cI, 40, .inl (fun _ => (0 : Int32)))), (q93, .inl (cI, 361, .inl (fun _ => (0 : Int32)))), (q101, .inl (cI, 19, .inl (fun _ => (0 : Int32)))), (q109, .inl (cI, 19, .inl (fun _ => (0 : Int32)))), (q117, .inl (cI, 6, .inl (fun _ => (0 : Int32)))), (q125, .inl (cI, 6, .inl (fun _ => (0 : Int32)))), (q133, .inl (cI, 12, .inl (fun _ => (0 : Int32)))), (q141, .inl (cI, 12, .inl (fun _ => (0 : Int32)))), (q149, .inl (cI, 12, .inl (fun _ => (0 : Int32)))), (q157, .inl (cI, 12, .inl (fun _ => (0 : Int32)))), (q166, .inl (cJ, 4096, .inr (.inl (fun _ => (0 : Int64))))), (q174, .inl (cI, 40, .inl (fun _ => (0 : Int32)))), (q181, .inl (cZ, 4, .inl (fun _ => (0 : Int32)))), (q188, .inl (cI, 4, .inl (fun _ => (0 : Int32))))] rfl rfl rfl (Nat.le_of_ble_eq_true rfl) rfl ?_
  refine cn_aload_n hV dX10_init_193 rfl ?_
  refine cn_iconst hV (4 : Int32) dX10_init_194 (by decide) ?_
  refine cn_newI hV 4 ca_int dX10_init_195 (by decide) (by decide) (by decide) (by decide) (by decide) (fun q195 => ?_)
  refine cn_put hV hin cf_X10_85 dX10_init_197 0 [(h0, .inr (9, [.int 0, .int 0, .int 0, .ref (q7), .ref (q15), .ref (q23), .int 0, .ref (q31), .ref (q39), .ref (q47), .ref (q55), .ref (q63), .ref (q71), .ref (q79), .int (-1 : Int32), .ref (q93), .ref (q101), .ref (q109), .int 0, .int 0, .int 0, .ref (q117), .ref (q125), .ref (q133), .ref (q141), .int 0, .ref (q149), .long 0, .ref (q157), .ref (q166), .int 0, .ref (q174), .int 0, .int 0, .int 0, .int 0, .ref (q181), .ref (q188), .ref (q195), .null, .null, .int 0])), (q7, .inl (cI, 6, .inl (fun _ => (0 : Int32)))), (q15, .inl (cI, 6, .inl (fun _ => (0 : Int32)))), (q23, .inl (cI, 6, .inl (fun _ => (0 : Int32)))), (q31, .inl (cI, 40, .inl (fun _ => (0 : Int32)))), (q39, .inl (cI, 40, .inl (fun _ => (0 : Int32)))), (q47, .inl (cI, 40, .inl (fun _ => (0 : Int32)))), (q55, .inl (cI, 40, .inl (fun _ => (0 : Int32)))), (q63, .inl (cI, 40, .inl (fun _ => (0 : Int32)))), (q71, .inl (cI, 40, .inl (fun _ => (0 : Int32)))), (q79, .inl (cI, 40, .inl (fun _ => (0 : Int32)))), (q93, .inl (cI, 361, .inl (fun _ => (0 : Int32)))), (q101, .inl (cI, 19, .inl (fun _ => (0 : Int32)))), (q109, .inl (cI, 19, .inl (fun _ => (0 : Int32)))), (q117, .inl (cI, 6, .inl (fun _ => (0 : Int32)))), (q125, .inl (cI, 6, .inl (fun _ => (0 : Int32)))), (q133, .inl (cI, 12, .inl (fun _ => (0 : Int32)))), (q141, .inl (cI, 12, .inl (fun _ => (0 : Int32)))), (q149, .inl (cI, 12, .inl (fun _ => (0 : Int32)))), (q157, .inl (cI, 12, .inl (fun _ => (0 : Int32)))), (q166, .inl (cJ, 4096, .inr (.inl (fun _ => (0 : Int64))))), (q174, .inl (cI, 40, .inl (fun _ => (0 : Int32)))), (q181, .inl (cZ, 4, .inl (fun _ => (0 : Int32)))), (q188, .inl (cI, 4, .inl (fun _ => (0 : Int32)))), (q195, .inl (cI, 4, .inl (fun _ => (0 : Int32))))] rfl rfl rfl (Nat.le_of_ble_eq_true rfl) rfl ?_
  refine cn_aload_n hV dX10_init_200 rfl ?_
  refine cn_sipush hV (160 : Int32) dX10_init_201 (by decide) ?_
  refine cn_newI hV 160 ca_int dX10_init_204 (by decide) (by decide) (by decide) (by decide) (by decide) (fun q204 => ?_)
  refine cn_put hV hin cf_X10_88 dX10_init_206 0 [(h0, .inr (9, [.int 0, .int 0, .int 0, .ref (q7), .ref (q15), .ref (q23), .int 0, .ref (q31), .ref (q39), .ref (q47), .ref (q55), .ref (q63), .ref (q71), .ref (q79), .int (-1 : Int32), .ref (q93), .ref (q101), .ref (q109), .int 0, .int 0, .int 0, .ref (q117), .ref (q125), .ref (q133), .ref (q141), .int 0, .ref (q149), .long 0, .ref (q157), .ref (q166), .int 0, .ref (q174), .int 0, .int 0, .int 0, .int 0, .ref (q181), .ref (q188), .ref (q195), .ref (q204), .null, .int 0])), (q7, .inl (cI, 6, .inl (fun _ => (0 : Int32)))), (q15, .inl (cI, 6, .inl (fun _ => (0 : Int32)))), (q23, .inl (cI, 6, .inl (fun _ => (0 : Int32)))), (q31, .inl (cI, 40, .inl (fun _ => (0 : Int32)))), (q39, .inl (cI, 40, .inl (fun _ => (0 : Int32)))), (q47, .inl (cI, 40, .inl (fun _ => (0 : Int32)))), (q55, .inl (cI, 40, .inl (fun _ => (0 : Int32)))), (q63, .inl (cI, 40, .inl (fun _ => (0 : Int32)))), (q71, .inl (cI, 40, .inl (fun _ => (0 : Int32)))), (q79, .inl (cI, 40, .inl (fun _ => (0 : Int32)))), (q93, .inl (cI, 361, .inl (fun _ => (0 : Int32)))), (q101, .inl (cI, 19, .inl (fun _ => (0 : Int32)))), (q109, .inl (cI, 19, .inl (fun _ => (0 : Int32)))), (q117, .inl (cI, 6, .inl (fun _ => (0 : Int32)))), (q125, .inl (cI, 6, .inl (fun _ => (0 : Int32)))), (q133, .inl (cI, 12, .inl (fun _ => (0 : Int32)))), (q141, .inl (cI, 12, .inl (fun _ => (0 : Int32)))), (q149, .inl (cI, 12, .inl (fun _ => (0 : Int32)))), (q157, .inl (cI, 12, .inl (fun _ => (0 : Int32)))), (q166, .inl (cJ, 4096, .inr (.inl (fun _ => (0 : Int64))))), (q174, .inl (cI, 40, .inl (fun _ => (0 : Int32)))), (q181, .inl (cZ, 4, .inl (fun _ => (0 : Int32)))), (q188, .inl (cI, 4, .inl (fun _ => (0 : Int32)))), (q195, .inl (cI, 4, .inl (fun _ => (0 : Int32)))), (q204, .inl (cI, 160, .inl (fun _ => (0 : Int32))))] rfl rfl rfl (Nat.le_of_ble_eq_true rfl) rfl ?_
  refine cn_aload_n hV dX10_init_209 rfl ?_
  refine cn_bipush hV (40 : Int32) dX10_init_210 (by decide) ?_
  refine cn_newI hV 40 ca_int dX10_init_212 (by decide) (by decide) (by decide) (by decide) (by decide) (fun q212 => ?_)
  refine cn_put hV hin cf_X10_91 dX10_init_214 0 [(h0, .inr (9, [.int 0, .int 0, .int 0, .ref (q7), .ref (q15), .ref (q23), .int 0, .ref (q31), .ref (q39), .ref (q47), .ref (q55), .ref (q63), .ref (q71), .ref (q79), .int (-1 : Int32), .ref (q93), .ref (q101), .ref (q109), .int 0, .int 0, .int 0, .ref (q117), .ref (q125), .ref (q133), .ref (q141), .int 0, .ref (q149), .long 0, .ref (q157), .ref (q166), .int 0, .ref (q174), .int 0, .int 0, .int 0, .int 0, .ref (q181), .ref (q188), .ref (q195), .ref (q204), .ref (q212), .int 0])), (q7, .inl (cI, 6, .inl (fun _ => (0 : Int32)))), (q15, .inl (cI, 6, .inl (fun _ => (0 : Int32)))), (q23, .inl (cI, 6, .inl (fun _ => (0 : Int32)))), (q31, .inl (cI, 40, .inl (fun _ => (0 : Int32)))), (q39, .inl (cI, 40, .inl (fun _ => (0 : Int32)))), (q47, .inl (cI, 40, .inl (fun _ => (0 : Int32)))), (q55, .inl (cI, 40, .inl (fun _ => (0 : Int32)))), (q63, .inl (cI, 40, .inl (fun _ => (0 : Int32)))), (q71, .inl (cI, 40, .inl (fun _ => (0 : Int32)))), (q79, .inl (cI, 40, .inl (fun _ => (0 : Int32)))), (q93, .inl (cI, 361, .inl (fun _ => (0 : Int32)))), (q101, .inl (cI, 19, .inl (fun _ => (0 : Int32)))), (q109, .inl (cI, 19, .inl (fun _ => (0 : Int32)))), (q117, .inl (cI, 6, .inl (fun _ => (0 : Int32)))), (q125, .inl (cI, 6, .inl (fun _ => (0 : Int32)))), (q133, .inl (cI, 12, .inl (fun _ => (0 : Int32)))), (q141, .inl (cI, 12, .inl (fun _ => (0 : Int32)))), (q149, .inl (cI, 12, .inl (fun _ => (0 : Int32)))), (q157, .inl (cI, 12, .inl (fun _ => (0 : Int32)))), (q166, .inl (cJ, 4096, .inr (.inl (fun _ => (0 : Int64))))), (q174, .inl (cI, 40, .inl (fun _ => (0 : Int32)))), (q181, .inl (cZ, 4, .inl (fun _ => (0 : Int32)))), (q188, .inl (cI, 4, .inl (fun _ => (0 : Int32)))), (q195, .inl (cI, 4, .inl (fun _ => (0 : Int32)))), (q204, .inl (cI, 160, .inl (fun _ => (0 : Int32)))), (q212, .inl (cI, 40, .inl (fun _ => (0 : Int32))))] rfl rfl rfl (Nat.le_of_ble_eq_true rfl) rfl ?_
  exact hend _ _ _ [h0, q7, q15, q23, q31, q39, q47, q55, q63, q71, q79, q93, q101, q109, q117, q125, q133, q141, q149, q157, q166, q174, q181, q188, q195, q204, q212] [0, 1, 2, 3, 4, 5, 6, 7, 8, 9, 10, 11, 12, 13, 14, 15, 16, 17, 18, 19, 20, 21, 22, 23, 24, 25, 26] [(h0, .inr (9, [.int 0, .int 0, .int 0, .ref (q7), .ref (q15), .ref (q23), .int 0, .ref (q31), .ref (q39), .ref (q47), .ref (q55), .ref (q63), .ref (q71), .ref (q79), .int (-1 : Int32), .ref (q93), .ref (q101), .ref (q109), .int 0, .int 0, .int 0, .ref (q117), .ref (q125), .ref (q133), .ref (q141), .int 0, .ref (q149), .long 0, .ref (q157), .ref (q166), .int 0, .ref (q174), .int 0, .int 0, .int 0, .int 0, .ref (q181), .ref (q188), .ref (q195), .ref (q204), .ref (q212), .int 0])), (q7, .inl (cI, 6, .inl (fun _ => (0 : Int32)))), (q15, .inl (cI, 6, .inl (fun _ => (0 : Int32)))), (q23, .inl (cI, 6, .inl (fun _ => (0 : Int32)))), (q31, .inl (cI, 40, .inl (fun _ => (0 : Int32)))), (q39, .inl (cI, 40, .inl (fun _ => (0 : Int32)))), (q47, .inl (cI, 40, .inl (fun _ => (0 : Int32)))), (q55, .inl (cI, 40, .inl (fun _ => (0 : Int32)))), (q63, .inl (cI, 40, .inl (fun _ => (0 : Int32)))), (q71, .inl (cI, 40, .inl (fun _ => (0 : Int32)))), (q79, .inl (cI, 40, .inl (fun _ => (0 : Int32)))), (q93, .inl (cI, 361, .inl (fun _ => (0 : Int32)))), (q101, .inl (cI, 19, .inl (fun _ => (0 : Int32)))), (q109, .inl (cI, 19, .inl (fun _ => (0 : Int32)))), (q117, .inl (cI, 6, .inl (fun _ => (0 : Int32)))), (q125, .inl (cI, 6, .inl (fun _ => (0 : Int32)))), (q133, .inl (cI, 12, .inl (fun _ => (0 : Int32)))), (q141, .inl (cI, 12, .inl (fun _ => (0 : Int32)))), (q149, .inl (cI, 12, .inl (fun _ => (0 : Int32)))), (q157, .inl (cI, 12, .inl (fun _ => (0 : Int32)))), (q166, .inl (cJ, 4096, .inr (.inl (fun _ => (0 : Int64))))), (q174, .inl (cI, 40, .inl (fun _ => (0 : Int32)))), (q181, .inl (cZ, 4, .inl (fun _ => (0 : Int32)))), (q188, .inl (cI, 4, .inl (fun _ => (0 : Int32)))), (q195, .inl (cI, 4, .inl (fun _ => (0 : Int32)))), (q204, .inl (cI, 160, .inl (fun _ => (0 : Int32)))), (q212, .inl (cI, 40, .inl (fun _ => (0 : Int32))))] rfl (by decide) rfl dX10_init_217
