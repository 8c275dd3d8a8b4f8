theorem dX9_init_0 : decode cX9_init 0 = .ok (.aload_n 0, 1) := by decide +kernel
theorem dX9_init_1 : decode cX9_init 1 = .ok (.invokespecial 1, 3) := by decide +kernel
theorem dX9_init_4 : decode cX9_init 4 = .ok (.aload_n 0, 1) := by decide +kernel
theorem dX9_init_5 : decode cX9_init 5 = .ok (.new 7, 3) := by decide +kernel
theorem dX9_init_8 : decode cX9_init 8 = .ok (.dup, 1) := by decide +kernel
theorem dX9_init_9 : decode cX9_init 9 = .ok (.invokespecial 9, 3) := by decide +kernel
theorem dX9_init_12 : decode cX9_init 12 = .ok (.putfield 10, 3) := by decide +kernel
theorem dX9_init_15 : decode cX9_init 15 = .ok (.aload_n 0, 1) := by decide +kernel
theorem dX9_init_16 : decode cX9_init 16 = .ok (.aload_n 0, 1) := by decide +kernel
theorem dX9_init_17 : decode cX9_init 17 = .ok (.getfield 10, 3) := by decide +kernel
theorem dX9_init_20 : decode cX9_init 20 = .ok (.getfield 16, 3) := by decide +kernel
theorem dX9_init_23 : decode cX9_init 23 = .ok (.putfield 20, 3) := by decide +kernel
theorem dX9_init_26 : decode cX9_init 26 = .ok (.aload_n 0, 1) := by decide +kernel
theorem dX9_init_27 : decode cX9_init 27 = .ok (.aload_n 0, 1) := by decide +kernel
theorem dX9_init_28 : decode cX9_init 28 = .ok (.getfield 10, 3) := by decide +kernel
theorem dX9_init_31 : decode cX9_init 31 = .ok (.getfield 21, 3) := by decide +kernel
theorem dX9_init_34 : decode cX9_init 34 = .ok (.putfield 25, 3) := by decide +kernel
theorem dX9_init_37 : decode cX9_init 37 = .ok (.aload_n 0, 1) := by decide +kernel
theorem dX9_init_38 : decode cX9_init 38 = .ok (.new 26, 3) := by decide +kernel
theorem dX9_init_41 : decode cX9_init 41 = .ok (.dup, 1) := by decide +kernel
theorem dX9_init_42 : decode cX9_init 42 = .ok (.invokespecial 28, 3) := by decide +kernel
theorem dX9_init_45 : decode cX9_init 45 = .ok (.putfield 29, 3) := by decide +kernel
theorem dX9_init_48 : decode cX9_init 48 = .ok (.aload_n 0, 1) := by decide +kernel
theorem dX9_init_49 : decode cX9_init 49 = .ok (.new 33, 3) := by decide +kernel
theorem dX9_init_52 : decode cX9_init 52 = .ok (.dup, 1) := by decide +kernel
theorem dX9_init_53 : decode cX9_init 53 = .ok (.invokespecial 35, 3) := by decide +kernel
theorem dX9_init_56 : decode cX9_init 56 = .ok (.putfield 36, 3) := by decide +kernel
theorem dX9_init_59 : decode cX9_init 59 = .ok (.aload_n 0, 1) := by decide +kernel
theorem dX9_init_60 : decode cX9_init 60 = .ok (.new 40, 3) := by decide +kernel
theorem dX9_init_63 : decode cX9_init 63 = .ok (.dup, 1) := by decide +kernel
theorem dX9_init_64 : decode cX9_init 64 = .ok (.invokespecial 42, 3) := by decide +kernel
theorem dX9_init_67 : decode cX9_init 67 = .ok (.putfield 43, 3) := by decide +kernel
theorem dX9_init_70 : decode cX9_init 70 = .ok (.aload_n 0, 1) := by decide +kernel
theorem dX9_init_71 : decode cX9_init 71 = .ok (.new 47, 3) := by decide +kernel
theorem dX9_init_74 : decode cX9_init 74 = .ok (.dup, 1) := by decide +kernel
theorem dX9_init_75 : decode cX9_init 75 = .ok (.invokespecial 49, 3) := by decide +kernel
theorem dX9_init_78 : decode cX9_init 78 = .ok (.putfield 50, 3) := by decide +kernel
theorem dX9_init_81 : decode cX9_init 81 = .ok (.aload_n 0, 1) := by decide +kernel
theorem dX9_init_82 : decode cX9_init 82 = .ok (.new 54, 3) := by decide +kernel
theorem dX9_init_85 : decode cX9_init 85 = .ok (.dup, 1) := by decide +kernel
theorem dX9_init_86 : decode cX9_init 86 = .ok (.invokespecial 56, 3) := by decide +kernel
theorem dX9_init_89 : decode cX9_init 89 = .ok (.putfield 57, 3) := by decide +kernel
theorem dX9_init_92 : decode cX9_init 92 = .ok (.aload_n 0, 1) := by decide +kernel
theorem dX9_init_93 : decode cX9_init 93 = .ok (.iconst 0, 1) := by decide +kernel
theorem dX9_init_94 : decode cX9_init 94 = .ok (.putfield 61, 3) := by decide +kernel
theorem dX9_init_97 : decode cX9_init 97 = .ok (.aload_n 0, 1) := by decide +kernel
theorem dX9_init_98 : decode cX9_init 98 = .ok (.iconst (-1), 1) := by decide +kernel
theorem dX9_init_99 : decode cX9_init 99 = .ok (.putfield 65, 3) := by decide +kernel
theorem dX9_init_102 : decode cX9_init 102 = .ok (.aload_n 0, 1) := by decide +kernel
theorem dX9_init_103 : decode cX9_init 103 = .ok (.iconst 0, 1) := by decide +kernel
theorem dX9_init_104 : decode cX9_init 104 = .ok (.putfield 68, 3) := by decide +kernel
theorem dX9_init_107 : decode cX9_init 107 = .ok (.aload_n 0, 1) := by decide +kernel
theorem dX9_init_108 : decode cX9_init 108 = .ok (.iconst 0, 1) := by decide +kernel
theorem dX9_init_109 : decode cX9_init 109 = .ok (.putfield 71, 3) := by decide +kernel
theorem dX9_init_112 : decode cX9_init 112 = .ok (.return_, 1) := by decide +kernel
theorem dX9_pass_0 : decode cX9_pass 0 = .ok (.iload_n 1, 1) := by decide +kernel
theorem dX9_pass_1 : decode cX9_pass 1 = .ok (.iconst 1, 1) := by decide +kernel
theorem dX9_pass_2 : decode cX9_pass 2 = .ok (.if_icmp .lt 21, 3) := by decide +kernel
theorem dX9_pass_5 : decode cX9_pass 5 = .ok (.iload_n 1, 1) := by decide +kernel
theorem dX9_pass_6 : decode cX9_pass 6 = .ok (.bipush 100, 2) := by decide +kernel
theorem dX9_pass_8 : decode cX9_pass 8 = .ok (.if_icmp .gt 15, 3) := by decide +kernel
theorem dX9_pass_11 : decode cX9_pass 11 = .ok (.aload_n 0, 1) := by decide +kernel
theorem dX9_pass_12 : decode cX9_pass 12 = .ok (.getfield 61, 3) := by decide +kernel
theorem dX9_pass_15 : decode cX9_pass 15 = .ok (.iload_n 1, 1) := by decide +kernel
theorem dX9_pass_16 : decode cX9_pass 16 = .ok (.iadd, 1) := by decide +kernel
theorem dX9_pass_17 : decode cX9_pass 17 = .ok (.sipush 399, 3) := by decide +kernel
theorem dX9_pass_20 : decode cX9_pass 20 = .ok (.if_icmp .le 6, 3) := by decide +kernel
theorem dX9_pass_23 : decode cX9_pass 23 = .ok (.bipush (-2), 2) := by decide +kernel
theorem dX9_pass_25 : decode cX9_pass 25 = .ok (.ireturn, 1) := by decide +kernel
theorem dX9_pass_26 : decode cX9_pass 26 = .ok (.aload_n 0, 1) := by decide +kernel
theorem dX9_pass_27 : decode cX9_pass 27 = .ok (.dup, 1) := by decide +kernel
theorem dX9_pass_28 : decode cX9_pass 28 = .ok (.getfield 61, 3) := by decide +kernel
theorem dX9_pass_31 : decode cX9_pass 31 = .ok (.iload_n 1, 1) := by decide +kernel
theorem dX9_pass_32 : decode cX9_pass 32 = .ok (.iadd, 1) := by decide +kernel
theorem dX9_pass_33 : decode cX9_pass 33 = .ok (.putfield 61, 3) := by decide +kernel
theorem dX9_pass_36 : decode cX9_pass 36 = .ok (.aload_n 0, 1) := by decide +kernel
theorem dX9_pass_37 : decode cX9_pass 37 = .ok (.getfield 61, 3) := by decide +kernel
theorem dX9_pass_40 : decode cX9_pass 40 = .ok (.ireturn, 1) := by decide +kernel
theorem dX9_thing_0 : decode cX9_thing 0 = .ok (.aload_n 0, 1) := by decide +kernel
theorem dX9_thing_1 : decode cX9_thing 1 = .ok (.getfield 68, 3) := by decide +kernel
theorem dX9_thing_4 : decode cX9_thing 4 = .ok (.bipush 12, 2) := by decide +kernel
theorem dX9_thing_6 : decode cX9_thing 6 = .ok (.if_icmp .lt 6, 3) := by decide +kernel
theorem dX9_thing_9 : decode cX9_thing 9 = .ok (.bipush (-4), 2) := by decide +kernel
theorem dX9_thing_11 : decode cX9_thing 11 = .ok (.ireturn, 1) := by decide +kernel
theorem dX9_thing_12 : decode cX9_thing 12 = .ok (.aload_n 0, 1) := by decide +kernel
theorem dX9_thing_13 : decode cX9_thing 13 = .ok (.dup, 1) := by decide +kernel
theorem dX9_thing_14 : decode cX9_thing 14 = .ok (.getfield 68, 3) := by decide +kernel
theorem dX9_thing_17 : decode cX9_thing 17 = .ok (.iconst 1, 1) := by decide +kernel
theorem dX9_thing_18 : decode cX9_thing 18 = .ok (.iadd, 1) := by decide +kernel
theorem dX9_thing_19 : decode cX9_thing 19 = .ok (.putfield 68, 3) := by decide +kernel
theorem dX9_thing_22 : decode cX9_thing 22 = .ok (.aload_n 0, 1) := by decide +kernel
theorem dX9_thing_23 : decode cX9_thing 23 = .ok (.getfield 68, 3) := by decide +kernel
theorem dX9_thing_26 : decode cX9_thing 26 = .ok (.iconst 1, 1) := by decide +kernel
theorem dX9_thing_27 : decode cX9_thing 27 = .ok (.isub, 1) := by decide +kernel
theorem dX9_thing_28 : decode cX9_thing 28 = .ok (.ireturn, 1) := by decide +kernel
theorem dX9_book_0 : decode cX9_book 0 = .ok (.iload_n 1, 1) := by decide +kernel
theorem dX9_book_1 : decode cX9_book 1 = .ok (.iload_n 2, 1) := by decide +kernel
theorem dX9_book_2 : decode cX9_book 2 = .ok (.sipush 1000, 3) := by decide +kernel
theorem dX9_book_5 : decode cX9_book 5 = .ok (.invokestatic 74, 3) := by decide +kernel
theorem dX9_book_8 : decode cX9_book 8 = .ok (.ifCond .ne 6, 3) := by decide +kernel
theorem dX9_book_11 : decode cX9_book 11 = .ok (.bipush (-2), 2) := by decide +kernel
theorem dX9_book_13 : decode cX9_book 13 = .ok (.ireturn, 1) := by decide +kernel
theorem dX9_book_14 : decode cX9_book 14 = .ok (.aload_n 0, 1) := by decide +kernel
theorem dX9_book_15 : decode cX9_book 15 = .ok (.getfield 20, 3) := by decide +kernel
theorem dX9_book_18 : decode cX9_book 18 = .ok (.iload_n 1, 1) := by decide +kernel
theorem dX9_book_19 : decode cX9_book 19 = .ok (.iload_n 2, 1) := by decide +kernel
theorem dX9_book_20 : decode cX9_book 20 = .ok (.invokevirtual 78, 3) := by decide +kernel
theorem dX9_book_23 : decode cX9_book 23 = .ok (.ireturn, 1) := by decide +kernel
theorem dX9_trust_0 : decode cX9_trust 0 = .ok (.aload_n 0, 1) := by decide +kernel
theorem dX9_trust_1 : decode cX9_trust 1 = .ok (.iload_n 1, 1) := by decide +kernel
theorem dX9_trust_2 : decode cX9_trust 2 = .ok (.invokevirtual 84, 3) := by decide +kernel
theorem dX9_trust_5 : decode cX9_trust 5 = .ok (.ifCond .eq 14, 3) := by decide +kernel
theorem dX9_trust_8 : decode cX9_trust 8 = .ok (.iload_n 2, 1) := by decide +kernel
theorem dX9_trust_9 : decode cX9_trust 9 = .ok (.iconst 1, 1) := by decide +kernel
theorem dX9_trust_10 : decode cX9_trust 10 = .ok (.if_icmp .lt 9, 3) := by decide +kernel
theorem dX9_trust_13 : decode cX9_trust 13 = .ok (.iload_n 2, 1) := by decide +kernel
theorem dX9_trust_14 : decode cX9_trust 14 = .ok (.bipush 9, 2) := by decide +kernel
theorem dX9_trust_16 : decode cX9_trust 16 = .ok (.if_icmp .le 6, 3) := by decide +kernel
theorem dX9_trust_19 : decode cX9_trust 19 = .ok (.bipush (-2), 2) := by decide +kernel
theorem dX9_trust_21 : decode cX9_trust 21 = .ok (.ireturn, 1) := by decide +kernel
theorem dX9_trust_22 : decode cX9_trust 22 = .ok (.aload_n 0, 1) := by decide +kernel
theorem dX9_trust_23 : decode cX9_trust 23 = .ok (.getfield 20, 3) := by decide +kernel
theorem dX9_trust_26 : decode cX9_trust 26 = .ok (.getfield 88, 3) := by decide +kernel
theorem dX9_trust_29 : decode cX9_trust 29 = .ok (.iload_n 1, 1) := by decide +kernel
theorem dX9_trust_30 : decode cX9_trust 30 = .ok (.iaload, 1) := by decide +kernel
theorem dX9_trust_31 : decode cX9_trust 31 = .ok (.istore_n 3, 1) := by decide +kernel
theorem dX9_trust_32 : decode cX9_trust 32 = .ok (.aload_n 0, 1) := by decide +kernel
theorem dX9_trust_33 : decode cX9_trust 33 = .ok (.getfield 20, 3) := by decide +kernel
theorem dX9_trust_36 : decode cX9_trust 36 = .ok (.getfield 88, 3) := by decide +kernel
theorem dX9_trust_39 : decode cX9_trust 39 = .ok (.iload_n 1, 1) := by decide +kernel
theorem dX9_trust_40 : decode cX9_trust 40 = .ok (.iload_n 2, 1) := by decide +kernel
theorem dX9_trust_41 : decode cX9_trust 41 = .ok (.iastore, 1) := by decide +kernel
theorem dX9_trust_42 : decode cX9_trust 42 = .ok (.iload_n 3, 1) := by decide +kernel
theorem dX9_trust_43 : decode cX9_trust 43 = .ok (.ireturn, 1) := by decide +kernel
theorem dX9_on_0 : decode cX9_on 0 = .ok (.aload_n 0, 1) := by decide +kernel
theorem dX9_on_1 : decode cX9_on 1 = .ok (.iload_n 1, 1) := by decide +kernel
theorem dX9_on_2 : decode cX9_on 2 = .ok (.invokevirtual 84, 3) := by decide +kernel
theorem dX9_on_5 : decode cX9_on 5 = .ok (.ifCond .eq 22, 3) := by decide +kernel
theorem dX9_on_8 : decode cX9_on 8 = .ok (.aload_n 0, 1) := by decide +kernel
theorem dX9_on_9 : decode cX9_on 9 = .ok (.iload_n 2, 1) := by decide +kernel
theorem dX9_on_10 : decode cX9_on 10 = .ok (.invokevirtual 92, 3) := by decide +kernel
theorem dX9_on_13 : decode cX9_on 13 = .ok (.ifCond .eq 14, 3) := by decide +kernel
theorem dX9_on_16 : decode cX9_on 16 = .ok (.iload_n 3, 1) := by decide +kernel
theorem dX9_on_17 : decode cX9_on 17 = .ok (.iload 4, 2) := by decide +kernel
theorem dX9_on_19 : decode cX9_on 19 = .ok (.ldc 95, 2) := by decide +kernel
theorem dX9_on_21 : decode cX9_on 21 = .ok (.invokestatic 74, 3) := by decide +kernel
theorem dX9_on_24 : decode cX9_on 24 = .ok (.ifCond .ne 6, 3) := by decide +kernel
theorem dX9_on_27 : decode cX9_on 27 = .ok (.bipush (-2), 2) := by decide +kernel
theorem dX9_on_29 : decode cX9_on 29 = .ok (.ireturn, 1) := by decide +kernel
theorem dX9_on_30 : decode cX9_on 30 = .ok (.aload_n 0, 1) := by decide +kernel
theorem dX9_on_31 : decode cX9_on 31 = .ok (.getfield 25, 3) := by decide +kernel
theorem dX9_on_34 : decode cX9_on 34 = .ok (.iload_n 1, 1) := by decide +kernel
theorem dX9_on_35 : decode cX9_on 35 = .ok (.iload_n 2, 1) := by decide +kernel
theorem dX9_on_36 : decode cX9_on 36 = .ok (.iconst (-1), 1) := by decide +kernel
theorem dX9_on_37 : decode cX9_on 37 = .ok (.iload_n 3, 1) := by decide +kernel
theorem dX9_on_38 : decode cX9_on 38 = .ok (.iload 4, 2) := by decide +kernel
theorem dX9_on_40 : decode cX9_on 40 = .ok (.aload_n 0, 1) := by decide +kernel
theorem dX9_on_41 : decode cX9_on 41 = .ok (.getfield 61, 3) := by decide +kernel
theorem dX9_on_44 : decode cX9_on 44 = .ok (.invokevirtual 96, 3) := by decide +kernel
theorem dX9_on_47 : decode cX9_on 47 = .ok (.ireturn, 1) := by decide +kernel
theorem dX9_apart_0 : decode cX9_apart 0 = .ok (.aload_n 0, 1) := by decide +kernel
theorem dX9_apart_1 : decode cX9_apart 1 = .ok (.iload_n 1, 1) := by decide +kernel
theorem dX9_apart_2 : decode cX9_apart 2 = .ok (.invokevirtual 84, 3) := by decide +kernel
theorem dX9_apart_5 : decode cX9_apart 5 = .ok (.ifCond .eq 24, 3) := by decide +kernel
theorem dX9_apart_8 : decode cX9_apart 8 = .ok (.aload_n 0, 1) := by decide +kernel
theorem dX9_apart_9 : decode cX9_apart 9 = .ok (.iload_n 2, 1) := by decide +kernel
theorem dX9_apart_10 : decode cX9_apart 10 = .ok (.iload_n 3, 1) := by decide +kernel
theorem dX9_apart_11 : decode cX9_apart 11 = .ok (.invokevirtual 102, 3) := by decide +kernel
theorem dX9_apart_14 : decode cX9_apart 14 = .ok (.ifCond .eq 15, 3) := by decide +kernel
theorem dX9_apart_17 : decode cX9_apart 17 = .ok (.iload 4, 2) := by decide +kernel
theorem dX9_apart_19 : decode cX9_apart 19 = .ok (.iload 5, 2) := by decide +kernel
theorem dX9_apart_21 : decode cX9_apart 21 = .ok (.ldc 106, 2) := by decide +kernel
theorem dX9_apart_23 : decode cX9_apart 23 = .ok (.invokestatic 74, 3) := by decide +kernel
theorem dX9_apart_26 : decode cX9_apart 26 = .ok (.ifCond .ne 6, 3) := by decide +kernel
theorem dX9_apart_29 : decode cX9_apart 29 = .ok (.bipush (-2), 2) := by decide +kernel
theorem dX9_apart_31 : decode cX9_apart 31 = .ok (.ireturn, 1) := by decide +kernel
theorem dX9_apart_32 : decode cX9_apart 32 = .ok (.aload_n 0, 1) := by decide +kernel
theorem dX9_apart_33 : decode cX9_apart 33 = .ok (.getfield 25, 3) := by decide +kernel
theorem dX9_apart_36 : decode cX9_apart 36 = .ok (.iload_n 1, 1) := by decide +kernel
theorem dX9_apart_37 : decode cX9_apart 37 = .ok (.iload_n 2, 1) := by decide +kernel
theorem dX9_apart_38 : decode cX9_apart 38 = .ok (.iload_n 3, 1) := by decide +kernel
theorem dX9_apart_39 : decode cX9_apart 39 = .ok (.iload 4, 2) := by decide +kernel
theorem dX9_apart_41 : decode cX9_apart 41 = .ok (.iload 5, 2) := by decide +kernel
theorem dX9_apart_43 : decode cX9_apart 43 = .ok (.aload_n 0, 1) := by decide +kernel
theorem dX9_apart_44 : decode cX9_apart 44 = .ok (.getfield 61, 3) := by decide +kernel
theorem dX9_apart_47 : decode cX9_apart 47 = .ok (.invokevirtual 96, 3) := by decide +kernel
theorem dX9_apart_50 : decode cX9_apart 50 = .ok (.ireturn, 1) := by decide +kernel
theorem dX9_read_0 : decode cX9_read 0 = .ok (.iload_n 1, 1) := by decide +kernel
theorem dX9_read_1 : decode cX9_read 1 = .ok (.invokestatic 107, 3) := by decide +kernel
theorem dX9_read_4 : decode cX9_read 4 = .ok (.ifCond .ne 6, 3) := by decide +kernel
theorem dX9_read_7 : decode cX9_read 7 = .ok (.bipush (-2), 2) := by decide +kernel
theorem dX9_read_9 : decode cX9_read 9 = .ok (.ireturn, 1) := by decide +kernel
theorem dX9_read_10 : decode cX9_read 10 = .ok (.aload_n 0, 1) := by decide +kernel
theorem dX9_read_11 : decode cX9_read 11 = .ok (.getfield 57, 3) := by decide +kernel
theorem dX9_read_14 : decode cX9_read 14 = .ok (.iload_n 1, 1) := by decide +kernel
theorem dX9_read_15 : decode cX9_read 15 = .ok (.invokevirtual 110, 3) := by decide +kernel
theorem dX9_read_18 : decode cX9_read 18 = .ok (.ifCond .eq 9, 3) := by decide +kernel
theorem dX9_read_21 : decode cX9_read 21 = .ok (.aload_n 0, 1) := by decide +kernel
theorem dX9_read_22 : decode cX9_read 22 = .ok (.iconst 1, 1) := by decide +kernel
theorem dX9_read_23 : decode cX9_read 23 = .ok (.invokevirtual 113, 3) := by decide +kernel
theorem dX9_read_26 : decode cX9_read 26 = .ok (.ireturn, 1) := by decide +kernel
theorem dX9_read_27 : decode cX9_read 27 = .ok (.aload_n 0, 1) := by decide +kernel
theorem dX9_read_28 : decode cX9_read 28 = .ok (.getfield 57, 3) := by decide +kernel
theorem dX9_read_31 : decode cX9_read 31 = .ok (.getfield 117, 3) := by decide +kernel
theorem dX9_read_34 : decode cX9_read 34 = .ok (.iload_n 1, 1) := by decide +kernel
theorem dX9_read_35 : decode cX9_read 35 = .ok (.iaload, 1) := by decide +kernel
theorem dX9_read_36 : decode cX9_read 36 = .ok (.iconst 5, 1) := by decide +kernel
theorem dX9_read_37 : decode cX9_read 37 = .ok (.idiv, 1) := by decide +kernel
theorem dX9_read_38 : decode cX9_read 38 = .ok (.istore_n 2, 1) := by decide +kernel
theorem dX9_read_39 : decode cX9_read 39 = .ok (.iconst 0, 1) := by decide +kernel
theorem dX9_read_40 : decode cX9_read 40 = .ok (.istore_n 3, 1) := by decide +kernel
theorem dX9_read_41 : decode cX9_read 41 = .ok (.iload_n 3, 1) := by decide +kernel
theorem dX9_read_42 : decode cX9_read 42 = .ok (.iload_n 2, 1) := by decide +kernel
theorem dX9_read_43 : decode cX9_read 43 = .ok (.if_icmp .ge 22, 3) := by decide +kernel
theorem dX9_read_46 : decode cX9_read 46 = .ok (.aload_n 0, 1) := by decide +kernel
theorem dX9_read_47 : decode cX9_read 47 = .ok (.iload_n 1, 1) := by decide +kernel
theorem dX9_read_48 : decode cX9_read 48 = .ok (.iload_n 3, 1) := by decide +kernel
theorem dX9_read_49 : decode cX9_read 49 = .ok (.iconst 5, 1) := by decide +kernel
theorem dX9_read_50 : decode cX9_read 50 = .ok (.imul, 1) := by decide +kernel
theorem dX9_read_51 : decode cX9_read 51 = .ok (.invokevirtual 120, 3) := by decide +kernel
theorem dX9_read_54 : decode cX9_read 54 = .ok (.ifCond .ge 5, 3) := by decide +kernel
theorem dX9_read_57 : decode cX9_read 57 = .ok (.iload_n 3, 1) := by decide +kernel
theorem dX9_read_58 : decode cX9_read 58 = .ok (.ireturn, 1) := by decide +kernel
theorem dX9_read_59 : decode cX9_read 59 = .ok (.iinc 3 1, 3) := by decide +kernel
theorem dX9_read_62 : decode cX9_read 62 = .ok (.goto (-21), 3) := by decide +kernel
theorem dX9_read_65 : decode cX9_read 65 = .ok (.iload_n 2, 1) := by decide +kernel
theorem dX9_read_66 : decode cX9_read 66 = .ok (.ireturn, 1) := by decide +kernel
theorem dX9_takeBack_0 : decode cX9_takeBack 0 = .ok (.aload_n 0, 1) := by decide +kernel
theorem dX9_takeBack_1 : decode cX9_takeBack 1 = .ok (.iload_n 1, 1) := by decide +kernel
theorem dX9_takeBack_2 : decode cX9_takeBack 2 = .ok (.invokevirtual 123, 3) := by decide +kernel
theorem dX9_takeBack_5 : decode cX9_takeBack 5 = .ok (.ifCond .ne 6, 3) := by decide +kernel
theorem dX9_takeBack_8 : decode cX9_takeBack 8 = .ok (.bipush (-2), 2) := by decide +kernel
theorem dX9_takeBack_10 : decode cX9_takeBack 10 = .ok (.ireturn, 1) := by decide +kernel
theorem dX9_takeBack_11 : decode cX9_takeBack 11 = .ok (.aload_n 0, 1) := by decide +kernel
theorem dX9_takeBack_12 : decode cX9_takeBack 12 = .ok (.getfield 25, 3) := by decide +kernel
theorem dX9_takeBack_15 : decode cX9_takeBack 15 = .ok (.getfield 126, 3) := by decide +kernel
theorem dX9_takeBack_18 : decode cX9_takeBack 18 = .ok (.iload_n 1, 1) := by decide +kernel
theorem dX9_takeBack_19 : decode cX9_takeBack 19 = .ok (.iaload, 1) := by decide +kernel
theorem dX9_takeBack_20 : decode cX9_takeBack 20 = .ok (.iconst (-1), 1) := by decide +kernel
theorem dX9_takeBack_21 : decode cX9_takeBack 21 = .ok (.if_icmp .eq 6, 3) := by decide +kernel
theorem dX9_takeBack_24 : decode cX9_takeBack 24 = .ok (.bipush (-3), 2) := by decide +kernel
theorem dX9_takeBack_26 : decode cX9_takeBack 26 = .ok (.ireturn, 1) := by decide +kernel
theorem dX9_takeBack_27 : decode cX9_takeBack 27 = .ok (.aload_n 0, 1) := by decide +kernel
theorem dX9_takeBack_28 : decode cX9_takeBack 28 = .ok (.getfield 25, 3) := by decide +kernel
theorem dX9_takeBack_31 : decode cX9_takeBack 31 = .ok (.getfield 126, 3) := by decide +kernel
theorem dX9_takeBack_34 : decode cX9_takeBack 34 = .ok (.iload_n 1, 1) := by decide +kernel
theorem dX9_takeBack_35 : decode cX9_takeBack 35 = .ok (.aload_n 0, 1) := by decide +kernel
theorem dX9_takeBack_36 : decode cX9_takeBack 36 = .ok (.getfield 61, 3) := by decide +kernel
theorem dX9_takeBack_39 : decode cX9_takeBack 39 = .ok (.iastore, 1) := by decide +kernel
theorem dX9_takeBack_40 : decode cX9_takeBack 40 = .ok (.iconst 1, 1) := by decide +kernel
theorem dX9_takeBack_41 : decode cX9_takeBack 41 = .ok (.ireturn, 1) := by decide +kernel
theorem dX9_about_0 : decode cX9_about 0 = .ok (.aload_n 0, 1) := by decide +kernel
theorem dX9_about_1 : decode cX9_about 1 = .ok (.iload_n 1, 1) := by decide +kernel
theorem dX9_about_2 : decode cX9_about 2 = .ok (.invokevirtual 123, 3) := by decide +kernel
theorem dX9_about_5 : decode cX9_about 5 = .ok (.ifCond .ne 6, 3) := by decide +kernel
theorem dX9_about_8 : decode cX9_about 8 = .ok (.ldc 129, 2) := by decide +kernel
theorem dX9_about_10 : decode cX9_about 10 = .ok (.ireturn, 1) := by decide +kernel
theorem dX9_about_11 : decode cX9_about 11 = .ok (.iload_n 2, 1) := by decide +kernel
theorem dX9_about_12 : decode cX9_about 12 = .ok (.tableswitch 134 0 7 #[48, 58, 68, 78, 88, 98, 108, 118], 48) := by decide +kernel
theorem dX9_about_60 : decode cX9_about 60 = .ok (.aload_n 0, 1) := by decide +kernel
theorem dX9_about_61 : decode cX9_about 61 = .ok (.getfield 25, 3) := by decide +kernel
theorem dX9_about_64 : decode cX9_about 64 = .ok (.getfield 130, 3) := by decide +kernel
theorem dX9_about_67 : decode cX9_about 67 = .ok (.iload_n 1, 1) := by decide +kernel
theorem dX9_about_68 : decode cX9_about 68 = .ok (.iaload, 1) := by decide +kernel
theorem dX9_about_69 : decode cX9_about 69 = .ok (.ireturn, 1) := by decide +kernel
theorem dX9_about_70 : decode cX9_about 70 = .ok (.aload_n 0, 1) := by decide +kernel
theorem dX9_about_71 : decode cX9_about 71 = .ok (.getfield 25, 3) := by decide +kernel
theorem dX9_about_74 : decode cX9_about 74 = .ok (.getfield 133, 3) := by decide +kernel
theorem dX9_about_77 : decode cX9_about 77 = .ok (.iload_n 1, 1) := by decide +kernel
theorem dX9_about_78 : decode cX9_about 78 = .ok (.iaload, 1) := by decide +kernel
theorem dX9_about_79 : decode cX9_about 79 = .ok (.ireturn, 1) := by decide +kernel
theorem dX9_about_80 : decode cX9_about 80 = .ok (.aload_n 0, 1) := by decide +kernel
theorem dX9_about_81 : decode cX9_about 81 = .ok (.getfield 25, 3) := by decide +kernel
theorem dX9_about_84 : decode cX9_about 84 = .ok (.getfield 136, 3) := by decide +kernel
theorem dX9_about_87 : decode cX9_about 87 = .ok (.iload_n 1, 1) := by decide +kernel
theorem dX9_about_88 : decode cX9_about 88 = .ok (.iaload, 1) := by decide +kernel
theorem dX9_about_89 : decode cX9_about 89 = .ok (.ireturn, 1) := by decide +kernel
theorem dX9_about_90 : decode cX9_about 90 = .ok (.aload_n 0, 1) := by decide +kernel
theorem dX9_about_91 : decode cX9_about 91 = .ok (.getfield 25, 3) := by decide +kernel
theorem dX9_about_94 : decode cX9_about 94 = .ok (.getfield 139, 3) := by decide +kernel
theorem dX9_about_97 : decode cX9_about 97 = .ok (.iload_n 1, 1) := by decide +kernel
theorem dX9_about_98 : decode cX9_about 98 = .ok (.iaload, 1) := by decide +kernel
theorem dX9_about_99 : decode cX9_about 99 = .ok (.ireturn, 1) := by decide +kernel
theorem dX9_about_100 : decode cX9_about 100 = .ok (.aload_n 0, 1) := by decide +kernel
theorem dX9_about_101 : decode cX9_about 101 = .ok (.getfield 25, 3) := by decide +kernel
theorem dX9_about_104 : decode cX9_about 104 = .ok (.getfield 142, 3) := by decide +kernel
theorem dX9_about_107 : decode cX9_about 107 = .ok (.iload_n 1, 1) := by decide +kernel
theorem dX9_about_108 : decode cX9_about 108 = .ok (.iaload, 1) := by decide +kernel
theorem dX9_about_109 : decode cX9_about 109 = .ok (.ireturn, 1) := by decide +kernel
theorem dX9_about_110 : decode cX9_about 110 = .ok (.aload_n 0, 1) := by decide +kernel
theorem dX9_about_111 : decode cX9_about 111 = .ok (.getfield 25, 3) := by decide +kernel
theorem dX9_about_114 : decode cX9_about 114 = .ok (.getfield 145, 3) := by decide +kernel
theorem dX9_about_117 : decode cX9_about 117 = .ok (.iload_n 1, 1) := by decide +kernel
theorem dX9_about_118 : decode cX9_about 118 = .ok (.iaload, 1) := by decide +kernel
theorem dX9_about_119 : decode cX9_about 119 = .ok (.ireturn, 1) := by decide +kernel
theorem dX9_about_120 : decode cX9_about 120 = .ok (.aload_n 0, 1) := by decide +kernel
theorem dX9_about_121 : decode cX9_about 121 = .ok (.getfield 25, 3) := by decide +kernel
theorem dX9_about_124 : decode cX9_about 124 = .ok (.getfield 126, 3) := by decide +kernel
theorem dX9_about_127 : decode cX9_about 127 = .ok (.iload_n 1, 1) := by decide +kernel
theorem dX9_about_128 : decode cX9_about 128 = .ok (.iaload, 1) := by decide +kernel
theorem dX9_about_129 : decode cX9_about 129 = .ok (.ireturn, 1) := by decide +kernel
theorem dX9_about_130 : decode cX9_about 130 = .ok (.aload_n 0, 1) := by decide +kernel
theorem dX9_about_131 : decode cX9_about 131 = .ok (.getfield 25, 3) := by decide +kernel
theorem dX9_about_134 : decode cX9_about 134 = .ok (.iload_n 1, 1) := by decide +kernel
theorem dX9_about_135 : decode cX9_about 135 = .ok (.aload_n 0, 1) := by decide +kernel
theorem dX9_about_136 : decode cX9_about 136 = .ok (.invokevirtual 148, 3) := by decide +kernel
theorem dX9_about_139 : decode cX9_about 139 = .ok (.invokevirtual 152, 3) := by decide +kernel
theorem dX9_about_142 : decode cX9_about 142 = .ok (.invokestatic 155, 3) := by decide +kernel
theorem dX9_about_145 : decode cX9_about 145 = .ok (.ireturn, 1) := by decide +kernel
theorem dX9_about_146 : decode cX9_about 146 = .ok (.ldc 129, 2) := by decide +kernel
theorem dX9_about_148 : decode cX9_about 148 = .ok (.ireturn, 1) := by decide +kernel
theorem dX9_asOf_0 : decode cX9_asOf 0 = .ok (.iload_n 1, 1) := by decide +kernel
theorem dX9_asOf_1 : decode cX9_asOf 1 = .ok (.iconst (-1), 1) := by decide +kernel
theorem dX9_asOf_2 : decode cX9_asOf 2 = .ok (.if_icmp .eq 18, 3) := by decide +kernel
theorem dX9_asOf_5 : decode cX9_asOf 5 = .ok (.iload_n 1, 1) := by decide +kernel
theorem dX9_asOf_6 : decode cX9_asOf 6 = .ok (.ifCond .lt 11, 3) := by decide +kernel
theorem dX9_asOf_9 : decode cX9_asOf 9 = .ok (.iload_n 1, 1) := by decide +kernel
theorem dX9_asOf_10 : decode cX9_asOf 10 = .ok (.aload_n 0, 1) := by decide +kernel
theorem dX9_asOf_11 : decode cX9_asOf 11 = .ok (.getfield 61, 3) := by decide +kernel
theorem dX9_asOf_14 : decode cX9_asOf 14 = .ok (.if_icmp .le 6, 3) := by decide +kernel
theorem dX9_asOf_17 : decode cX9_asOf 17 = .ok (.bipush (-2), 2) := by decide +kernel
theorem dX9_asOf_19 : decode cX9_asOf 19 = .ok (.ireturn, 1) := by decide +kernel
theorem dX9_asOf_20 : decode cX9_asOf 20 = .ok (.aload_n 0, 1) := by decide +kernel
theorem dX9_asOf_21 : decode cX9_asOf 21 = .ok (.getfield 65, 3) := by decide +kernel
theorem dX9_asOf_24 : decode cX9_asOf 24 = .ok (.istore_n 2, 1) := by decide +kernel
theorem dX9_asOf_25 : decode cX9_asOf 25 = .ok (.aload_n 0, 1) := by decide +kernel
theorem dX9_asOf_26 : decode cX9_asOf 26 = .ok (.iload_n 1, 1) := by decide +kernel
theorem dX9_asOf_27 : decode cX9_asOf 27 = .ok (.putfield 65, 3) := by decide +kernel
theorem dX9_asOf_30 : decode cX9_asOf 30 = .ok (.iload_n 2, 1) := by decide +kernel
theorem dX9_asOf_31 : decode cX9_asOf 31 = .ok (.ireturn, 1) := by decide +kernel
theorem dX9_can_0 : decode cX9_can 0 = .ok (.lload_n 1, 1) := by decide +kernel
theorem dX9_can_1 : decode cX9_can 1 = .ok (.aload_n 0, 1) := by decide +kernel
theorem dX9_can_2 : decode cX9_can 2 = .ok (.getfield 25, 3) := by decide +kernel
theorem dX9_can_5 : decode cX9_can 5 = .ok (.getfield 159, 3) := by decide +kernel
theorem dX9_can_8 : decode cX9_can 8 = .ok (.lushr, 1) := by decide +kernel
theorem dX9_can_9 : decode cX9_can 9 = .ok (.lconst 0, 1) := by decide +kernel
theorem dX9_can_10 : decode cX9_can 10 = .ok (.lcmp, 1) := by decide +kernel
theorem dX9_can_11 : decode cX9_can 11 = .ok (.ifCond .eq 6, 3) := by decide +kernel
theorem dX9_can_14 : decode cX9_can 14 = .ok (.bipush (-2), 2) := by decide +kernel
theorem dX9_can_16 : decode cX9_can 16 = .ok (.ireturn, 1) := by decide +kernel
theorem dX9_can_17 : decode cX9_can 17 = .ok (.lload_n 1, 1) := by decide +kernel
theorem dX9_can_18 : decode cX9_can 18 = .ok (.aload_n 0, 1) := by decide +kernel
theorem dX9_can_19 : decode cX9_can 19 = .ok (.invokevirtual 161, 3) := by decide +kernel
theorem dX9_can_22 : decode cX9_can 22 = .ok (.ldc2_w 165, 3) := by decide +kernel
theorem dX9_can_25 : decode cX9_can 25 = .ok (.lxor, 1) := by decide +kernel
theorem dX9_can_26 : decode cX9_can 26 = .ok (.land, 1) := by decide +kernel
theorem dX9_can_27 : decode cX9_can 27 = .ok (.lconst 0, 1) := by decide +kernel
theorem dX9_can_28 : decode cX9_can 28 = .ok (.lcmp, 1) := by decide +kernel
theorem dX9_can_29 : decode cX9_can 29 = .ok (.ifCond .eq 6, 3) := by decide +kernel
theorem dX9_can_32 : decode cX9_can 32 = .ok (.bipush (-3), 2) := by decide +kernel
theorem dX9_can_34 : decode cX9_can 34 = .ok (.ireturn, 1) := by decide +kernel
theorem dX9_can_35 : decode cX9_can 35 = .ok (.aload_n 0, 1) := by decide +kernel
theorem dX9_can_36 : decode cX9_can 36 = .ok (.getfield 10, 3) := by decide +kernel
theorem dX9_can_39 : decode cX9_can 39 = .ok (.lload_n 1, 1) := by decide +kernel
theorem dX9_can_40 : decode cX9_can 40 = .ok (.invokevirtual 167, 3) := by decide +kernel
theorem dX9_can_43 : decode cX9_can 43 = .ok (.invokestatic 155, 3) := by decide +kernel
theorem dX9_can_46 : decode cX9_can 46 = .ok (.ireturn, 1) := by decide +kernel
theorem dX9_all_0 : decode cX9_all 0 = .ok (.aload_n 0, 1) := by decide +kernel
theorem dX9_all_1 : decode cX9_all 1 = .ok (.getfield 10, 3) := by decide +kernel
theorem dX9_all_4 : decode cX9_all 4 = .ok (.aload_n 0, 1) := by decide +kernel
theorem dX9_all_5 : decode cX9_all 5 = .ok (.invokevirtual 161, 3) := by decide +kernel
theorem dX9_all_8 : decode cX9_all 8 = .ok (.invokevirtual 167, 3) := by decide +kernel
theorem dX9_all_11 : decode cX9_all 11 = .ok (.invokestatic 155, 3) := by decide +kernel
theorem dX9_all_14 : decode cX9_all 14 = .ok (.ireturn, 1) := by decide +kernel
theorem dX9_span_0 : decode cX9_span 0 = .ok (.aload_n 0, 1) := by decide +kernel
theorem dX9_span_1 : decode cX9_span 1 = .ok (.iload_n 1, 1) := by decide +kernel
theorem dX9_span_2 : decode cX9_span 2 = .ok (.invokevirtual 92, 3) := by decide +kernel
theorem dX9_span_5 : decode cX9_span 5 = .ok (.ifCond .eq 10, 3) := by decide +kernel
theorem dX9_span_8 : decode cX9_span 8 = .ok (.iload_n 2, 1) := by decide +kernel
theorem dX9_span_9 : decode cX9_span 9 = .ok (.invokestatic 171, 3) := by decide +kernel
theorem dX9_span_12 : decode cX9_span 12 = .ok (.ifCond .ne 6, 3) := by decide +kernel
theorem dX9_span_15 : decode cX9_span 15 = .ok (.ldc 129, 2) := by decide +kernel
theorem dX9_span_17 : decode cX9_span 17 = .ok (.ireturn, 1) := by decide +kernel
theorem dX9_span_18 : decode cX9_span 18 = .ok (.aload_n 0, 1) := by decide +kernel
theorem dX9_span_19 : decode cX9_span 19 = .ok (.getfield 10, 3) := by decide +kernel
theorem dX9_span_22 : decode cX9_span 22 = .ok (.aload_n 0, 1) := by decide +kernel
theorem dX9_span_23 : decode cX9_span 23 = .ok (.invokevirtual 161, 3) := by decide +kernel
theorem dX9_span_26 : decode cX9_span 26 = .ok (.invokevirtual 174, 3) := by decide +kernel
theorem dX9_span_29 : decode cX9_span 29 = .ok (.ifCond .ne 6, 3) := by decide +kernel
theorem dX9_span_32 : decode cX9_span 32 = .ok (.ldc 177, 2) := by decide +kernel
theorem dX9_span_34 : decode cX9_span 34 = .ok (.ireturn, 1) := by decide +kernel
theorem dX9_span_35 : decode cX9_span 35 = .ok (.aload_n 0, 1) := by decide +kernel
theorem dX9_span_36 : decode cX9_span 36 = .ok (.getfield 10, 3) := by decide +kernel
theorem dX9_span_39 : decode cX9_span 39 = .ok (.iload_n 1, 1) := by decide +kernel
theorem dX9_span_40 : decode cX9_span 40 = .ok (.iload_n 2, 1) := by decide +kernel
theorem dX9_span_41 : decode cX9_span 41 = .ok (.invokevirtual 178, 3) := by decide +kernel
theorem dX9_span_44 : decode cX9_span 44 = .ok (.ireturn, 1) := by decide +kernel
theorem dX9_clock_0 : decode cX9_clock 0 = .ok (.aload_n 0, 1) := by decide +kernel
theorem dX9_clock_1 : decode cX9_clock 1 = .ok (.iload_n 1, 1) := by decide +kernel
theorem dX9_clock_2 : decode cX9_clock 2 = .ok (.invokevirtual 84, 3) := by decide +kernel
theorem dX9_clock_5 : decode cX9_clock 5 = .ok (.ifCond .eq 10, 3) := by decide +kernel
theorem dX9_clock_8 : decode cX9_clock 8 = .ok (.iload_n 2, 1) := by decide +kernel
theorem dX9_clock_9 : decode cX9_clock 9 = .ok (.invokestatic 171, 3) := by decide +kernel
theorem dX9_clock_12 : decode cX9_clock 12 = .ok (.ifCond .ne 6, 3) := by decide +kernel
theorem dX9_clock_15 : decode cX9_clock 15 = .ok (.ldc 129, 2) := by decide +kernel
theorem dX9_clock_17 : decode cX9_clock 17 = .ok (.ireturn, 1) := by decide +kernel
theorem dX9_clock_18 : decode cX9_clock 18 = .ok (.aload_n 0, 1) := by decide +kernel
theorem dX9_clock_19 : decode cX9_clock 19 = .ok (.getfield 10, 3) := by decide +kernel
theorem dX9_clock_22 : decode cX9_clock 22 = .ok (.aload_n 0, 1) := by decide +kernel
theorem dX9_clock_23 : decode cX9_clock 23 = .ok (.invokevirtual 161, 3) := by decide +kernel
theorem dX9_clock_26 : decode cX9_clock 26 = .ok (.invokevirtual 174, 3) := by decide +kernel
theorem dX9_clock_29 : decode cX9_clock 29 = .ok (.ifCond .ne 6, 3) := by decide +kernel
theorem dX9_clock_32 : decode cX9_clock 32 = .ok (.ldc 177, 2) := by decide +kernel
theorem dX9_clock_34 : decode cX9_clock 34 = .ok (.ireturn, 1) := by decide +kernel
theorem dX9_clock_35 : decode cX9_clock 35 = .ok (.aload_n 0, 1) := by decide +kernel
theorem dX9_clock_36 : decode cX9_clock 36 = .ok (.getfield 10, 3) := by decide +kernel
theorem dX9_clock_39 : decode cX9_clock 39 = .ok (.iload_n 1, 1) := by decide +kernel
theorem dX9_clock_40 : decode cX9_clock 40 = .ok (.iload_n 2, 1) := by decide +kernel
theorem dX9_clock_41 : decode cX9_clock 41 = .ok (.invokevirtual 181, 3) := by decide +kernel
theorem dX9_clock_44 : decode cX9_clock 44 = .ok (.ireturn, 1) := by decide +kernel
theorem dX9_between_0 : decode cX9_between 0 = .ok (.aload_n 0, 1) := by decide +kernel
theorem dX9_between_1 : decode cX9_between 1 = .ok (.iload_n 1, 1) := by decide +kernel
theorem dX9_between_2 : decode cX9_between 2 = .ok (.iload_n 2, 1) := by decide +kernel
theorem dX9_between_3 : decode cX9_between 3 = .ok (.invokevirtual 102, 3) := by decide +kernel
theorem dX9_between_6 : decode cX9_between 6 = .ok (.ifCond .eq 10, 3) := by decide +kernel
theorem dX9_between_9 : decode cX9_between 9 = .ok (.iload_n 3, 1) := by decide +kernel
theorem dX9_between_10 : decode cX9_between 10 = .ok (.invokestatic 171, 3) := by decide +kernel
theorem dX9_between_13 : decode cX9_between 13 = .ok (.ifCond .ne 6, 3) := by decide +kernel
theorem dX9_between_16 : decode cX9_between 16 = .ok (.ldc 184, 2) := by decide +kernel
theorem dX9_between_18 : decode cX9_between 18 = .ok (.ireturn, 1) := by decide +kernel
theorem dX9_between_19 : decode cX9_between 19 = .ok (.aload_n 0, 1) := by decide +kernel
theorem dX9_between_20 : decode cX9_between 20 = .ok (.getfield 10, 3) := by decide +kernel
theorem dX9_between_23 : decode cX9_between 23 = .ok (.aload_n 0, 1) := by decide +kernel
theorem dX9_between_24 : decode cX9_between 24 = .ok (.invokevirtual 161, 3) := by decide +kernel
theorem dX9_between_27 : decode cX9_between 27 = .ok (.invokevirtual 174, 3) := by decide +kernel
theorem dX9_between_30 : decode cX9_between 30 = .ok (.ifCond .ne 6, 3) := by decide +kernel
theorem dX9_between_33 : decode cX9_between 33 = .ok (.ldc 185, 2) := by decide +kernel
theorem dX9_between_35 : decode cX9_between 35 = .ok (.ireturn, 1) := by decide +kernel
theorem dX9_between_36 : decode cX9_between 36 = .ok (.iload_n 3, 1) := by decide +kernel
theorem dX9_between_37 : decode cX9_between 37 = .ok (.iconst 1, 1) := by decide +kernel
theorem dX9_between_38 : decode cX9_between 38 = .ok (.if_icmp .ne 21, 3) := by decide +kernel
theorem dX9_between_41 : decode cX9_between 41 = .ok (.aload_n 0, 1) := by decide +kernel
theorem dX9_between_42 : decode cX9_between 42 = .ok (.getfield 10, 3) := by decide +kernel
theorem dX9_between_45 : decode cX9_between 45 = .ok (.iload_n 2, 1) := by decide +kernel
theorem dX9_between_46 : decode cX9_between 46 = .ok (.invokevirtual 186, 3) := by decide +kernel
theorem dX9_between_49 : decode cX9_between 49 = .ok (.aload_n 0, 1) := by decide +kernel
theorem dX9_between_50 : decode cX9_between 50 = .ok (.getfield 10, 3) := by decide +kernel
theorem dX9_between_53 : decode cX9_between 53 = .ok (.iload_n 2, 1) := by decide +kernel
theorem dX9_between_54 : decode cX9_between 54 = .ok (.iload_n 1, 1) := by decide +kernel
theorem dX9_between_55 : decode cX9_between 55 = .ok (.invokevirtual 190, 3) := by decide +kernel
theorem dX9_between_58 : decode cX9_between 58 = .ok (.ireturn, 1) := by decide +kernel
theorem dX9_between_59 : decode cX9_between 59 = .ok (.aload_n 0, 1) := by decide +kernel
theorem dX9_between_60 : decode cX9_between 60 = .ok (.getfield 10, 3) := by decide +kernel
theorem dX9_between_63 : decode cX9_between 63 = .ok (.iload_n 1, 1) := by decide +kernel
theorem dX9_between_64 : decode cX9_between 64 = .ok (.invokevirtual 186, 3) := by decide +kernel
theorem dX9_between_67 : decode cX9_between 67 = .ok (.aload_n 0, 1) := by decide +kernel
theorem dX9_between_68 : decode cX9_between 68 = .ok (.getfield 10, 3) := by decide +kernel
theorem dX9_between_71 : decode cX9_between 71 = .ok (.iload_n 1, 1) := by decide +kernel
theorem dX9_between_72 : decode cX9_between 72 = .ok (.iload_n 2, 1) := by decide +kernel
theorem dX9_between_73 : decode cX9_between 73 = .ok (.invokevirtual 190, 3) := by decide +kernel
theorem dX9_between_76 : decode cX9_between 76 = .ok (.ineg, 1) := by decide +kernel
theorem dX9_between_77 : decode cX9_between 77 = .ok (.ireturn, 1) := by decide +kernel
theorem dX9_led_0 : decode cX9_led 0 = .ok (.aload_n 0, 1) := by decide +kernel
theorem dX9_led_1 : decode cX9_led 1 = .ok (.iload_n 1, 1) := by decide +kernel
theorem dX9_led_2 : decode cX9_led 2 = .ok (.invokevirtual 92, 3) := by decide +kernel
theorem dX9_led_5 : decode cX9_led 5 = .ok (.ifCond .eq 10, 3) := by decide +kernel
theorem dX9_led_8 : decode cX9_led 8 = .ok (.iload_n 2, 1) := by decide +kernel
theorem dX9_led_9 : decode cX9_led 9 = .ok (.invokestatic 171, 3) := by decide +kernel
theorem dX9_led_12 : decode cX9_led 12 = .ok (.ifCond .ne 6, 3) := by decide +kernel
theorem dX9_led_15 : decode cX9_led 15 = .ok (.bipush (-2), 2) := by decide +kernel
theorem dX9_led_17 : decode cX9_led 17 = .ok (.ireturn, 1) := by decide +kernel
theorem dX9_led_18 : decode cX9_led 18 = .ok (.aload_n 0, 1) := by decide +kernel
theorem dX9_led_19 : decode cX9_led 19 = .ok (.getfield 10, 3) := by decide +kernel
theorem dX9_led_22 : decode cX9_led 22 = .ok (.aload_n 0, 1) := by decide +kernel
theorem dX9_led_23 : decode cX9_led 23 = .ok (.invokevirtual 161, 3) := by decide +kernel
theorem dX9_led_26 : decode cX9_led 26 = .ok (.invokevirtual 174, 3) := by decide +kernel
theorem dX9_led_29 : decode cX9_led 29 = .ok (.ifCond .ne 6, 3) := by decide +kernel
theorem dX9_led_32 : decode cX9_led 32 = .ok (.bipush (-3), 2) := by decide +kernel
theorem dX9_led_34 : decode cX9_led 34 = .ok (.ireturn, 1) := by decide +kernel
theorem dX9_led_35 : decode cX9_led 35 = .ok (.aload_n 0, 1) := by decide +kernel
theorem dX9_led_36 : decode cX9_led 36 = .ok (.getfield 10, 3) := by decide +kernel
theorem dX9_led_39 : decode cX9_led 39 = .ok (.iload_n 1, 1) := by decide +kernel
theorem dX9_led_40 : decode cX9_led 40 = .ok (.iload_n 2, 1) := by decide +kernel
theorem dX9_led_41 : decode cX9_led 41 = .ok (.iconst 1, 1) := by decide +kernel
theorem dX9_led_42 : decode cX9_led 42 = .ok (.if_icmp .ne 7, 3) := by decide +kernel
theorem dX9_led_45 : decode cX9_led 45 = .ok (.iconst 1, 1) := by decide +kernel
theorem dX9_led_46 : decode cX9_led 46 = .ok (.goto 4, 3) := by decide +kernel
theorem dX9_led_49 : decode cX9_led 49 = .ok (.iconst 0, 1) := by decide +kernel
theorem dX9_led_50 : decode cX9_led 50 = .ok (.invokevirtual 193, 3) := by decide +kernel
theorem dX9_led_53 : decode cX9_led 53 = .ok (.ireturn, 1) := by decide +kernel
theorem dX9_changed_0 : decode cX9_changed 0 = .ok (.aload_n 0, 1) := by decide +kernel
theorem dX9_changed_1 : decode cX9_changed 1 = .ok (.iload_n 1, 1) := by decide +kernel
theorem dX9_changed_2 : decode cX9_changed 2 = .ok (.invokevirtual 92, 3) := by decide +kernel
theorem dX9_changed_5 : decode cX9_changed 5 = .ok (.ifCond .eq 7, 3) := by decide +kernel
theorem dX9_changed_8 : decode cX9_changed 8 = .ok (.iload_n 2, 1) := by decide +kernel
theorem dX9_changed_9 : decode cX9_changed 9 = .ok (.ifCond .ge 6, 3) := by decide +kernel
theorem dX9_changed_12 : decode cX9_changed 12 = .ok (.bipush (-2), 2) := by decide +kernel
theorem dX9_changed_14 : decode cX9_changed 14 = .ok (.ireturn, 1) := by decide +kernel
theorem dX9_changed_15 : decode cX9_changed 15 = .ok (.aload_n 0, 1) := by decide +kernel
theorem dX9_changed_16 : decode cX9_changed 16 = .ok (.getfield 10, 3) := by decide +kernel
theorem dX9_changed_19 : decode cX9_changed 19 = .ok (.iload_n 1, 1) := by decide +kernel
theorem dX9_changed_20 : decode cX9_changed 20 = .ok (.aload_n 0, 1) := by decide +kernel
theorem dX9_changed_21 : decode cX9_changed 21 = .ok (.getfield 25, 3) := by decide +kernel
theorem dX9_changed_24 : decode cX9_changed 24 = .ok (.iconst 0, 1) := by decide +kernel
theorem dX9_changed_25 : decode cX9_changed 25 = .ok (.invokevirtual 197, 3) := by decide +kernel
theorem dX9_changed_28 : decode cX9_changed 28 = .ok (.invokevirtual 201, 3) := by decide +kernel
theorem dX9_changed_31 : decode cX9_changed 31 = .ok (.lstore_n 3, 1) := by decide +kernel
theorem dX9_changed_32 : decode cX9_changed 32 = .ok (.iconst 0, 1) := by decide +kernel
theorem dX9_changed_33 : decode cX9_changed 33 = .ok (.istore 5, 2) := by decide +kernel
theorem dX9_changed_35 : decode cX9_changed 35 = .ok (.iconst 0, 1) := by decide +kernel
theorem dX9_changed_36 : decode cX9_changed 36 = .ok (.istore 6, 2) := by decide +kernel
theorem dX9_changed_38 : decode cX9_changed 38 = .ok (.iconst 0, 1) := by decide +kernel
theorem dX9_changed_39 : decode cX9_changed 39 = .ok (.istore 7, 2) := by decide +kernel
theorem dX9_changed_41 : decode cX9_changed 41 = .ok (.iload 7, 2) := by decide +kernel
theorem dX9_changed_43 : decode cX9_changed 43 = .ok (.bipush 80, 2) := by decide +kernel
theorem dX9_changed_45 : decode cX9_changed 45 = .ok (.if_icmp .ge 69, 3) := by decide +kernel
theorem dX9_changed_48 : decode cX9_changed 48 = .ok (.aload_n 0, 1) := by decide +kernel
theorem dX9_changed_49 : decode cX9_changed 49 = .ok (.getfield 25, 3) := by decide +kernel
theorem dX9_changed_52 : decode cX9_changed 52 = .ok (.iload 5, 2) := by decide +kernel
theorem dX9_changed_54 : decode cX9_changed 54 = .ok (.invokevirtual 205, 3) := by decide +kernel
theorem dX9_changed_57 : decode cX9_changed 57 = .ok (.istore 5, 2) := by decide +kernel
theorem dX9_changed_59 : decode cX9_changed 59 = .ok (.iload 5, 2) := by decide +kernel
theorem dX9_changed_61 : decode cX9_changed 61 = .ok (.iconst (-1), 1) := by decide +kernel
theorem dX9_changed_62 : decode cX9_changed 62 = .ok (.if_icmp .ne 5, 3) := by decide +kernel
theorem dX9_changed_65 : decode cX9_changed 65 = .ok (.iconst (-1), 1) := by decide +kernel
theorem dX9_changed_66 : decode cX9_changed 66 = .ok (.ireturn, 1) := by decide +kernel
theorem dX9_changed_67 : decode cX9_changed 67 = .ok (.aload_n 0, 1) := by decide +kernel
theorem dX9_changed_68 : decode cX9_changed 68 = .ok (.getfield 10, 3) := by decide +kernel
theorem dX9_changed_71 : decode cX9_changed 71 = .ok (.iload_n 1, 1) := by decide +kernel
theorem dX9_changed_72 : decode cX9_changed 72 = .ok (.aload_n 0, 1) := by decide +kernel
theorem dX9_changed_73 : decode cX9_changed 73 = .ok (.getfield 25, 3) := by decide +kernel
theorem dX9_changed_76 : decode cX9_changed 76 = .ok (.iload 5, 2) := by decide +kernel
theorem dX9_changed_78 : decode cX9_changed 78 = .ok (.invokevirtual 197, 3) := by decide +kernel
theorem dX9_changed_81 : decode cX9_changed 81 = .ok (.invokevirtual 201, 3) := by decide +kernel
theorem dX9_changed_84 : decode cX9_changed 84 = .ok (.lstore 8, 2) := by decide +kernel
theorem dX9_changed_86 : decode cX9_changed 86 = .ok (.lload 8, 2) := by decide +kernel
theorem dX9_changed_88 : decode cX9_changed 88 = .ok (.lload_n 3, 1) := by decide +kernel
theorem dX9_changed_89 : decode cX9_changed 89 = .ok (.lcmp, 1) := by decide +kernel
theorem dX9_changed_90 : decode cX9_changed 90 = .ok (.ifCond .eq 15, 3) := by decide +kernel
theorem dX9_changed_93 : decode cX9_changed 93 = .ok (.iload 6, 2) := by decide +kernel
theorem dX9_changed_95 : decode cX9_changed 95 = .ok (.iload_n 2, 1) := by decide +kernel
theorem dX9_changed_96 : decode cX9_changed 96 = .ok (.if_icmp .ne 6, 3) := by decide +kernel
theorem dX9_changed_99 : decode cX9_changed 99 = .ok (.iload 5, 2) := by decide +kernel
theorem dX9_changed_101 : decode cX9_changed 101 = .ok (.ireturn, 1) := by decide +kernel
theorem dX9_changed_102 : decode cX9_changed 102 = .ok (.iinc 6 1, 3) := by decide +kernel
theorem dX9_changed_105 : decode cX9_changed 105 = .ok (.lload 8, 2) := by decide +kernel
theorem dX9_changed_107 : decode cX9_changed 107 = .ok (.lstore_n 3, 1) := by decide +kernel
theorem dX9_changed_108 : decode cX9_changed 108 = .ok (.iinc 7 1, 3) := by decide +kernel
theorem dX9_changed_111 : decode cX9_changed 111 = .ok (.goto (-70), 3) := by decide +kernel
theorem dX9_changed_114 : decode cX9_changed 114 = .ok (.iconst (-1), 1) := by decide +kernel
theorem dX9_changed_115 : decode cX9_changed 115 = .ok (.ireturn, 1) := by decide +kernel
theorem dX9_fits_0 : decode cX9_fits 0 = .ok (.iload_n 1, 1) := by decide +kernel
theorem dX9_fits_1 : decode cX9_fits 1 = .ok (.invokestatic 107, 3) := by decide +kernel
theorem dX9_fits_4 : decode cX9_fits 4 = .ok (.ifCond .ne 6, 3) := by decide +kernel
theorem dX9_fits_7 : decode cX9_fits 7 = .ok (.bipush (-2), 2) := by decide +kernel
theorem dX9_fits_9 : decode cX9_fits 9 = .ok (.ireturn, 1) := by decide +kernel
theorem dX9_fits_10 : decode cX9_fits 10 = .ok (.aload_n 0, 1) := by decide +kernel
theorem dX9_fits_11 : decode cX9_fits 11 = .ok (.getfield 57, 3) := by decide +kernel
theorem dX9_fits_14 : decode cX9_fits 14 = .ok (.iload_n 1, 1) := by decide +kernel
theorem dX9_fits_15 : decode cX9_fits 15 = .ok (.invokevirtual 110, 3) := by decide +kernel
theorem dX9_fits_18 : decode cX9_fits 18 = .ok (.ifCond .eq 9, 3) := by decide +kernel
theorem dX9_fits_21 : decode cX9_fits 21 = .ok (.aload_n 0, 1) := by decide +kernel
theorem dX9_fits_22 : decode cX9_fits 22 = .ok (.iconst 1, 1) := by decide +kernel
theorem dX9_fits_23 : decode cX9_fits 23 = .ok (.invokevirtual 113, 3) := by decide +kernel
theorem dX9_fits_26 : decode cX9_fits 26 = .ok (.ireturn, 1) := by decide +kernel
theorem dX9_fits_27 : decode cX9_fits 27 = .ok (.aload_n 0, 1) := by decide +kernel
theorem dX9_fits_28 : decode cX9_fits 28 = .ok (.getfield 57, 3) := by decide +kernel
theorem dX9_fits_31 : decode cX9_fits 31 = .ok (.getfield 117, 3) := by decide +kernel
theorem dX9_fits_34 : decode cX9_fits 34 = .ok (.iload_n 1, 1) := by decide +kernel
theorem dX9_fits_35 : decode cX9_fits 35 = .ok (.iaload, 1) := by decide +kernel
theorem dX9_fits_36 : decode cX9_fits 36 = .ok (.aload_n 0, 1) := by decide +kernel
theorem dX9_fits_37 : decode cX9_fits 37 = .ok (.getfield 68, 3) := by decide +kernel
theorem dX9_fits_40 : decode cX9_fits 40 = .ok (.if_icmp .ge 9, 3) := by decide +kernel
theorem dX9_fits_43 : decode cX9_fits 43 = .ok (.aload_n 0, 1) := by decide +kernel
theorem dX9_fits_44 : decode cX9_fits 44 = .ok (.iconst 2, 1) := by decide +kernel
theorem dX9_fits_45 : decode cX9_fits 45 = .ok (.invokevirtual 113, 3) := by decide +kernel
theorem dX9_fits_48 : decode cX9_fits 48 = .ok (.ireturn, 1) := by decide +kernel
theorem dX9_fits_49 : decode cX9_fits 49 = .ok (.aload_n 0, 1) := by decide +kernel
theorem dX9_fits_50 : decode cX9_fits 50 = .ok (.iload_n 1, 1) := by decide +kernel
theorem dX9_fits_51 : decode cX9_fits 51 = .ok (.invokevirtual 208, 3) := by decide +kernel
theorem dX9_fits_54 : decode cX9_fits 54 = .ok (.invokestatic 155, 3) := by decide +kernel
theorem dX9_fits_57 : decode cX9_fits 57 = .ok (.ireturn, 1) := by decide +kernel
theorem dX9_room_0 : decode cX9_room 0 = .ok (.iload_n 1, 1) := by decide +kernel
theorem dX9_room_1 : decode cX9_room 1 = .ok (.invokestatic 107, 3) := by decide +kernel
theorem dX9_room_4 : decode cX9_room 4 = .ok (.ifCond .eq 11, 3) := by decide +kernel
theorem dX9_room_7 : decode cX9_room 7 = .ok (.aload_n 0, 1) := by decide +kernel
theorem dX9_room_8 : decode cX9_room 8 = .ok (.iload_n 2, 1) := by decide +kernel
theorem dX9_room_9 : decode cX9_room 9 = .ok (.invokevirtual 84, 3) := by decide +kernel
theorem dX9_room_12 : decode cX9_room 12 = .ok (.ifCond .ne 6, 3) := by decide +kernel
theorem dX9_room_15 : decode cX9_room 15 = .ok (.bipush (-2), 2) := by decide +kernel
theorem dX9_room_17 : decode cX9_room 17 = .ok (.ireturn, 1) := by decide +kernel
theorem dX9_room_18 : decode cX9_room 18 = .ok (.aload_n 0, 1) := by decide +kernel
theorem dX9_room_19 : decode cX9_room 19 = .ok (.iload_n 1, 1) := by decide +kernel
theorem dX9_room_20 : decode cX9_room 20 = .ok (.invokevirtual 211, 3) := by decide +kernel
theorem dX9_room_23 : decode cX9_room 23 = .ok (.istore_n 3, 1) := by decide +kernel
theorem dX9_room_24 : decode cX9_room 24 = .ok (.iload_n 3, 1) := by decide +kernel
theorem dX9_room_25 : decode cX9_room 25 = .ok (.ifCond .ge 5, 3) := by decide +kernel
theorem dX9_room_28 : decode cX9_room 28 = .ok (.iload_n 3, 1) := by decide +kernel
theorem dX9_room_29 : decode cX9_room 29 = .ok (.ireturn, 1) := by decide +kernel
theorem dX9_room_30 : decode cX9_room 30 = .ok (.iload_n 3, 1) := by decide +kernel
theorem dX9_room_31 : decode cX9_room 31 = .ok (.iconst 1, 1) := by decide +kernel
theorem dX9_room_32 : decode cX9_room 32 = .ok (.if_icmp .ne 12, 3) := by decide +kernel
theorem dX9_room_35 : decode cX9_room 35 = .ok (.aload_n 0, 1) := by decide +kernel
theorem dX9_room_36 : decode cX9_room 36 = .ok (.iload_n 1, 1) := by decide +kernel
theorem dX9_room_37 : decode cX9_room 37 = .ok (.iload_n 2, 1) := by decide +kernel
theorem dX9_room_38 : decode cX9_room 38 = .ok (.invokevirtual 214, 3) := by decide +kernel
theorem dX9_room_41 : decode cX9_room 41 = .ok (.goto 5, 3) := by decide +kernel
theorem dX9_room_44 : decode cX9_room 44 = .ok (.bipush (-3), 2) := by decide +kernel
theorem dX9_room_46 : decode cX9_room 46 = .ok (.ireturn, 1) := by decide +kernel
theorem dX9_kin_0 : decode cX9_kin 0 = .ok (.aload_n 0, 1) := by decide +kernel
