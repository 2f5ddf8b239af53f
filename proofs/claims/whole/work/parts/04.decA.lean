theorem dX0_init_0 : decode cX0_init 0 = .ok (.aload_n 0, 1) := by decide +kernel
theorem dX0_init_1 : decode cX0_init 1 = .ok (.invokespecial 3, 3) := by decide +kernel
theorem dX0_init_4 : decode cX0_init 4 = .ok (.aload_n 0, 1) := by decide +kernel
theorem dX0_init_5 : decode cX0_init 5 = .ok (.bipush 8, 2) := by decide +kernel
theorem dX0_init_7 : decode cX0_init 7 = .ok (.newarray .int, 2) := by decide +kernel
theorem dX0_init_9 : decode cX0_init 9 = .ok (.putfield 9, 3) := by decide +kernel
theorem dX0_init_12 : decode cX0_init 12 = .ok (.aload_n 0, 1) := by decide +kernel
theorem dX0_init_13 : decode cX0_init 13 = .ok (.bipush 8, 2) := by decide +kernel
theorem dX0_init_15 : decode cX0_init 15 = .ok (.newarray .int, 2) := by decide +kernel
theorem dX0_init_17 : decode cX0_init 17 = .ok (.putfield 15, 3) := by decide +kernel
theorem dX0_init_20 : decode cX0_init 20 = .ok (.return_, 1) := by decide +kernel
theorem dX0_clear_0 : decode cX0_clear 0 = .ok (.aload_n 0, 1) := by decide +kernel
theorem dX0_clear_1 : decode cX0_clear 1 = .ok (.iconst 0, 1) := by decide +kernel
theorem dX0_clear_2 : decode cX0_clear 2 = .ok (.putfield 18, 3) := by decide +kernel
theorem dX0_clear_5 : decode cX0_clear 5 = .ok (.return_, 1) := by decide +kernel
theorem dX0_add_0 : decode cX0_add 0 = .ok (.aload_n 0, 1) := by decide +kernel
theorem dX0_add_1 : decode cX0_add 1 = .ok (.getfield 18, 3) := by decide +kernel
theorem dX0_add_4 : decode cX0_add 4 = .ok (.bipush 8, 2) := by decide +kernel
theorem dX0_add_6 : decode cX0_add 6 = .ok (.if_icmp .ge 23, 3) := by decide +kernel
theorem dX0_add_9 : decode cX0_add 9 = .ok (.aload_n 0, 1) := by decide +kernel
theorem dX0_add_10 : decode cX0_add 10 = .ok (.getfield 9, 3) := by decide +kernel
theorem dX0_add_13 : decode cX0_add 13 = .ok (.aload_n 0, 1) := by decide +kernel
theorem dX0_add_14 : decode cX0_add 14 = .ok (.getfield 18, 3) := by decide +kernel
theorem dX0_add_17 : decode cX0_add 17 = .ok (.iload_n 1, 1) := by decide +kernel
theorem dX0_add_18 : decode cX0_add 18 = .ok (.iastore, 1) := by decide +kernel
theorem dX0_add_19 : decode cX0_add 19 = .ok (.aload_n 0, 1) := by decide +kernel
theorem dX0_add_20 : decode cX0_add 20 = .ok (.dup, 1) := by decide +kernel
theorem dX0_add_21 : decode cX0_add 21 = .ok (.getfield 18, 3) := by decide +kernel
theorem dX0_add_24 : decode cX0_add 24 = .ok (.iconst 1, 1) := by decide +kernel
theorem dX0_add_25 : decode cX0_add 25 = .ok (.iadd, 1) := by decide +kernel
theorem dX0_add_26 : decode cX0_add 26 = .ok (.putfield 18, 3) := by decide +kernel
theorem dX0_add_29 : decode cX0_add 29 = .ok (.return_, 1) := by decide +kernel
theorem dX0_tellMost_0 : decode cX0_tellMost 0 = .ok (.bipush 8, 2) := by decide +kernel
theorem dX0_tellMost_2 : decode cX0_tellMost 2 = .ok (.invokestatic 22, 3) := by decide +kernel
theorem dX0_tellMost_5 : decode cX0_tellMost 5 = .ok (.istore_n 2, 1) := by decide +kernel
theorem dX0_tellMost_6 : decode cX0_tellMost 6 = .ok (.aload_n 0, 1) := by decide +kernel
theorem dX0_tellMost_7 : decode cX0_tellMost 7 = .ok (.iconst 0, 1) := by decide +kernel
theorem dX0_tellMost_8 : decode cX0_tellMost 8 = .ok (.iload_n 2, 1) := by decide +kernel
theorem dX0_tellMost_9 : decode cX0_tellMost 9 = .ok (.invokevirtual 26, 3) := by decide +kernel
theorem dX0_tellMost_12 : decode cX0_tellMost 12 = .ok (.istore_n 3, 1) := by decide +kernel
theorem dX0_tellMost_13 : decode cX0_tellMost 13 = .ok (.iload_n 3, 1) := by decide +kernel
theorem dX0_tellMost_14 : decode cX0_tellMost 14 = .ok (.istore 4, 2) := by decide +kernel
theorem dX0_tellMost_16 : decode cX0_tellMost 16 = .ok (.aload_n 1, 1) := by decide +kernel
theorem dX0_tellMost_17 : decode cX0_tellMost 17 = .ok (.invokevirtual 30, 3) := by decide +kernel
theorem dX0_tellMost_20 : decode cX0_tellMost 20 = .ok (.iconst 0, 1) := by decide +kernel
theorem dX0_tellMost_21 : decode cX0_tellMost 21 = .ok (.istore 5, 2) := by decide +kernel
theorem dX0_tellMost_23 : decode cX0_tellMost 23 = .ok (.iload 5, 2) := by decide +kernel
theorem dX0_tellMost_25 : decode cX0_tellMost 25 = .ok (.aload_n 0, 1) := by decide +kernel
theorem dX0_tellMost_26 : decode cX0_tellMost 26 = .ok (.getfield 18, 3) := by decide +kernel
theorem dX0_tellMost_29 : decode cX0_tellMost 29 = .ok (.if_icmp .ge 45, 3) := by decide +kernel
theorem dX0_tellMost_32 : decode cX0_tellMost 32 = .ok (.aload_n 0, 1) := by decide +kernel
theorem dX0_tellMost_33 : decode cX0_tellMost 33 = .ok (.iload 5, 2) := by decide +kernel
theorem dX0_tellMost_35 : decode cX0_tellMost 35 = .ok (.iload_n 2, 1) := by decide +kernel
theorem dX0_tellMost_36 : decode cX0_tellMost 36 = .ok (.iload 4, 2) := by decide +kernel
theorem dX0_tellMost_38 : decode cX0_tellMost 38 = .ok (.invokevirtual 35, 3) := by decide +kernel
theorem dX0_tellMost_41 : decode cX0_tellMost 41 = .ok (.istore 6, 2) := by decide +kernel
theorem dX0_tellMost_43 : decode cX0_tellMost 43 = .ok (.aload_n 1, 1) := by decide +kernel
theorem dX0_tellMost_44 : decode cX0_tellMost 44 = .ok (.iload 6, 2) := by decide +kernel
theorem dX0_tellMost_46 : decode cX0_tellMost 46 = .ok (.i2l, 1) := by decide +kernel
theorem dX0_tellMost_47 : decode cX0_tellMost 47 = .ok (.invokevirtual 39, 3) := by decide +kernel
theorem dX0_tellMost_50 : decode cX0_tellMost 50 = .ok (.iload 6, 2) := by decide +kernel
theorem dX0_tellMost_52 : decode cX0_tellMost 52 = .ok (.iconst (-1), 1) := by decide +kernel
theorem dX0_tellMost_53 : decode cX0_tellMost 53 = .ok (.if_icmp .eq 15, 3) := by decide +kernel
theorem dX0_tellMost_56 : decode cX0_tellMost 56 = .ok (.iload_n 2, 1) := by decide +kernel
theorem dX0_tellMost_57 : decode cX0_tellMost 57 = .ok (.iconst 1, 1) := by decide +kernel
theorem dX0_tellMost_58 : decode cX0_tellMost 58 = .ok (.iload 6, 2) := by decide +kernel
theorem dX0_tellMost_60 : decode cX0_tellMost 60 = .ok (.ishl, 1) := by decide +kernel
theorem dX0_tellMost_61 : decode cX0_tellMost 61 = .ok (.iconst (-1), 1) := by decide +kernel
theorem dX0_tellMost_62 : decode cX0_tellMost 62 = .ok (.ixor, 1) := by decide +kernel
theorem dX0_tellMost_63 : decode cX0_tellMost 63 = .ok (.iand, 1) := by decide +kernel
theorem dX0_tellMost_64 : decode cX0_tellMost 64 = .ok (.istore_n 2, 1) := by decide +kernel
theorem dX0_tellMost_65 : decode cX0_tellMost 65 = .ok (.iinc 4 (-1), 3) := by decide +kernel
theorem dX0_tellMost_68 : decode cX0_tellMost 68 = .ok (.iinc 5 1, 3) := by decide +kernel
theorem dX0_tellMost_71 : decode cX0_tellMost 71 = .ok (.goto (-48), 3) := by decide +kernel
theorem dX0_tellMost_74 : decode cX0_tellMost 74 = .ok (.iload_n 3, 1) := by decide +kernel
theorem dX0_tellMost_75 : decode cX0_tellMost 75 = .ok (.ireturn, 1) := by decide +kernel
theorem dX0_leastFor_0 : decode cX0_leastFor 0 = .ok (.aload_n 0, 1) := by decide +kernel
theorem dX0_leastFor_1 : decode cX0_leastFor 1 = .ok (.iload_n 1, 1) := by decide +kernel
theorem dX0_leastFor_2 : decode cX0_leastFor 2 = .ok (.iconst 1, 1) := by decide +kernel
theorem dX0_leastFor_3 : decode cX0_leastFor 3 = .ok (.iadd, 1) := by decide +kernel
theorem dX0_leastFor_4 : decode cX0_leastFor 4 = .ok (.iload_n 2, 1) := by decide +kernel
theorem dX0_leastFor_5 : decode cX0_leastFor 5 = .ok (.invokevirtual 26, 3) := by decide +kernel
theorem dX0_leastFor_8 : decode cX0_leastFor 8 = .ok (.iload_n 3, 1) := by decide +kernel
theorem dX0_leastFor_9 : decode cX0_leastFor 9 = .ok (.if_icmp .lt 5, 3) := by decide +kernel
theorem dX0_leastFor_12 : decode cX0_leastFor 12 = .ok (.iconst (-1), 1) := by decide +kernel
theorem dX0_leastFor_13 : decode cX0_leastFor 13 = .ok (.ireturn, 1) := by decide +kernel
theorem dX0_leastFor_14 : decode cX0_leastFor 14 = .ok (.iconst 0, 1) := by decide +kernel
theorem dX0_leastFor_15 : decode cX0_leastFor 15 = .ok (.istore 4, 2) := by decide +kernel
theorem dX0_leastFor_17 : decode cX0_leastFor 17 = .ok (.iload 4, 2) := by decide +kernel
theorem dX0_leastFor_19 : decode cX0_leastFor 19 = .ok (.bipush 8, 2) := by decide +kernel
theorem dX0_leastFor_21 : decode cX0_leastFor 21 = .ok (.if_icmp .ge 53, 3) := by decide +kernel
theorem dX0_leastFor_24 : decode cX0_leastFor 24 = .ok (.aload_n 0, 1) := by decide +kernel
theorem dX0_leastFor_25 : decode cX0_leastFor 25 = .ok (.getfield 9, 3) := by decide +kernel
theorem dX0_leastFor_28 : decode cX0_leastFor 28 = .ok (.iload_n 1, 1) := by decide +kernel
theorem dX0_leastFor_29 : decode cX0_leastFor 29 = .ok (.iaload, 1) := by decide +kernel
theorem dX0_leastFor_30 : decode cX0_leastFor 30 = .ok (.iload_n 2, 1) := by decide +kernel
theorem dX0_leastFor_31 : decode cX0_leastFor 31 = .ok (.iand, 1) := by decide +kernel
theorem dX0_leastFor_32 : decode cX0_leastFor 32 = .ok (.iload 4, 2) := by decide +kernel
theorem dX0_leastFor_34 : decode cX0_leastFor 34 = .ok (.invokestatic 43, 3) := by decide +kernel
theorem dX0_leastFor_37 : decode cX0_leastFor 37 = .ok (.istore 5, 2) := by decide +kernel
theorem dX0_leastFor_39 : decode cX0_leastFor 39 = .ok (.iload 5, 2) := by decide +kernel
theorem dX0_leastFor_41 : decode cX0_leastFor 41 = .ok (.ifCond .eq 27, 3) := by decide +kernel
theorem dX0_leastFor_44 : decode cX0_leastFor 44 = .ok (.aload_n 0, 1) := by decide +kernel
theorem dX0_leastFor_45 : decode cX0_leastFor 45 = .ok (.iload_n 1, 1) := by decide +kernel
theorem dX0_leastFor_46 : decode cX0_leastFor 46 = .ok (.iconst 1, 1) := by decide +kernel
theorem dX0_leastFor_47 : decode cX0_leastFor 47 = .ok (.iadd, 1) := by decide +kernel
theorem dX0_leastFor_48 : decode cX0_leastFor 48 = .ok (.iload_n 2, 1) := by decide +kernel
theorem dX0_leastFor_49 : decode cX0_leastFor 49 = .ok (.iconst 1, 1) := by decide +kernel
theorem dX0_leastFor_50 : decode cX0_leastFor 50 = .ok (.iload 4, 2) := by decide +kernel
theorem dX0_leastFor_52 : decode cX0_leastFor 52 = .ok (.ishl, 1) := by decide +kernel
theorem dX0_leastFor_53 : decode cX0_leastFor 53 = .ok (.iconst (-1), 1) := by decide +kernel
theorem dX0_leastFor_54 : decode cX0_leastFor 54 = .ok (.ixor, 1) := by decide +kernel
theorem dX0_leastFor_55 : decode cX0_leastFor 55 = .ok (.iand, 1) := by decide +kernel
theorem dX0_leastFor_56 : decode cX0_leastFor 56 = .ok (.invokevirtual 26, 3) := by decide +kernel
theorem dX0_leastFor_59 : decode cX0_leastFor 59 = .ok (.iload_n 3, 1) := by decide +kernel
theorem dX0_leastFor_60 : decode cX0_leastFor 60 = .ok (.iconst 1, 1) := by decide +kernel
theorem dX0_leastFor_61 : decode cX0_leastFor 61 = .ok (.isub, 1) := by decide +kernel
theorem dX0_leastFor_62 : decode cX0_leastFor 62 = .ok (.if_icmp .lt 6, 3) := by decide +kernel
theorem dX0_leastFor_65 : decode cX0_leastFor 65 = .ok (.iload 4, 2) := by decide +kernel
theorem dX0_leastFor_67 : decode cX0_leastFor 67 = .ok (.ireturn, 1) := by decide +kernel
theorem dX0_leastFor_68 : decode cX0_leastFor 68 = .ok (.iinc 4 1, 3) := by decide +kernel
theorem dX0_leastFor_71 : decode cX0_leastFor 71 = .ok (.goto (-54), 3) := by decide +kernel
theorem dX0_leastFor_74 : decode cX0_leastFor 74 = .ok (.iconst (-1), 1) := by decide +kernel
theorem dX0_leastFor_75 : decode cX0_leastFor 75 = .ok (.ireturn, 1) := by decide +kernel
theorem dX0_served_0 : decode cX0_served 0 = .ok (.aload_n 0, 1) := by decide +kernel
theorem dX0_served_1 : decode cX0_served 1 = .ok (.getfield 15, 3) := by decide +kernel
theorem dX0_served_4 : decode cX0_served 4 = .ok (.iconst (-1), 1) := by decide +kernel
theorem dX0_served_5 : decode cX0_served 5 = .ok (.invokestatic 47, 3) := by decide +kernel
theorem dX0_served_8 : decode cX0_served 8 = .ok (.iconst 0, 1) := by decide +kernel
theorem dX0_served_9 : decode cX0_served 9 = .ok (.istore_n 3, 1) := by decide +kernel
theorem dX0_served_10 : decode cX0_served 10 = .ok (.iload_n 1, 1) := by decide +kernel
theorem dX0_served_11 : decode cX0_served 11 = .ok (.istore 4, 2) := by decide +kernel
theorem dX0_served_13 : decode cX0_served 13 = .ok (.iload 4, 2) := by decide +kernel
theorem dX0_served_15 : decode cX0_served 15 = .ok (.aload_n 0, 1) := by decide +kernel
theorem dX0_served_16 : decode cX0_served 16 = .ok (.getfield 18, 3) := by decide +kernel
theorem dX0_served_19 : decode cX0_served 19 = .ok (.if_icmp .ge 28, 3) := by decide +kernel
theorem dX0_served_22 : decode cX0_served 22 = .ok (.aload_n 0, 1) := by decide +kernel
theorem dX0_served_23 : decode cX0_served 23 = .ok (.iconst 0, 1) := by decide +kernel
theorem dX0_served_24 : decode cX0_served 24 = .ok (.putfield 53, 3) := by decide +kernel
theorem dX0_served_27 : decode cX0_served 27 = .ok (.aload_n 0, 1) := by decide +kernel
theorem dX0_served_28 : decode cX0_served 28 = .ok (.iload 4, 2) := by decide +kernel
theorem dX0_served_30 : decode cX0_served 30 = .ok (.iload_n 2, 1) := by decide +kernel
theorem dX0_served_31 : decode cX0_served 31 = .ok (.iconst 0, 1) := by decide +kernel
theorem dX0_served_32 : decode cX0_served 32 = .ok (.invokevirtual 56, 3) := by decide +kernel
theorem dX0_served_35 : decode cX0_served 35 = .ok (.ifCond .eq 6, 3) := by decide +kernel
theorem dX0_served_38 : decode cX0_served 38 = .ok (.iinc 3 1, 3) := by decide +kernel
theorem dX0_served_41 : decode cX0_served 41 = .ok (.iinc 4 1, 3) := by decide +kernel
theorem dX0_served_44 : decode cX0_served 44 = .ok (.goto (-31), 3) := by decide +kernel
theorem dX0_served_47 : decode cX0_served 47 = .ok (.iload_n 3, 1) := by decide +kernel
theorem dX0_served_48 : decode cX0_served 48 = .ok (.ireturn, 1) := by decide +kernel
theorem dX0_finds_0 : decode cX0_finds 0 = .ok (.iload_n 3, 1) := by decide +kernel
theorem dX0_finds_1 : decode cX0_finds 1 = .ok (.bipush 8, 2) := by decide +kernel
theorem dX0_finds_3 : decode cX0_finds 3 = .ok (.if_icmp .gt 15, 3) := by decide +kernel
theorem dX0_finds_6 : decode cX0_finds 6 = .ok (.iload_n 1, 1) := by decide +kernel
theorem dX0_finds_7 : decode cX0_finds 7 = .ok (.ifCond .lt 11, 3) := by decide +kernel
theorem dX0_finds_10 : decode cX0_finds 10 = .ok (.iload_n 1, 1) := by decide +kernel
theorem dX0_finds_11 : decode cX0_finds 11 = .ok (.aload_n 0, 1) := by decide +kernel
theorem dX0_finds_12 : decode cX0_finds 12 = .ok (.getfield 18, 3) := by decide +kernel
theorem dX0_finds_15 : decode cX0_finds 15 = .ok (.if_icmp .lt 5, 3) := by decide +kernel
theorem dX0_finds_18 : decode cX0_finds 18 = .ok (.iconst 0, 1) := by decide +kernel
theorem dX0_finds_19 : decode cX0_finds 19 = .ok (.ireturn, 1) := by decide +kernel
theorem dX0_finds_20 : decode cX0_finds 20 = .ok (.iconst 0, 1) := by decide +kernel
theorem dX0_finds_21 : decode cX0_finds 21 = .ok (.istore 4, 2) := by decide +kernel
theorem dX0_finds_23 : decode cX0_finds 23 = .ok (.iload 4, 2) := by decide +kernel
theorem dX0_finds_25 : decode cX0_finds 25 = .ok (.bipush 8, 2) := by decide +kernel
theorem dX0_finds_27 : decode cX0_finds 27 = .ok (.if_icmp .ge 84, 3) := by decide +kernel
theorem dX0_finds_30 : decode cX0_finds 30 = .ok (.aload_n 0, 1) := by decide +kernel
theorem dX0_finds_31 : decode cX0_finds 31 = .ok (.getfield 9, 3) := by decide +kernel
theorem dX0_finds_34 : decode cX0_finds 34 = .ok (.iload_n 1, 1) := by decide +kernel
theorem dX0_finds_35 : decode cX0_finds 35 = .ok (.iaload, 1) := by decide +kernel
theorem dX0_finds_36 : decode cX0_finds 36 = .ok (.iload_n 2, 1) := by decide +kernel
theorem dX0_finds_37 : decode cX0_finds 37 = .ok (.iand, 1) := by decide +kernel
theorem dX0_finds_38 : decode cX0_finds 38 = .ok (.aload_n 0, 1) := by decide +kernel
theorem dX0_finds_39 : decode cX0_finds 39 = .ok (.getfield 53, 3) := by decide +kernel
theorem dX0_finds_42 : decode cX0_finds 42 = .ok (.iconst (-1), 1) := by decide +kernel
theorem dX0_finds_43 : decode cX0_finds 43 = .ok (.ixor, 1) := by decide +kernel
theorem dX0_finds_44 : decode cX0_finds 44 = .ok (.iand, 1) := by decide +kernel
theorem dX0_finds_45 : decode cX0_finds 45 = .ok (.iload 4, 2) := by decide +kernel
theorem dX0_finds_47 : decode cX0_finds 47 = .ok (.invokestatic 43, 3) := by decide +kernel
theorem dX0_finds_50 : decode cX0_finds 50 = .ok (.ifCond .eq 55, 3) := by decide +kernel
theorem dX0_finds_53 : decode cX0_finds 53 = .ok (.aload_n 0, 1) := by decide +kernel
theorem dX0_finds_54 : decode cX0_finds 54 = .ok (.dup, 1) := by decide +kernel
theorem dX0_finds_55 : decode cX0_finds 55 = .ok (.getfield 53, 3) := by decide +kernel
theorem dX0_finds_58 : decode cX0_finds 58 = .ok (.iconst 1, 1) := by decide +kernel
theorem dX0_finds_59 : decode cX0_finds 59 = .ok (.iload 4, 2) := by decide +kernel
theorem dX0_finds_61 : decode cX0_finds 61 = .ok (.ishl, 1) := by decide +kernel
theorem dX0_finds_62 : decode cX0_finds 62 = .ok (.ior, 1) := by decide +kernel
theorem dX0_finds_63 : decode cX0_finds 63 = .ok (.putfield 53, 3) := by decide +kernel
theorem dX0_finds_66 : decode cX0_finds 66 = .ok (.aload_n 0, 1) := by decide +kernel
theorem dX0_finds_67 : decode cX0_finds 67 = .ok (.getfield 15, 3) := by decide +kernel
theorem dX0_finds_70 : decode cX0_finds 70 = .ok (.iload 4, 2) := by decide +kernel
theorem dX0_finds_72 : decode cX0_finds 72 = .ok (.iaload, 1) := by decide +kernel
theorem dX0_finds_73 : decode cX0_finds 73 = .ok (.iconst (-1), 1) := by decide +kernel
theorem dX0_finds_74 : decode cX0_finds 74 = .ok (.if_icmp .eq 21, 3) := by decide +kernel
theorem dX0_finds_77 : decode cX0_finds 77 = .ok (.aload_n 0, 1) := by decide +kernel
theorem dX0_finds_78 : decode cX0_finds 78 = .ok (.aload_n 0, 1) := by decide +kernel
theorem dX0_finds_79 : decode cX0_finds 79 = .ok (.getfield 15, 3) := by decide +kernel
theorem dX0_finds_82 : decode cX0_finds 82 = .ok (.iload 4, 2) := by decide +kernel
theorem dX0_finds_84 : decode cX0_finds 84 = .ok (.iaload, 1) := by decide +kernel
theorem dX0_finds_85 : decode cX0_finds 85 = .ok (.iload_n 2, 1) := by decide +kernel
theorem dX0_finds_86 : decode cX0_finds 86 = .ok (.iload_n 3, 1) := by decide +kernel
theorem dX0_finds_87 : decode cX0_finds 87 = .ok (.iconst 1, 1) := by decide +kernel
theorem dX0_finds_88 : decode cX0_finds 88 = .ok (.iadd, 1) := by decide +kernel
theorem dX0_finds_89 : decode cX0_finds 89 = .ok (.invokevirtual 56, 3) := by decide +kernel
theorem dX0_finds_92 : decode cX0_finds 92 = .ok (.ifCond .eq 13, 3) := by decide +kernel
theorem dX0_finds_95 : decode cX0_finds 95 = .ok (.aload_n 0, 1) := by decide +kernel
theorem dX0_finds_96 : decode cX0_finds 96 = .ok (.getfield 15, 3) := by decide +kernel
theorem dX0_finds_99 : decode cX0_finds 99 = .ok (.iload 4, 2) := by decide +kernel
theorem dX0_finds_101 : decode cX0_finds 101 = .ok (.iload_n 1, 1) := by decide +kernel
theorem dX0_finds_102 : decode cX0_finds 102 = .ok (.iastore, 1) := by decide +kernel
theorem dX0_finds_103 : decode cX0_finds 103 = .ok (.iconst 1, 1) := by decide +kernel
theorem dX0_finds_104 : decode cX0_finds 104 = .ok (.ireturn, 1) := by decide +kernel
theorem dX0_finds_105 : decode cX0_finds 105 = .ok (.iinc 4 1, 3) := by decide +kernel
theorem dX0_finds_108 : decode cX0_finds 108 = .ok (.goto (-85), 3) := by decide +kernel
theorem dX0_finds_111 : decode cX0_finds 111 = .ok (.iconst 0, 1) := by decide +kernel
theorem dX0_finds_112 : decode cX0_finds 112 = .ok (.ireturn, 1) := by decide +kernel
theorem dX1_init_0 : decode cX1_init 0 = .ok (.aload_n 0, 1) := by decide +kernel
theorem dX1_init_1 : decode cX1_init 1 = .ok (.invokespecial 3, 3) := by decide +kernel
theorem dX1_init_4 : decode cX1_init 4 = .ok (.aload_n 0, 1) := by decide +kernel
theorem dX1_init_5 : decode cX1_init 5 = .ok (.bipush 8, 2) := by decide +kernel
theorem dX1_init_7 : decode cX1_init 7 = .ok (.newarray .int, 2) := by decide +kernel
theorem dX1_init_9 : decode cX1_init 9 = .ok (.putfield 9, 3) := by decide +kernel
theorem dX1_init_12 : decode cX1_init 12 = .ok (.aload_n 0, 1) := by decide +kernel
theorem dX1_init_13 : decode cX1_init 13 = .ok (.bipush 8, 2) := by decide +kernel
theorem dX1_init_15 : decode cX1_init 15 = .ok (.newarray .int, 2) := by decide +kernel
theorem dX1_init_17 : decode cX1_init 17 = .ok (.putfield 15, 3) := by decide +kernel
theorem dX1_init_20 : decode cX1_init 20 = .ok (.aload_n 0, 1) := by decide +kernel
theorem dX1_init_21 : decode cX1_init 21 = .ok (.bipush 8, 2) := by decide +kernel
theorem dX1_init_23 : decode cX1_init 23 = .ok (.newarray .int, 2) := by decide +kernel
theorem dX1_init_25 : decode cX1_init 25 = .ok (.putfield 18, 3) := by decide +kernel
theorem dX1_init_28 : decode cX1_init 28 = .ok (.return_, 1) := by decide +kernel
theorem dX1_clear_0 : decode cX1_clear 0 = .ok (.aload_n 0, 1) := by decide +kernel
theorem dX1_clear_1 : decode cX1_clear 1 = .ok (.iconst 0, 1) := by decide +kernel
theorem dX1_clear_2 : decode cX1_clear 2 = .ok (.putfield 21, 3) := by decide +kernel
theorem dX1_clear_5 : decode cX1_clear 5 = .ok (.aload_n 0, 1) := by decide +kernel
theorem dX1_clear_6 : decode cX1_clear 6 = .ok (.iconst 0, 1) := by decide +kernel
theorem dX1_clear_7 : decode cX1_clear 7 = .ok (.putfield 25, 3) := by decide +kernel
theorem dX1_clear_10 : decode cX1_clear 10 = .ok (.return_, 1) := by decide +kernel
theorem dX1_isBroken_0 : decode cX1_isBroken 0 = .ok (.aload_n 0, 1) := by decide +kernel
theorem dX1_isBroken_1 : decode cX1_isBroken 1 = .ok (.getfield 21, 3) := by decide +kernel
theorem dX1_isBroken_4 : decode cX1_isBroken 4 = .ok (.iload_n 1, 1) := by decide +kernel
theorem dX1_isBroken_5 : decode cX1_isBroken 5 = .ok (.invokestatic 28, 3) := by decide +kernel
theorem dX1_isBroken_8 : decode cX1_isBroken 8 = .ok (.ireturn, 1) := by decide +kernel
theorem dX1_copy_0 : decode cX1_copy 0 = .ok (.aload_n 1, 1) := by decide +kernel
theorem dX1_copy_1 : decode cX1_copy 1 = .ok (.getfield 9, 3) := by decide +kernel
theorem dX1_copy_4 : decode cX1_copy 4 = .ok (.iconst 0, 1) := by decide +kernel
theorem dX1_copy_5 : decode cX1_copy 5 = .ok (.aload_n 0, 1) := by decide +kernel
theorem dX1_copy_6 : decode cX1_copy 6 = .ok (.getfield 9, 3) := by decide +kernel
theorem dX1_copy_9 : decode cX1_copy 9 = .ok (.iconst 0, 1) := by decide +kernel
theorem dX1_copy_10 : decode cX1_copy 10 = .ok (.bipush 8, 2) := by decide +kernel
theorem dX1_copy_12 : decode cX1_copy 12 = .ok (.invokestatic 32, 3) := by decide +kernel
theorem dX1_copy_15 : decode cX1_copy 15 = .ok (.aload_n 1, 1) := by decide +kernel
theorem dX1_copy_16 : decode cX1_copy 16 = .ok (.getfield 15, 3) := by decide +kernel
theorem dX1_copy_19 : decode cX1_copy 19 = .ok (.iconst 0, 1) := by decide +kernel
theorem dX1_copy_20 : decode cX1_copy 20 = .ok (.aload_n 0, 1) := by decide +kernel
theorem dX1_copy_21 : decode cX1_copy 21 = .ok (.getfield 15, 3) := by decide +kernel
theorem dX1_copy_24 : decode cX1_copy 24 = .ok (.iconst 0, 1) := by decide +kernel
theorem dX1_copy_25 : decode cX1_copy 25 = .ok (.bipush 8, 2) := by decide +kernel
theorem dX1_copy_27 : decode cX1_copy 27 = .ok (.invokestatic 32, 3) := by decide +kernel
theorem dX1_copy_30 : decode cX1_copy 30 = .ok (.aload_n 1, 1) := by decide +kernel
theorem dX1_copy_31 : decode cX1_copy 31 = .ok (.getfield 18, 3) := by decide +kernel
theorem dX1_copy_34 : decode cX1_copy 34 = .ok (.iconst 0, 1) := by decide +kernel
theorem dX1_copy_35 : decode cX1_copy 35 = .ok (.aload_n 0, 1) := by decide +kernel
theorem dX1_copy_36 : decode cX1_copy 36 = .ok (.getfield 18, 3) := by decide +kernel
theorem dX1_copy_39 : decode cX1_copy 39 = .ok (.iconst 0, 1) := by decide +kernel
theorem dX1_copy_40 : decode cX1_copy 40 = .ok (.bipush 8, 2) := by decide +kernel
theorem dX1_copy_42 : decode cX1_copy 42 = .ok (.invokestatic 32, 3) := by decide +kernel
theorem dX1_copy_45 : decode cX1_copy 45 = .ok (.aload_n 0, 1) := by decide +kernel
theorem dX1_copy_46 : decode cX1_copy 46 = .ok (.aload_n 1, 1) := by decide +kernel
theorem dX1_copy_47 : decode cX1_copy 47 = .ok (.getfield 21, 3) := by decide +kernel
theorem dX1_copy_50 : decode cX1_copy 50 = .ok (.putfield 21, 3) := by decide +kernel
theorem dX1_copy_53 : decode cX1_copy 53 = .ok (.aload_n 0, 1) := by decide +kernel
theorem dX1_copy_54 : decode cX1_copy 54 = .ok (.aload_n 1, 1) := by decide +kernel
theorem dX1_copy_55 : decode cX1_copy 55 = .ok (.getfield 25, 3) := by decide +kernel
theorem dX1_copy_58 : decode cX1_copy 58 = .ok (.putfield 25, 3) := by decide +kernel
theorem dX1_copy_61 : decode cX1_copy 61 = .ok (.return_, 1) := by decide +kernel
theorem dX1_write_0 : decode cX1_write 0 = .ok (.iload_n 2, 1) := by decide +kernel
theorem dX1_write_1 : decode cX1_write 1 = .ok (.bipush 26, 2) := by decide +kernel
theorem dX1_write_3 : decode cX1_write 3 = .ok (.imul, 1) := by decide +kernel
theorem dX1_write_4 : decode cX1_write 4 = .ok (.istore_n 3, 1) := by decide +kernel
theorem dX1_write_5 : decode cX1_write 5 = .ok (.iload_n 3, 1) := by decide +kernel
theorem dX1_write_6 : decode cX1_write 6 = .ok (.ifCond .lt 12, 3) := by decide +kernel
theorem dX1_write_9 : decode cX1_write 9 = .ok (.iload_n 3, 1) := by decide +kernel
theorem dX1_write_10 : decode cX1_write 10 = .ok (.aload_n 1, 1) := by decide +kernel
theorem dX1_write_11 : decode cX1_write 11 = .ok (.arraylength, 1) := by decide +kernel
theorem dX1_write_12 : decode cX1_write 12 = .ok (.bipush 26, 2) := by decide +kernel
theorem dX1_write_14 : decode cX1_write 14 = .ok (.isub, 1) := by decide +kernel
theorem dX1_write_15 : decode cX1_write 15 = .ok (.if_icmp .le 4, 3) := by decide +kernel
theorem dX1_write_18 : decode cX1_write 18 = .ok (.return_, 1) := by decide +kernel
theorem dX1_write_19 : decode cX1_write 19 = .ok (.aload_n 0, 1) := by decide +kernel
theorem dX1_write_20 : decode cX1_write 20 = .ok (.getfield 9, 3) := by decide +kernel
theorem dX1_write_23 : decode cX1_write 23 = .ok (.iconst 0, 1) := by decide +kernel
theorem dX1_write_24 : decode cX1_write 24 = .ok (.aload_n 1, 1) := by decide +kernel
theorem dX1_write_25 : decode cX1_write 25 = .ok (.iload_n 3, 1) := by decide +kernel
theorem dX1_write_26 : decode cX1_write 26 = .ok (.bipush 8, 2) := by decide +kernel
theorem dX1_write_28 : decode cX1_write 28 = .ok (.invokestatic 32, 3) := by decide +kernel
theorem dX1_write_31 : decode cX1_write 31 = .ok (.aload_n 0, 1) := by decide +kernel
theorem dX1_write_32 : decode cX1_write 32 = .ok (.getfield 15, 3) := by decide +kernel
theorem dX1_write_35 : decode cX1_write 35 = .ok (.iconst 0, 1) := by decide +kernel
theorem dX1_write_36 : decode cX1_write 36 = .ok (.aload_n 1, 1) := by decide +kernel
theorem dX1_write_37 : decode cX1_write 37 = .ok (.iload_n 3, 1) := by decide +kernel
theorem dX1_write_38 : decode cX1_write 38 = .ok (.bipush 8, 2) := by decide +kernel
theorem dX1_write_40 : decode cX1_write 40 = .ok (.iadd, 1) := by decide +kernel
theorem dX1_write_41 : decode cX1_write 41 = .ok (.bipush 8, 2) := by decide +kernel
theorem dX1_write_43 : decode cX1_write 43 = .ok (.invokestatic 32, 3) := by decide +kernel
theorem dX1_write_46 : decode cX1_write 46 = .ok (.aload_n 0, 1) := by decide +kernel
theorem dX1_write_47 : decode cX1_write 47 = .ok (.getfield 18, 3) := by decide +kernel
theorem dX1_write_50 : decode cX1_write 50 = .ok (.iconst 0, 1) := by decide +kernel
theorem dX1_write_51 : decode cX1_write 51 = .ok (.aload_n 1, 1) := by decide +kernel
theorem dX1_write_52 : decode cX1_write 52 = .ok (.iload_n 3, 1) := by decide +kernel
theorem dX1_write_53 : decode cX1_write 53 = .ok (.bipush 16, 2) := by decide +kernel
theorem dX1_write_55 : decode cX1_write 55 = .ok (.iadd, 1) := by decide +kernel
theorem dX1_write_56 : decode cX1_write 56 = .ok (.bipush 8, 2) := by decide +kernel
theorem dX1_write_58 : decode cX1_write 58 = .ok (.invokestatic 32, 3) := by decide +kernel
theorem dX1_write_61 : decode cX1_write 61 = .ok (.aload_n 1, 1) := by decide +kernel
theorem dX1_write_62 : decode cX1_write 62 = .ok (.iload_n 3, 1) := by decide +kernel
theorem dX1_write_63 : decode cX1_write 63 = .ok (.bipush 26, 2) := by decide +kernel
theorem dX1_write_65 : decode cX1_write 65 = .ok (.iadd, 1) := by decide +kernel
theorem dX1_write_66 : decode cX1_write 66 = .ok (.iconst 2, 1) := by decide +kernel
theorem dX1_write_67 : decode cX1_write 67 = .ok (.isub, 1) := by decide +kernel
theorem dX1_write_68 : decode cX1_write 68 = .ok (.aload_n 0, 1) := by decide +kernel
theorem dX1_write_69 : decode cX1_write 69 = .ok (.getfield 21, 3) := by decide +kernel
theorem dX1_write_72 : decode cX1_write 72 = .ok (.iastore, 1) := by decide +kernel
theorem dX1_write_73 : decode cX1_write 73 = .ok (.aload_n 1, 1) := by decide +kernel
theorem dX1_write_74 : decode cX1_write 74 = .ok (.iload_n 3, 1) := by decide +kernel
theorem dX1_write_75 : decode cX1_write 75 = .ok (.bipush 26, 2) := by decide +kernel
theorem dX1_write_77 : decode cX1_write 77 = .ok (.iadd, 1) := by decide +kernel
theorem dX1_write_78 : decode cX1_write 78 = .ok (.iconst 1, 1) := by decide +kernel
theorem dX1_write_79 : decode cX1_write 79 = .ok (.isub, 1) := by decide +kernel
theorem dX1_write_80 : decode cX1_write 80 = .ok (.aload_n 0, 1) := by decide +kernel
theorem dX1_write_81 : decode cX1_write 81 = .ok (.getfield 25, 3) := by decide +kernel
theorem dX1_write_84 : decode cX1_write 84 = .ok (.iastore, 1) := by decide +kernel
theorem dX1_write_85 : decode cX1_write 85 = .ok (.return_, 1) := by decide +kernel
theorem dX1_read_0 : decode cX1_read 0 = .ok (.iload_n 2, 1) := by decide +kernel
theorem dX1_read_1 : decode cX1_read 1 = .ok (.bipush 26, 2) := by decide +kernel
theorem dX1_read_3 : decode cX1_read 3 = .ok (.imul, 1) := by decide +kernel
theorem dX1_read_4 : decode cX1_read 4 = .ok (.istore_n 3, 1) := by decide +kernel
theorem dX1_read_5 : decode cX1_read 5 = .ok (.iload_n 3, 1) := by decide +kernel
theorem dX1_read_6 : decode cX1_read 6 = .ok (.ifCond .lt 12, 3) := by decide +kernel
theorem dX1_read_9 : decode cX1_read 9 = .ok (.iload_n 3, 1) := by decide +kernel
theorem dX1_read_10 : decode cX1_read 10 = .ok (.aload_n 1, 1) := by decide +kernel
theorem dX1_read_11 : decode cX1_read 11 = .ok (.arraylength, 1) := by decide +kernel
theorem dX1_read_12 : decode cX1_read 12 = .ok (.bipush 26, 2) := by decide +kernel
theorem dX1_read_14 : decode cX1_read 14 = .ok (.isub, 1) := by decide +kernel
theorem dX1_read_15 : decode cX1_read 15 = .ok (.if_icmp .le 4, 3) := by decide +kernel
theorem dX1_read_18 : decode cX1_read 18 = .ok (.return_, 1) := by decide +kernel
theorem dX1_read_19 : decode cX1_read 19 = .ok (.aload_n 1, 1) := by decide +kernel
theorem dX1_read_20 : decode cX1_read 20 = .ok (.iload_n 3, 1) := by decide +kernel
theorem dX1_read_21 : decode cX1_read 21 = .ok (.aload_n 0, 1) := by decide +kernel
theorem dX1_read_22 : decode cX1_read 22 = .ok (.getfield 9, 3) := by decide +kernel
theorem dX1_read_25 : decode cX1_read 25 = .ok (.iconst 0, 1) := by decide +kernel
theorem dX1_read_26 : decode cX1_read 26 = .ok (.bipush 8, 2) := by decide +kernel
theorem dX1_read_28 : decode cX1_read 28 = .ok (.invokestatic 32, 3) := by decide +kernel
theorem dX1_read_31 : decode cX1_read 31 = .ok (.aload_n 1, 1) := by decide +kernel
theorem dX1_read_32 : decode cX1_read 32 = .ok (.iload_n 3, 1) := by decide +kernel
theorem dX1_read_33 : decode cX1_read 33 = .ok (.bipush 8, 2) := by decide +kernel
theorem dX1_read_35 : decode cX1_read 35 = .ok (.iadd, 1) := by decide +kernel
theorem dX1_read_36 : decode cX1_read 36 = .ok (.aload_n 0, 1) := by decide +kernel
theorem dX1_read_37 : decode cX1_read 37 = .ok (.getfield 15, 3) := by decide +kernel
theorem dX1_read_40 : decode cX1_read 40 = .ok (.iconst 0, 1) := by decide +kernel
theorem dX1_read_41 : decode cX1_read 41 = .ok (.bipush 8, 2) := by decide +kernel
theorem dX1_read_43 : decode cX1_read 43 = .ok (.invokestatic 32, 3) := by decide +kernel
theorem dX1_read_46 : decode cX1_read 46 = .ok (.aload_n 1, 1) := by decide +kernel
theorem dX1_read_47 : decode cX1_read 47 = .ok (.iload_n 3, 1) := by decide +kernel
theorem dX1_read_48 : decode cX1_read 48 = .ok (.bipush 16, 2) := by decide +kernel
theorem dX1_read_50 : decode cX1_read 50 = .ok (.iadd, 1) := by decide +kernel
theorem dX1_read_51 : decode cX1_read 51 = .ok (.aload_n 0, 1) := by decide +kernel
theorem dX1_read_52 : decode cX1_read 52 = .ok (.getfield 18, 3) := by decide +kernel
theorem dX1_read_55 : decode cX1_read 55 = .ok (.iconst 0, 1) := by decide +kernel
theorem dX1_read_56 : decode cX1_read 56 = .ok (.bipush 8, 2) := by decide +kernel
theorem dX1_read_58 : decode cX1_read 58 = .ok (.invokestatic 32, 3) := by decide +kernel
theorem dX1_read_61 : decode cX1_read 61 = .ok (.aload_n 0, 1) := by decide +kernel
theorem dX1_read_62 : decode cX1_read 62 = .ok (.aload_n 1, 1) := by decide +kernel
theorem dX1_read_63 : decode cX1_read 63 = .ok (.iload_n 3, 1) := by decide +kernel
theorem dX1_read_64 : decode cX1_read 64 = .ok (.bipush 26, 2) := by decide +kernel
theorem dX1_read_66 : decode cX1_read 66 = .ok (.iadd, 1) := by decide +kernel
theorem dX1_read_67 : decode cX1_read 67 = .ok (.iconst 2, 1) := by decide +kernel
theorem dX1_read_68 : decode cX1_read 68 = .ok (.isub, 1) := by decide +kernel
theorem dX1_read_69 : decode cX1_read 69 = .ok (.iaload, 1) := by decide +kernel
theorem dX1_read_70 : decode cX1_read 70 = .ok (.putfield 21, 3) := by decide +kernel
theorem dX1_read_73 : decode cX1_read 73 = .ok (.aload_n 0, 1) := by decide +kernel
theorem dX1_read_74 : decode cX1_read 74 = .ok (.aload_n 1, 1) := by decide +kernel
theorem dX1_read_75 : decode cX1_read 75 = .ok (.iload_n 3, 1) := by decide +kernel
theorem dX1_read_76 : decode cX1_read 76 = .ok (.bipush 26, 2) := by decide +kernel
theorem dX1_read_78 : decode cX1_read 78 = .ok (.iadd, 1) := by decide +kernel
theorem dX1_read_79 : decode cX1_read 79 = .ok (.iconst 1, 1) := by decide +kernel
theorem dX1_read_80 : decode cX1_read 80 = .ok (.isub, 1) := by decide +kernel
theorem dX1_read_81 : decode cX1_read 81 = .ok (.iaload, 1) := by decide +kernel
theorem dX1_read_82 : decode cX1_read 82 = .ok (.putfield 25, 3) := by decide +kernel
theorem dX1_read_85 : decode cX1_read 85 = .ok (.return_, 1) := by decide +kernel
theorem dX2_init_0 : decode cX2_init 0 = .ok (.aload_n 0, 1) := by decide +kernel
theorem dX2_init_1 : decode cX2_init 1 = .ok (.invokespecial 3, 3) := by decide +kernel
theorem dX2_init_4 : decode cX2_init 4 = .ok (.aload_n 0, 1) := by decide +kernel
theorem dX2_init_5 : decode cX2_init 5 = .ok (.bipush 36, 2) := by decide +kernel
theorem dX2_init_7 : decode cX2_init 7 = .ok (.newarray .long, 2) := by decide +kernel
theorem dX2_init_9 : decode cX2_init 9 = .ok (.putfield 9, 3) := by decide +kernel
theorem dX2_init_12 : decode cX2_init 12 = .ok (.return_, 1) := by decide +kernel
theorem dX2_clear_0 : decode cX2_clear 0 = .ok (.aload_n 0, 1) := by decide +kernel
theorem dX2_clear_1 : decode cX2_clear 1 = .ok (.iconst 0, 1) := by decide +kernel
theorem dX2_clear_2 : decode cX2_clear 2 = .ok (.putfield 15, 3) := by decide +kernel
theorem dX2_clear_5 : decode cX2_clear 5 = .ok (.return_, 1) := by decide +kernel
theorem dX2_add_0 : decode cX2_add 0 = .ok (.aload_n 0, 1) := by decide +kernel
theorem dX2_add_1 : decode cX2_add 1 = .ok (.getfield 15, 3) := by decide +kernel
theorem dX2_add_4 : decode cX2_add 4 = .ok (.bipush 36, 2) := by decide +kernel
theorem dX2_add_6 : decode cX2_add 6 = .ok (.if_icmp .ge 23, 3) := by decide +kernel
theorem dX2_add_9 : decode cX2_add 9 = .ok (.aload_n 0, 1) := by decide +kernel
theorem dX2_add_10 : decode cX2_add 10 = .ok (.getfield 9, 3) := by decide +kernel
theorem dX2_add_13 : decode cX2_add 13 = .ok (.aload_n 0, 1) := by decide +kernel
theorem dX2_add_14 : decode cX2_add 14 = .ok (.getfield 15, 3) := by decide +kernel
theorem dX2_add_17 : decode cX2_add 17 = .ok (.lload_n 1, 1) := by decide +kernel
theorem dX2_add_18 : decode cX2_add 18 = .ok (.lastore, 1) := by decide +kernel
theorem dX2_add_19 : decode cX2_add 19 = .ok (.aload_n 0, 1) := by decide +kernel
theorem dX2_add_20 : decode cX2_add 20 = .ok (.dup, 1) := by decide +kernel
theorem dX2_add_21 : decode cX2_add 21 = .ok (.getfield 15, 3) := by decide +kernel
theorem dX2_add_24 : decode cX2_add 24 = .ok (.iconst 1, 1) := by decide +kernel
theorem dX2_add_25 : decode cX2_add 25 = .ok (.iadd, 1) := by decide +kernel
theorem dX2_add_26 : decode cX2_add 26 = .ok (.putfield 15, 3) := by decide +kernel
theorem dX2_add_29 : decode cX2_add 29 = .ok (.return_, 1) := by decide +kernel
theorem dX2_join_0 : decode cX2_join 0 = .ok (.iload_n 1, 1) := by decide +kernel
theorem dX2_join_1 : decode cX2_join 1 = .ok (.ifCond .lt 21, 3) := by decide +kernel
theorem dX2_join_4 : decode cX2_join 4 = .ok (.iload_n 1, 1) := by decide +kernel
theorem dX2_join_5 : decode cX2_join 5 = .ok (.aload_n 0, 1) := by decide +kernel
theorem dX2_join_6 : decode cX2_join 6 = .ok (.getfield 15, 3) := by decide +kernel
theorem dX2_join_9 : decode cX2_join 9 = .ok (.if_icmp .ge 13, 3) := by decide +kernel
theorem dX2_join_12 : decode cX2_join 12 = .ok (.aload_n 0, 1) := by decide +kernel
theorem dX2_join_13 : decode cX2_join 13 = .ok (.getfield 9, 3) := by decide +kernel
theorem dX2_join_16 : decode cX2_join 16 = .ok (.iload_n 1, 1) := by decide +kernel
theorem dX2_join_17 : decode cX2_join 17 = .ok (.dup2, 1) := by decide +kernel
theorem dX2_join_18 : decode cX2_join 18 = .ok (.laload, 1) := by decide +kernel
theorem dX2_join_19 : decode cX2_join 19 = .ok (.lload_n 2, 1) := by decide +kernel
theorem dX2_join_20 : decode cX2_join 20 = .ok (.lor, 1) := by decide +kernel
theorem dX2_join_21 : decode cX2_join 21 = .ok (.lastore, 1) := by decide +kernel
theorem dX2_join_22 : decode cX2_join 22 = .ok (.return_, 1) := by decide +kernel
theorem dX2_tellOne_0 : decode cX2_tellOne 0 = .ok (.aload_n 0, 1) := by decide +kernel
theorem dX2_tellOne_1 : decode cX2_tellOne 1 = .ok (.invokevirtual 19, 3) := by decide +kernel
theorem dX2_tellOne_4 : decode cX2_tellOne 4 = .ok (.aload_n 0, 1) := by decide +kernel
theorem dX2_tellOne_5 : decode cX2_tellOne 5 = .ok (.lload_n 1, 1) := by decide +kernel
theorem dX2_tellOne_6 : decode cX2_tellOne 6 = .ok (.invokevirtual 22, 3) := by decide +kernel
theorem dX2_tellOne_9 : decode cX2_tellOne 9 = .ok (.return_, 1) := by decide +kernel
theorem dX2_tellTwo_0 : decode cX2_tellTwo 0 = .ok (.aload_n 0, 1) := by decide +kernel
theorem dX2_tellTwo_1 : decode cX2_tellTwo 1 = .ok (.invokevirtual 19, 3) := by decide +kernel
theorem dX2_tellTwo_4 : decode cX2_tellTwo 4 = .ok (.aload_n 0, 1) := by decide +kernel
theorem dX2_tellTwo_5 : decode cX2_tellTwo 5 = .ok (.lload_n 1, 1) := by decide +kernel
theorem dX2_tellTwo_6 : decode cX2_tellTwo 6 = .ok (.invokevirtual 22, 3) := by decide +kernel
theorem dX2_tellTwo_9 : decode cX2_tellTwo 9 = .ok (.aload_n 0, 1) := by decide +kernel
theorem dX2_tellTwo_10 : decode cX2_tellTwo 10 = .ok (.lload_n 3, 1) := by decide +kernel
theorem dX2_tellTwo_11 : decode cX2_tellTwo 11 = .ok (.invokevirtual 22, 3) := by decide +kernel
theorem dX2_tellTwo_14 : decode cX2_tellTwo 14 = .ok (.return_, 1) := by decide +kernel
theorem dX3_init_0 : decode cX3_init 0 = .ok (.aload_n 0, 1) := by decide +kernel
theorem dX3_init_1 : decode cX3_init 1 = .ok (.invokespecial 3, 3) := by decide +kernel
theorem dX3_init_4 : decode cX3_init 4 = .ok (.aload_n 0, 1) := by decide +kernel
theorem dX3_init_5 : decode cX3_init 5 = .ok (.bipush 8, 2) := by decide +kernel
theorem dX3_init_7 : decode cX3_init 7 = .ok (.newarray .int, 2) := by decide +kernel
theorem dX3_init_9 : decode cX3_init 9 = .ok (.putfield 9, 3) := by decide +kernel
theorem dX3_init_12 : decode cX3_init 12 = .ok (.return_, 1) := by decide +kernel
theorem dX3_clear_0 : decode cX3_clear 0 = .ok (.aload_n 0, 1) := by decide +kernel
theorem dX3_clear_1 : decode cX3_clear 1 = .ok (.iconst 0, 1) := by decide +kernel
theorem dX3_clear_2 : decode cX3_clear 2 = .ok (.putfield 15, 3) := by decide +kernel
theorem dX3_clear_5 : decode cX3_clear 5 = .ok (.return_, 1) := by decide +kernel
theorem dX3_add_0 : decode cX3_add 0 = .ok (.aload_n 0, 1) := by decide +kernel
theorem dX3_add_1 : decode cX3_add 1 = .ok (.getfield 15, 3) := by decide +kernel
theorem dX3_add_4 : decode cX3_add 4 = .ok (.bipush 8, 2) := by decide +kernel
theorem dX3_add_6 : decode cX3_add 6 = .ok (.if_icmp .ge 23, 3) := by decide +kernel
theorem dX3_add_9 : decode cX3_add 9 = .ok (.aload_n 0, 1) := by decide +kernel
theorem dX3_add_10 : decode cX3_add 10 = .ok (.getfield 9, 3) := by decide +kernel
theorem dX3_add_13 : decode cX3_add 13 = .ok (.aload_n 0, 1) := by decide +kernel
theorem dX3_add_14 : decode cX3_add 14 = .ok (.getfield 15, 3) := by decide +kernel
theorem dX3_add_17 : decode cX3_add 17 = .ok (.iload_n 1, 1) := by decide +kernel
theorem dX3_add_18 : decode cX3_add 18 = .ok (.iastore, 1) := by decide +kernel
theorem dX3_add_19 : decode cX3_add 19 = .ok (.aload_n 0, 1) := by decide +kernel
theorem dX3_add_20 : decode cX3_add 20 = .ok (.dup, 1) := by decide +kernel
theorem dX3_add_21 : decode cX3_add 21 = .ok (.getfield 15, 3) := by decide +kernel
theorem dX3_add_24 : decode cX3_add 24 = .ok (.iconst 1, 1) := by decide +kernel
theorem dX3_add_25 : decode cX3_add 25 = .ok (.iadd, 1) := by decide +kernel
theorem dX3_add_26 : decode cX3_add 26 = .ok (.putfield 15, 3) := by decide +kernel
theorem dX3_add_29 : decode cX3_add 29 = .ok (.return_, 1) := by decide +kernel
theorem dX3_union_0 : decode cX3_union 0 = .ok (.iconst 0, 1) := by decide +kernel
theorem dX3_union_1 : decode cX3_union 1 = .ok (.istore_n 2, 1) := by decide +kernel
theorem dX3_union_2 : decode cX3_union 2 = .ok (.iconst 0, 1) := by decide +kernel
theorem dX3_union_3 : decode cX3_union 3 = .ok (.istore_n 3, 1) := by decide +kernel
theorem dX3_union_4 : decode cX3_union 4 = .ok (.iload_n 3, 1) := by decide +kernel
theorem dX3_union_5 : decode cX3_union 5 = .ok (.aload_n 0, 1) := by decide +kernel
theorem dX3_union_6 : decode cX3_union 6 = .ok (.getfield 15, 3) := by decide +kernel
theorem dX3_union_9 : decode cX3_union 9 = .ok (.if_icmp .ge 26, 3) := by decide +kernel
theorem dX3_union_12 : decode cX3_union 12 = .ok (.iload_n 1, 1) := by decide +kernel
theorem dX3_union_13 : decode cX3_union 13 = .ok (.iload_n 3, 1) := by decide +kernel
theorem dX3_union_14 : decode cX3_union 14 = .ok (.invokestatic 19, 3) := by decide +kernel
theorem dX3_union_17 : decode cX3_union 17 = .ok (.ifCond .eq 12, 3) := by decide +kernel
theorem dX3_union_20 : decode cX3_union 20 = .ok (.iload_n 2, 1) := by decide +kernel
theorem dX3_union_21 : decode cX3_union 21 = .ok (.aload_n 0, 1) := by decide +kernel
theorem dX3_union_22 : decode cX3_union 22 = .ok (.getfield 9, 3) := by decide +kernel
theorem dX3_union_25 : decode cX3_union 25 = .ok (.iload_n 3, 1) := by decide +kernel
theorem dX3_union_26 : decode cX3_union 26 = .ok (.iaload, 1) := by decide +kernel
theorem dX3_union_27 : decode cX3_union 27 = .ok (.ior, 1) := by decide +kernel
theorem dX3_union_28 : decode cX3_union 28 = .ok (.istore_n 2, 1) := by decide +kernel
theorem dX3_union_29 : decode cX3_union 29 = .ok (.iinc 3 1, 3) := by decide +kernel
theorem dX3_union_32 : decode cX3_union 32 = .ok (.goto (-28), 3) := by decide +kernel
theorem dX3_union_35 : decode cX3_union 35 = .ok (.iload_n 2, 1) := by decide +kernel
theorem dX3_union_36 : decode cX3_union 36 = .ok (.ireturn, 1) := by decide +kernel
theorem dX3_fewest_0 : decode cX3_fewest 0 = .ok (.iconst (-1), 1) := by decide +kernel
theorem dX3_fewest_1 : decode cX3_fewest 1 = .ok (.istore_n 3, 1) := by decide +kernel
theorem dX3_fewest_2 : decode cX3_fewest 2 = .ok (.bipush 9, 2) := by decide +kernel
theorem dX3_fewest_4 : decode cX3_fewest 4 = .ok (.istore 4, 2) := by decide +kernel
theorem dX3_fewest_6 : decode cX3_fewest 6 = .ok (.iconst 0, 1) := by decide +kernel
theorem dX3_fewest_7 : decode cX3_fewest 7 = .ok (.istore 5, 2) := by decide +kernel
theorem dX3_fewest_9 : decode cX3_fewest 9 = .ok (.iload 5, 2) := by decide +kernel
theorem dX3_fewest_11 : decode cX3_fewest 11 = .ok (.aload_n 0, 1) := by decide +kernel
theorem dX3_fewest_12 : decode cX3_fewest 12 = .ok (.getfield 15, 3) := by decide +kernel
theorem dX3_fewest_15 : decode cX3_fewest 15 = .ok (.invokestatic 23, 3) := by decide +kernel
theorem dX3_fewest_18 : decode cX3_fewest 18 = .ok (.if_icmp .gt 65, 3) := by decide +kernel
theorem dX3_fewest_21 : decode cX3_fewest 21 = .ok (.aload_n 0, 1) := by decide +kernel
theorem dX3_fewest_22 : decode cX3_fewest 22 = .ok (.iload 5, 2) := by decide +kernel
theorem dX3_fewest_24 : decode cX3_fewest 24 = .ok (.invokevirtual 27, 3) := by decide +kernel
theorem dX3_fewest_27 : decode cX3_fewest 27 = .ok (.istore 6, 2) := by decide +kernel
theorem dX3_fewest_29 : decode cX3_fewest 29 = .ok (.iload_n 1, 1) := by decide +kernel
theorem dX3_fewest_30 : decode cX3_fewest 30 = .ok (.iload 6, 2) := by decide +kernel
theorem dX3_fewest_32 : decode cX3_fewest 32 = .ok (.iconst (-1), 1) := by decide +kernel
theorem dX3_fewest_33 : decode cX3_fewest 33 = .ok (.ixor, 1) := by decide +kernel
theorem dX3_fewest_34 : decode cX3_fewest 34 = .ok (.iand, 1) := by decide +kernel
theorem dX3_fewest_35 : decode cX3_fewest 35 = .ok (.ifCond .ne 14, 3) := by decide +kernel
theorem dX3_fewest_38 : decode cX3_fewest 38 = .ok (.iload_n 2, 1) := by decide +kernel
theorem dX3_fewest_39 : decode cX3_fewest 39 = .ok (.iload 6, 2) := by decide +kernel
theorem dX3_fewest_41 : decode cX3_fewest 41 = .ok (.iand, 1) := by decide +kernel
theorem dX3_fewest_42 : decode cX3_fewest 42 = .ok (.ifCond .ne 7, 3) := by decide +kernel
theorem dX3_fewest_45 : decode cX3_fewest 45 = .ok (.iconst 1, 1) := by decide +kernel
theorem dX3_fewest_46 : decode cX3_fewest 46 = .ok (.goto 4, 3) := by decide +kernel
theorem dX3_fewest_49 : decode cX3_fewest 49 = .ok (.iconst 0, 1) := by decide +kernel
theorem dX3_fewest_50 : decode cX3_fewest 50 = .ok (.istore 7, 2) := by decide +kernel
theorem dX3_fewest_52 : decode cX3_fewest 52 = .ok (.iload 7, 2) := by decide +kernel
theorem dX3_fewest_54 : decode cX3_fewest 54 = .ok (.ifCond .eq 23, 3) := by decide +kernel
theorem dX3_fewest_57 : decode cX3_fewest 57 = .ok (.iload 5, 2) := by decide +kernel
theorem dX3_fewest_59 : decode cX3_fewest 59 = .ok (.invokestatic 30, 3) := by decide +kernel
theorem dX3_fewest_62 : decode cX3_fewest 62 = .ok (.iload 4, 2) := by decide +kernel
theorem dX3_fewest_64 : decode cX3_fewest 64 = .ok (.if_icmp .ge 13, 3) := by decide +kernel
theorem dX3_fewest_67 : decode cX3_fewest 67 = .ok (.iload 5, 2) := by decide +kernel
theorem dX3_fewest_69 : decode cX3_fewest 69 = .ok (.istore_n 3, 1) := by decide +kernel
theorem dX3_fewest_70 : decode cX3_fewest 70 = .ok (.iload 5, 2) := by decide +kernel
theorem dX3_fewest_72 : decode cX3_fewest 72 = .ok (.invokestatic 30, 3) := by decide +kernel
theorem dX3_fewest_75 : decode cX3_fewest 75 = .ok (.istore 4, 2) := by decide +kernel
theorem dX3_fewest_77 : decode cX3_fewest 77 = .ok (.iinc 5 1, 3) := by decide +kernel
theorem dX3_fewest_80 : decode cX3_fewest 80 = .ok (.goto (-71), 3) := by decide +kernel
theorem dX3_fewest_83 : decode cX3_fewest 83 = .ok (.iload_n 3, 1) := by decide +kernel
theorem dX3_fewest_84 : decode cX3_fewest 84 = .ok (.ireturn, 1) := by decide +kernel
theorem dX4_init_0 : decode cX4_init 0 = .ok (.aload_n 0, 1) := by decide +kernel
theorem dX4_init_1 : decode cX4_init 1 = .ok (.invokespecial 3, 3) := by decide +kernel
theorem dX4_init_4 : decode cX4_init 4 = .ok (.aload_n 0, 1) := by decide +kernel
theorem dX4_init_5 : decode cX4_init 5 = .ok (.sipush 390, 3) := by decide +kernel
theorem dX4_init_8 : decode cX4_init 8 = .ok (.newarray .int, 2) := by decide +kernel
theorem dX4_init_10 : decode cX4_init 10 = .ok (.putfield 11, 3) := by decide +kernel
theorem dX4_init_13 : decode cX4_init 13 = .ok (.aload_n 0, 1) := by decide +kernel
theorem dX4_init_14 : decode cX4_init 14 = .ok (.bipush 78, 2) := by decide +kernel
theorem dX4_init_16 : decode cX4_init 16 = .ok (.newarray .int, 2) := by decide +kernel
theorem dX4_init_18 : decode cX4_init 18 = .ok (.putfield 17, 3) := by decide +kernel
theorem dX4_init_21 : decode cX4_init 21 = .ok (.return_, 1) := by decide +kernel
theorem dX4_forgetAll_0 : decode cX4_forgetAll 0 = .ok (.aload_n 0, 1) := by decide +kernel
theorem dX4_forgetAll_1 : decode cX4_forgetAll 1 = .ok (.iconst 0, 1) := by decide +kernel
theorem dX4_forgetAll_2 : decode cX4_forgetAll 2 = .ok (.putfield 20, 3) := by decide +kernel
theorem dX4_forgetAll_5 : decode cX4_forgetAll 5 = .ok (.aload_n 0, 1) := by decide +kernel
theorem dX4_forgetAll_6 : decode cX4_forgetAll 6 = .ok (.iconst 0, 1) := by decide +kernel
theorem dX4_forgetAll_7 : decode cX4_forgetAll 7 = .ok (.putfield 24, 3) := by decide +kernel
theorem dX4_forgetAll_10 : decode cX4_forgetAll 10 = .ok (.return_, 1) := by decide +kernel
theorem dX4_push_0 : decode cX4_push 0 = .ok (.aload_n 0, 1) := by decide +kernel
theorem dX4_push_1 : decode cX4_push 1 = .ok (.getfield 20, 3) := by decide +kernel
theorem dX4_push_4 : decode cX4_push 4 = .ok (.bipush 15, 2) := by decide +kernel
theorem dX4_push_6 : decode cX4_push 6 = .ok (.if_icmp .lt 30, 3) := by decide +kernel
theorem dX4_push_9 : decode cX4_push 9 = .ok (.aload_n 0, 1) := by decide +kernel
theorem dX4_push_10 : decode cX4_push 10 = .ok (.bipush 14, 2) := by decide +kernel
theorem dX4_push_12 : decode cX4_push 12 = .ok (.putfield 20, 3) := by decide +kernel
theorem dX4_push_15 : decode cX4_push 15 = .ok (.aload_n 0, 1) := by decide +kernel
theorem dX4_push_16 : decode cX4_push 16 = .ok (.getfield 11, 3) := by decide +kernel
theorem dX4_push_19 : decode cX4_push 19 = .ok (.bipush 26, 2) := by decide +kernel
theorem dX4_push_21 : decode cX4_push 21 = .ok (.aload_n 0, 1) := by decide +kernel
theorem dX4_push_22 : decode cX4_push 22 = .ok (.getfield 11, 3) := by decide +kernel
theorem dX4_push_25 : decode cX4_push 25 = .ok (.iconst 0, 1) := by decide +kernel
theorem dX4_push_26 : decode cX4_push 26 = .ok (.aload_n 0, 1) := by decide +kernel
theorem dX4_push_27 : decode cX4_push 27 = .ok (.getfield 20, 3) := by decide +kernel
theorem dX4_push_30 : decode cX4_push 30 = .ok (.bipush 26, 2) := by decide +kernel
theorem dX4_push_32 : decode cX4_push 32 = .ok (.imul, 1) := by decide +kernel
theorem dX4_push_33 : decode cX4_push 33 = .ok (.invokestatic 27, 3) := by decide +kernel
theorem dX4_push_36 : decode cX4_push 36 = .ok (.aload_n 1, 1) := by decide +kernel
theorem dX4_push_37 : decode cX4_push 37 = .ok (.aload_n 0, 1) := by decide +kernel
theorem dX4_push_38 : decode cX4_push 38 = .ok (.getfield 11, 3) := by decide +kernel
theorem dX4_push_41 : decode cX4_push 41 = .ok (.aload_n 0, 1) := by decide +kernel
theorem dX4_push_42 : decode cX4_push 42 = .ok (.getfield 20, 3) := by decide +kernel
theorem dX4_push_45 : decode cX4_push 45 = .ok (.invokevirtual 33, 3) := by decide +kernel
theorem dX4_push_48 : decode cX4_push 48 = .ok (.aload_n 0, 1) := by decide +kernel
theorem dX4_push_49 : decode cX4_push 49 = .ok (.dup, 1) := by decide +kernel
theorem dX4_push_50 : decode cX4_push 50 = .ok (.getfield 20, 3) := by decide +kernel
theorem dX4_push_53 : decode cX4_push 53 = .ok (.iconst 1, 1) := by decide +kernel
theorem dX4_push_54 : decode cX4_push 54 = .ok (.iadd, 1) := by decide +kernel
theorem dX4_push_55 : decode cX4_push 55 = .ok (.putfield 20, 3) := by decide +kernel
theorem dX4_push_58 : decode cX4_push 58 = .ok (.return_, 1) := by decide +kernel
theorem dX4_pop_0 : decode cX4_pop 0 = .ok (.aload_n 0, 1) := by decide +kernel
theorem dX4_pop_1 : decode cX4_pop 1 = .ok (.getfield 20, 3) := by decide +kernel
theorem dX4_pop_4 : decode cX4_pop 4 = .ok (.ifCond .ne 5, 3) := by decide +kernel
theorem dX4_pop_7 : decode cX4_pop 7 = .ok (.iconst (-1), 1) := by decide +kernel
theorem dX4_pop_8 : decode cX4_pop 8 = .ok (.ireturn, 1) := by decide +kernel
theorem dX4_pop_9 : decode cX4_pop 9 = .ok (.aload_n 0, 1) := by decide +kernel
theorem dX4_pop_10 : decode cX4_pop 10 = .ok (.dup, 1) := by decide +kernel
theorem dX4_pop_11 : decode cX4_pop 11 = .ok (.getfield 20, 3) := by decide +kernel
theorem dX4_pop_14 : decode cX4_pop 14 = .ok (.iconst 1, 1) := by decide +kernel
theorem dX4_pop_15 : decode cX4_pop 15 = .ok (.isub, 1) := by decide +kernel
theorem dX4_pop_16 : decode cX4_pop 16 = .ok (.putfield 20, 3) := by decide +kernel
theorem dX4_pop_19 : decode cX4_pop 19 = .ok (.aload_n 1, 1) := by decide +kernel
theorem dX4_pop_20 : decode cX4_pop 20 = .ok (.aload_n 0, 1) := by decide +kernel
theorem dX4_pop_21 : decode cX4_pop 21 = .ok (.getfield 11, 3) := by decide +kernel
theorem dX4_pop_24 : decode cX4_pop 24 = .ok (.aload_n 0, 1) := by decide +kernel
theorem dX4_pop_25 : decode cX4_pop 25 = .ok (.getfield 20, 3) := by decide +kernel
theorem dX4_pop_28 : decode cX4_pop 28 = .ok (.invokevirtual 37, 3) := by decide +kernel
theorem dX4_pop_31 : decode cX4_pop 31 = .ok (.aload_n 0, 1) := by decide +kernel
theorem dX4_pop_32 : decode cX4_pop 32 = .ok (.getfield 20, 3) := by decide +kernel
theorem dX4_pop_35 : decode cX4_pop 35 = .ok (.ireturn, 1) := by decide +kernel
theorem dX4_save_0 : decode cX4_save 0 = .ok (.iload_n 1, 1) := by decide +kernel
theorem dX4_save_1 : decode cX4_save 1 = .ok (.ifCond .lt 8, 3) := by decide +kernel
theorem dX4_save_4 : decode cX4_save 4 = .ok (.iload_n 1, 1) := by decide +kernel
theorem dX4_save_5 : decode cX4_save 5 = .ok (.iconst 3, 1) := by decide +kernel
theorem dX4_save_6 : decode cX4_save 6 = .ok (.if_icmp .lt 5, 3) := by decide +kernel
theorem dX4_save_9 : decode cX4_save 9 = .ok (.iconst 0, 1) := by decide +kernel
theorem dX4_save_10 : decode cX4_save 10 = .ok (.ireturn, 1) := by decide +kernel
theorem dX4_save_11 : decode cX4_save 11 = .ok (.aload_n 2, 1) := by decide +kernel
theorem dX4_save_12 : decode cX4_save 12 = .ok (.aload_n 0, 1) := by decide +kernel
theorem dX4_save_13 : decode cX4_save 13 = .ok (.getfield 17, 3) := by decide +kernel
theorem dX4_save_16 : decode cX4_save 16 = .ok (.iload_n 1, 1) := by decide +kernel
theorem dX4_save_17 : decode cX4_save 17 = .ok (.invokevirtual 33, 3) := by decide +kernel
theorem dX4_save_20 : decode cX4_save 20 = .ok (.aload_n 0, 1) := by decide +kernel
theorem dX4_save_21 : decode cX4_save 21 = .ok (.dup, 1) := by decide +kernel
theorem dX4_save_22 : decode cX4_save 22 = .ok (.getfield 24, 3) := by decide +kernel
theorem dX4_save_25 : decode cX4_save 25 = .ok (.iconst 1, 1) := by decide +kernel
theorem dX4_save_26 : decode cX4_save 26 = .ok (.iload_n 1, 1) := by decide +kernel
theorem dX4_save_27 : decode cX4_save 27 = .ok (.ishl, 1) := by decide +kernel
theorem dX4_save_28 : decode cX4_save 28 = .ok (.ior, 1) := by decide +kernel
theorem dX4_save_29 : decode cX4_save 29 = .ok (.putfield 24, 3) := by decide +kernel
theorem dX4_save_32 : decode cX4_save 32 = .ok (.iconst 1, 1) := by decide +kernel
theorem dX4_save_33 : decode cX4_save 33 = .ok (.ireturn, 1) := by decide +kernel
theorem dX4_restore_0 : decode cX4_restore 0 = .ok (.iload_n 1, 1) := by decide +kernel
theorem dX4_restore_1 : decode cX4_restore 1 = .ok (.ifCond .lt 19, 3) := by decide +kernel
theorem dX4_restore_4 : decode cX4_restore 4 = .ok (.iload_n 1, 1) := by decide +kernel
theorem dX4_restore_5 : decode cX4_restore 5 = .ok (.iconst 3, 1) := by decide +kernel
theorem dX4_restore_6 : decode cX4_restore 6 = .ok (.if_icmp .ge 14, 3) := by decide +kernel
theorem dX4_restore_9 : decode cX4_restore 9 = .ok (.aload_n 0, 1) := by decide +kernel
theorem dX4_restore_10 : decode cX4_restore 10 = .ok (.getfield 24, 3) := by decide +kernel
theorem dX4_restore_13 : decode cX4_restore 13 = .ok (.iload_n 1, 1) := by decide +kernel
theorem dX4_restore_14 : decode cX4_restore 14 = .ok (.invokestatic 40, 3) := by decide +kernel
theorem dX4_restore_17 : decode cX4_restore 17 = .ok (.ifCond .ne 5, 3) := by decide +kernel
theorem dX4_restore_20 : decode cX4_restore 20 = .ok (.iconst 0, 1) := by decide +kernel
theorem dX4_restore_21 : decode cX4_restore 21 = .ok (.ireturn, 1) := by decide +kernel
theorem dX4_restore_22 : decode cX4_restore 22 = .ok (.aload_n 2, 1) := by decide +kernel
theorem dX4_restore_23 : decode cX4_restore 23 = .ok (.aload_n 0, 1) := by decide +kernel
theorem dX4_restore_24 : decode cX4_restore 24 = .ok (.getfield 17, 3) := by decide +kernel
theorem dX4_restore_27 : decode cX4_restore 27 = .ok (.iload_n 1, 1) := by decide +kernel
theorem dX4_restore_28 : decode cX4_restore 28 = .ok (.invokevirtual 37, 3) := by decide +kernel
theorem dX4_restore_31 : decode cX4_restore 31 = .ok (.aload_n 0, 1) := by decide +kernel
theorem dX4_restore_32 : decode cX4_restore 32 = .ok (.iconst 0, 1) := by decide +kernel
theorem dX4_restore_33 : decode cX4_restore 33 = .ok (.putfield 20, 3) := by decide +kernel
theorem dX4_restore_36 : decode cX4_restore 36 = .ok (.iconst 1, 1) := by decide +kernel
theorem dX4_restore_37 : decode cX4_restore 37 = .ok (.ireturn, 1) := by decide +kernel
theorem dX5_init_0 : decode cX5_init 0 = .ok (.aload_n 0, 1) := by decide +kernel
theorem dX5_init_1 : decode cX5_init 1 = .ok (.invokespecial 3, 3) := by decide +kernel
theorem dX5_init_4 : decode cX5_init 4 = .ok (.aload_n 0, 1) := by decide +kernel
theorem dX5_init_5 : decode cX5_init 5 = .ok (.aload_n 1, 1) := by decide +kernel
theorem dX5_init_6 : decode cX5_init 6 = .ok (.putfield 9, 3) := by decide +kernel
theorem dX5_init_9 : decode cX5_init 9 = .ok (.return_, 1) := by decide +kernel
theorem dX5_open_0 : decode cX5_open 0 = .ok (.aload_n 0, 1) := by decide +kernel
theorem dX5_open_1 : decode cX5_open 1 = .ok (.iload_n 1, 1) := by decide +kernel
theorem dX5_open_2 : decode cX5_open 2 = .ok (.putfield 15, 3) := by decide +kernel
theorem dX5_open_5 : decode cX5_open 5 = .ok (.aload_n 0, 1) := by decide +kernel
theorem dX5_open_6 : decode cX5_open 6 = .ok (.iconst 0, 1) := by decide +kernel
theorem dX5_open_7 : decode cX5_open 7 = .ok (.putfield 19, 3) := by decide +kernel
theorem dX5_open_10 : decode cX5_open 10 = .ok (.aload_n 0, 1) := by decide +kernel
theorem dX5_open_11 : decode cX5_open 11 = .ok (.iconst (-1), 1) := by decide +kernel
theorem dX5_open_12 : decode cX5_open 12 = .ok (.putfield 22, 3) := by decide +kernel
theorem dX5_open_15 : decode cX5_open 15 = .ok (.return_, 1) := by decide +kernel
theorem dX5_peek_0 : decode cX5_peek 0 = .ok (.aload_n 0, 1) := by decide +kernel
theorem dX5_peek_1 : decode cX5_peek 1 = .ok (.getfield 22, 3) := by decide +kernel
theorem dX5_peek_4 : decode cX5_peek 4 = .ok (.iconst (-1), 1) := by decide +kernel
theorem dX5_peek_5 : decode cX5_peek 5 = .ok (.if_icmp .ne 28, 3) := by decide +kernel
theorem dX5_peek_8 : decode cX5_peek 8 = .ok (.aload_n 0, 1) := by decide +kernel
theorem dX5_peek_9 : decode cX5_peek 9 = .ok (.getfield 19, 3) := by decide +kernel
theorem dX5_peek_12 : decode cX5_peek 12 = .ok (.aload_n 0, 1) := by decide +kernel
theorem dX5_peek_13 : decode cX5_peek 13 = .ok (.getfield 15, 3) := by decide +kernel
theorem dX5_peek_16 : decode cX5_peek 16 = .ok (.if_icmp .ge 17, 3) := by decide +kernel
theorem dX5_peek_19 : decode cX5_peek 19 = .ok (.aload_n 0, 1) := by decide +kernel
theorem dX5_peek_20 : decode cX5_peek 20 = .ok (.getfield 19, 3) := by decide +kernel
theorem dX5_peek_23 : decode cX5_peek 23 = .ok (.aload_n 0, 1) := by decide +kernel
theorem dX5_peek_24 : decode cX5_peek 24 = .ok (.getfield 9, 3) := by decide +kernel
theorem dX5_peek_27 : decode cX5_peek 27 = .ok (.getfield 25, 3) := by decide +kernel
theorem dX5_peek_30 : decode cX5_peek 30 = .ok (.if_icmp .lt 7, 3) := by decide +kernel
theorem dX5_peek_33 : decode cX5_peek 33 = .ok (.iconst 1, 1) := by decide +kernel
theorem dX5_peek_34 : decode cX5_peek 34 = .ok (.goto 4, 3) := by decide +kernel
theorem dX5_peek_37 : decode cX5_peek 37 = .ok (.iconst 0, 1) := by decide +kernel
theorem dX5_peek_38 : decode cX5_peek 38 = .ok (.istore_n 1, 1) := by decide +kernel
theorem dX5_peek_39 : decode cX5_peek 39 = .ok (.iload_n 1, 1) := by decide +kernel
theorem dX5_peek_40 : decode cX5_peek 40 = .ok (.ifCond .eq 7, 3) := by decide +kernel
theorem dX5_peek_43 : decode cX5_peek 43 = .ok (.iconst (-1), 1) := by decide +kernel
theorem dX5_peek_44 : decode cX5_peek 44 = .ok (.goto 15, 3) := by decide +kernel
theorem dX5_peek_47 : decode cX5_peek 47 = .ok (.aload_n 0, 1) := by decide +kernel
theorem dX5_peek_48 : decode cX5_peek 48 = .ok (.getfield 9, 3) := by decide +kernel
theorem dX5_peek_51 : decode cX5_peek 51 = .ok (.getfield 30, 3) := by decide +kernel
theorem dX5_peek_54 : decode cX5_peek 54 = .ok (.aload_n 0, 1) := by decide +kernel
theorem dX5_peek_55 : decode cX5_peek 55 = .ok (.getfield 19, 3) := by decide +kernel
theorem dX5_peek_58 : decode cX5_peek 58 = .ok (.iaload, 1) := by decide +kernel
theorem dX5_peek_59 : decode cX5_peek 59 = .ok (.ireturn, 1) := by decide +kernel
theorem dX5_demand_0 : decode cX5_demand 0 = .ok (.iload_n 1, 1) := by decide +kernel
theorem dX5_demand_1 : decode cX5_demand 1 = .ok (.ifCond .ne 19, 3) := by decide +kernel
theorem dX5_demand_4 : decode cX5_demand 4 = .ok (.aload_n 0, 1) := by decide +kernel
theorem dX5_demand_5 : decode cX5_demand 5 = .ok (.getfield 22, 3) := by decide +kernel
theorem dX5_demand_8 : decode cX5_demand 8 = .ok (.iconst (-1), 1) := by decide +kernel
theorem dX5_demand_9 : decode cX5_demand 9 = .ok (.if_icmp .ne 11, 3) := by decide +kernel
theorem dX5_demand_12 : decode cX5_demand 12 = .ok (.aload_n 0, 1) := by decide +kernel
theorem dX5_demand_13 : decode cX5_demand 13 = .ok (.aload_n 0, 1) := by decide +kernel
theorem dX5_demand_14 : decode cX5_demand 14 = .ok (.getfield 19, 3) := by decide +kernel
theorem dX5_demand_17 : decode cX5_demand 17 = .ok (.putfield 22, 3) := by decide +kernel
theorem dX5_demand_20 : decode cX5_demand 20 = .ok (.aload_n 0, 1) := by decide +kernel
theorem dX5_demand_21 : decode cX5_demand 21 = .ok (.getfield 22, 3) := by decide +kernel
theorem dX5_demand_24 : decode cX5_demand 24 = .ok (.iconst (-1), 1) := by decide +kernel
theorem dX5_demand_25 : decode cX5_demand 25 = .ok (.if_icmp .ne 7, 3) := by decide +kernel
theorem dX5_demand_28 : decode cX5_demand 28 = .ok (.iconst 1, 1) := by decide +kernel
theorem dX5_demand_29 : decode cX5_demand 29 = .ok (.goto 4, 3) := by decide +kernel
theorem dX5_demand_32 : decode cX5_demand 32 = .ok (.iconst 0, 1) := by decide +kernel
theorem dX5_demand_33 : decode cX5_demand 33 = .ok (.ireturn, 1) := by decide +kernel
theorem dX5_passes_0 : decode cX5_passes 0 = .ok (.aload_n 0, 1) := by decide +kernel
theorem dX5_passes_1 : decode cX5_passes 1 = .ok (.invokevirtual 34, 3) := by decide +kernel
theorem dX5_passes_4 : decode cX5_passes 4 = .ok (.iload_n 1, 1) := by decide +kernel
theorem dX5_passes_5 : decode cX5_passes 5 = .ok (.if_icmp .eq 5, 3) := by decide +kernel
theorem dX5_passes_8 : decode cX5_passes 8 = .ok (.iconst 0, 1) := by decide +kernel
theorem dX5_passes_9 : decode cX5_passes 9 = .ok (.ireturn, 1) := by decide +kernel
theorem dX5_passes_10 : decode cX5_passes 10 = .ok (.aload_n 0, 1) := by decide +kernel
theorem dX5_passes_11 : decode cX5_passes 11 = .ok (.dup, 1) := by decide +kernel
theorem dX5_passes_12 : decode cX5_passes 12 = .ok (.getfield 19, 3) := by decide +kernel
theorem dX5_passes_15 : decode cX5_passes 15 = .ok (.iconst 1, 1) := by decide +kernel
theorem dX5_passes_16 : decode cX5_passes 16 = .ok (.iadd, 1) := by decide +kernel
theorem dX5_passes_17 : decode cX5_passes 17 = .ok (.putfield 19, 3) := by decide +kernel
theorem dX5_passes_20 : decode cX5_passes 20 = .ok (.iconst 1, 1) := by decide +kernel
theorem dX5_passes_21 : decode cX5_passes 21 = .ok (.ireturn, 1) := by decide +kernel
theorem dX5_signFrom_0 : decode cX5_signFrom 0 = .ok (.aload_n 0, 1) := by decide +kernel
theorem dX5_signFrom_1 : decode cX5_signFrom 1 = .ok (.invokevirtual 34, 3) := by decide +kernel
theorem dX5_signFrom_4 : decode cX5_signFrom 4 = .ok (.iload_n 1, 1) := by decide +kernel
theorem dX5_signFrom_5 : decode cX5_signFrom 5 = .ok (.isub, 1) := by decide +kernel
theorem dX5_signFrom_6 : decode cX5_signFrom 6 = .ok (.istore_n 3, 1) := by decide +kernel
theorem dX5_signFrom_7 : decode cX5_signFrom 7 = .ok (.aload_n 0, 1) := by decide +kernel
theorem dX5_signFrom_8 : decode cX5_signFrom 8 = .ok (.iload_n 3, 1) := by decide +kernel
theorem dX5_signFrom_9 : decode cX5_signFrom 9 = .ok (.ifCond .lt 12, 3) := by decide +kernel
theorem dX5_signFrom_12 : decode cX5_signFrom 12 = .ok (.iload_n 3, 1) := by decide +kernel
theorem dX5_signFrom_13 : decode cX5_signFrom 13 = .ok (.iload_n 2, 1) := by decide +kernel
theorem dX5_signFrom_14 : decode cX5_signFrom 14 = .ok (.if_icmp .ge 7, 3) := by decide +kernel
theorem dX5_signFrom_17 : decode cX5_signFrom 17 = .ok (.iconst 1, 1) := by decide +kernel
theorem dX5_signFrom_18 : decode cX5_signFrom 18 = .ok (.goto 4, 3) := by decide +kernel
theorem dX5_signFrom_21 : decode cX5_signFrom 21 = .ok (.iconst 0, 1) := by decide +kernel
theorem dX5_signFrom_22 : decode cX5_signFrom 22 = .ok (.invokevirtual 38, 3) := by decide +kernel
theorem dX5_signFrom_25 : decode cX5_signFrom 25 = .ok (.ifCond .ne 5, 3) := by decide +kernel
theorem dX5_signFrom_28 : decode cX5_signFrom 28 = .ok (.iconst 0, 1) := by decide +kernel
theorem dX5_signFrom_29 : decode cX5_signFrom 29 = .ok (.ireturn, 1) := by decide +kernel
theorem dX5_signFrom_30 : decode cX5_signFrom 30 = .ok (.aload_n 0, 1) := by decide +kernel
theorem dX5_signFrom_31 : decode cX5_signFrom 31 = .ok (.dup, 1) := by decide +kernel
theorem dX5_signFrom_32 : decode cX5_signFrom 32 = .ok (.getfield 19, 3) := by decide +kernel
theorem dX5_signFrom_35 : decode cX5_signFrom 35 = .ok (.iconst 1, 1) := by decide +kernel
theorem dX5_signFrom_36 : decode cX5_signFrom 36 = .ok (.iadd, 1) := by decide +kernel
theorem dX5_signFrom_37 : decode cX5_signFrom 37 = .ok (.putfield 19, 3) := by decide +kernel
theorem dX5_signFrom_40 : decode cX5_signFrom 40 = .ok (.iload_n 3, 1) := by decide +kernel
theorem dX5_signFrom_41 : decode cX5_signFrom 41 = .ok (.ireturn, 1) := by decide +kernel
theorem dX5_digit_0 : decode cX5_digit 0 = .ok (.aload_n 0, 1) := by decide +kernel
theorem dX5_digit_1 : decode cX5_digit 1 = .ok (.bipush 48, 2) := by decide +kernel
theorem dX5_digit_3 : decode cX5_digit 3 = .ok (.iload_n 1, 1) := by decide +kernel
theorem dX5_digit_4 : decode cX5_digit 4 = .ok (.invokevirtual 42, 3) := by decide +kernel
theorem dX5_digit_7 : decode cX5_digit 7 = .ok (.ireturn, 1) := by decide +kernel
theorem dX5_atDigit_0 : decode cX5_atDigit 0 = .ok (.aload_n 0, 1) := by decide +kernel
theorem dX5_atDigit_1 : decode cX5_atDigit 1 = .ok (.invokevirtual 34, 3) := by decide +kernel
theorem dX5_atDigit_4 : decode cX5_atDigit 4 = .ok (.bipush 48, 2) := by decide +kernel
theorem dX5_atDigit_6 : decode cX5_atDigit 6 = .ok (.if_icmp .lt 16, 3) := by decide +kernel
theorem dX5_atDigit_9 : decode cX5_atDigit 9 = .ok (.aload_n 0, 1) := by decide +kernel
theorem dX5_atDigit_10 : decode cX5_atDigit 10 = .ok (.invokevirtual 34, 3) := by decide +kernel
theorem dX5_atDigit_13 : decode cX5_atDigit 13 = .ok (.bipush 57, 2) := by decide +kernel
theorem dX5_atDigit_15 : decode cX5_atDigit 15 = .ok (.if_icmp .gt 7, 3) := by decide +kernel
theorem dX5_atDigit_18 : decode cX5_atDigit 18 = .ok (.iconst 1, 1) := by decide +kernel
theorem dX5_atDigit_19 : decode cX5_atDigit 19 = .ok (.goto 4, 3) := by decide +kernel
theorem dX5_atDigit_22 : decode cX5_atDigit 22 = .ok (.iconst 0, 1) := by decide +kernel
theorem dX5_atDigit_23 : decode cX5_atDigit 23 = .ok (.ireturn, 1) := by decide +kernel
theorem dX5_heading_0 : decode cX5_heading 0 = .ok (.aload_n 0, 1) := by decide +kernel
theorem dX5_heading_1 : decode cX5_heading 1 = .ok (.invokevirtual 34, 3) := by decide +kernel
theorem dX5_heading_4 : decode cX5_heading 4 = .ok (.invokestatic 46, 3) := by decide +kernel
theorem dX5_heading_7 : decode cX5_heading 7 = .ok (.istore_n 1, 1) := by decide +kernel
theorem dX5_heading_8 : decode cX5_heading 8 = .ok (.aload_n 0, 1) := by decide +kernel
theorem dX5_heading_9 : decode cX5_heading 9 = .ok (.iload_n 1, 1) := by decide +kernel
theorem dX5_heading_10 : decode cX5_heading 10 = .ok (.iconst (-1), 1) := by decide +kernel
theorem dX5_heading_11 : decode cX5_heading 11 = .ok (.if_icmp .eq 7, 3) := by decide +kernel
theorem dX5_heading_14 : decode cX5_heading 14 = .ok (.iconst 1, 1) := by decide +kernel
theorem dX5_heading_15 : decode cX5_heading 15 = .ok (.goto 4, 3) := by decide +kernel
theorem dX5_heading_18 : decode cX5_heading 18 = .ok (.iconst 0, 1) := by decide +kernel
theorem dX5_heading_19 : decode cX5_heading 19 = .ok (.invokevirtual 38, 3) := by decide +kernel
theorem dX5_heading_22 : decode cX5_heading 22 = .ok (.ifCond .ne 5, 3) := by decide +kernel
theorem dX5_heading_25 : decode cX5_heading 25 = .ok (.iconst 4, 1) := by decide +kernel
theorem dX5_heading_26 : decode cX5_heading 26 = .ok (.ireturn, 1) := by decide +kernel
theorem dX5_heading_27 : decode cX5_heading 27 = .ok (.aload_n 0, 1) := by decide +kernel
theorem dX5_heading_28 : decode cX5_heading 28 = .ok (.dup, 1) := by decide +kernel
theorem dX5_heading_29 : decode cX5_heading 29 = .ok (.getfield 19, 3) := by decide +kernel
theorem dX5_heading_32 : decode cX5_heading 32 = .ok (.iconst 1, 1) := by decide +kernel
theorem dX5_heading_33 : decode cX5_heading 33 = .ok (.iadd, 1) := by decide +kernel
theorem dX5_heading_34 : decode cX5_heading 34 = .ok (.putfield 19, 3) := by decide +kernel
theorem dX5_heading_37 : decode cX5_heading 37 = .ok (.iload_n 1, 1) := by decide +kernel
theorem dX5_heading_38 : decode cX5_heading 38 = .ok (.ireturn, 1) := by decide +kernel
theorem dX5_headingOf_0 : decode cX5_headingOf 0 = .ok (.iload_n 0, 1) := by decide +kernel
theorem dX5_headingOf_1 : decode cX5_headingOf 1 = .ok (.lookupswitch 61 #[(100, 55), (108, 57), (114, 53), (115, 59), (117, 51)], 51) := by decide +kernel
theorem dX5_headingOf_52 : decode cX5_headingOf 52 = .ok (.iconst 0, 1) := by decide +kernel
theorem dX5_headingOf_53 : decode cX5_headingOf 53 = .ok (.ireturn, 1) := by decide +kernel
theorem dX5_headingOf_54 : decode cX5_headingOf 54 = .ok (.iconst 1, 1) := by decide +kernel
theorem dX5_headingOf_55 : decode cX5_headingOf 55 = .ok (.ireturn, 1) := by decide +kernel
theorem dX5_headingOf_56 : decode cX5_headingOf 56 = .ok (.iconst 2, 1) := by decide +kernel
theorem dX5_headingOf_57 : decode cX5_headingOf 57 = .ok (.ireturn, 1) := by decide +kernel
theorem dX5_headingOf_58 : decode cX5_headingOf 58 = .ok (.iconst 3, 1) := by decide +kernel
theorem dX5_headingOf_59 : decode cX5_headingOf 59 = .ok (.ireturn, 1) := by decide +kernel
theorem dX5_headingOf_60 : decode cX5_headingOf 60 = .ok (.iconst 4, 1) := by decide +kernel
theorem dX5_headingOf_61 : decode cX5_headingOf 61 = .ok (.ireturn, 1) := by decide +kernel
theorem dX5_headingOf_62 : decode cX5_headingOf 62 = .ok (.iconst (-1), 1) := by decide +kernel
theorem dX5_headingOf_63 : decode cX5_headingOf 63 = .ok (.ireturn, 1) := by decide +kernel
theorem dX5_kinds_0 : decode cX5_kinds 0 = .ok (.iconst 0, 1) := by decide +kernel
theorem dX5_kinds_1 : decode cX5_kinds 1 = .ok (.istore_n 1, 1) := by decide +kernel
theorem dX5_kinds_2 : decode cX5_kinds 2 = .ok (.iconst 0, 1) := by decide +kernel
theorem dX5_kinds_3 : decode cX5_kinds 3 = .ok (.istore_n 2, 1) := by decide +kernel
theorem dX5_kinds_4 : decode cX5_kinds 4 = .ok (.iload_n 2, 1) := by decide +kernel
theorem dX5_kinds_5 : decode cX5_kinds 5 = .ok (.bipush 8, 2) := by decide +kernel
theorem dX5_kinds_7 : decode cX5_kinds 7 = .ok (.if_icmp .ge 26, 3) := by decide +kernel
theorem dX5_kinds_10 : decode cX5_kinds 10 = .ok (.aload_n 0, 1) := by decide +kernel
theorem dX5_kinds_11 : decode cX5_kinds 11 = .ok (.bipush 97, 2) := by decide +kernel
theorem dX5_kinds_13 : decode cX5_kinds 13 = .ok (.iload_n 2, 1) := by decide +kernel
theorem dX5_kinds_14 : decode cX5_kinds 14 = .ok (.iadd, 1) := by decide +kernel
theorem dX5_kinds_15 : decode cX5_kinds 15 = .ok (.invokevirtual 50, 3) := by decide +kernel
theorem dX5_kinds_18 : decode cX5_kinds 18 = .ok (.ifCond .eq 9, 3) := by decide +kernel
theorem dX5_kinds_21 : decode cX5_kinds 21 = .ok (.iload_n 1, 1) := by decide +kernel
theorem dX5_kinds_22 : decode cX5_kinds 22 = .ok (.iconst 1, 1) := by decide +kernel
theorem dX5_kinds_23 : decode cX5_kinds 23 = .ok (.iload_n 2, 1) := by decide +kernel
theorem dX5_kinds_24 : decode cX5_kinds 24 = .ok (.ishl, 1) := by decide +kernel
theorem dX5_kinds_25 : decode cX5_kinds 25 = .ok (.ior, 1) := by decide +kernel
theorem dX5_kinds_26 : decode cX5_kinds 26 = .ok (.istore_n 1, 1) := by decide +kernel
theorem dX5_kinds_27 : decode cX5_kinds 27 = .ok (.iinc 2 1, 3) := by decide +kernel
theorem dX5_kinds_30 : decode cX5_kinds 30 = .ok (.goto (-26), 3) := by decide +kernel
theorem dX5_kinds_33 : decode cX5_kinds 33 = .ok (.iload_n 1, 1) := by decide +kernel
theorem dX5_kinds_34 : decode cX5_kinds 34 = .ok (.ireturn, 1) := by decide +kernel
theorem dX5_another_0 : decode cX5_another 0 = .ok (.aload_n 0, 1) := by decide +kernel
theorem dX5_another_1 : decode cX5_another 1 = .ok (.invokevirtual 34, 3) := by decide +kernel
theorem dX5_another_4 : decode cX5_another 4 = .ok (.iconst (-1), 1) := by decide +kernel
theorem dX5_another_5 : decode cX5_another 5 = .ok (.if_icmp .eq 20, 3) := by decide +kernel
theorem dX5_another_8 : decode cX5_another 8 = .ok (.aload_n 0, 1) := by decide +kernel
theorem dX5_another_9 : decode cX5_another 9 = .ok (.aload_n 0, 1) := by decide +kernel
theorem dX5_another_10 : decode cX5_another 10 = .ok (.bipush 59, 2) := by decide +kernel
theorem dX5_another_12 : decode cX5_another 12 = .ok (.invokevirtual 50, 3) := by decide +kernel
theorem dX5_another_15 : decode cX5_another 15 = .ok (.invokevirtual 38, 3) := by decide +kernel
theorem dX5_another_18 : decode cX5_another 18 = .ok (.ifCond .eq 7, 3) := by decide +kernel
theorem dX5_another_21 : decode cX5_another 21 = .ok (.iconst 1, 1) := by decide +kernel
theorem dX5_another_22 : decode cX5_another 22 = .ok (.goto 4, 3) := by decide +kernel
theorem dX5_another_25 : decode cX5_another 25 = .ok (.iconst 0, 1) := by decide +kernel
theorem dX5_another_26 : decode cX5_another 26 = .ok (.ireturn, 1) := by decide +kernel
theorem dX5_passAct_0 : decode cX5_passAct 0 = .ok (.aload_n 0, 1) := by decide +kernel
theorem dX5_passAct_1 : decode cX5_passAct 1 = .ok (.invokevirtual 34, 3) := by decide +kernel
theorem dX5_passAct_4 : decode cX5_passAct 4 = .ok (.istore_n 1, 1) := by decide +kernel
theorem dX5_passAct_5 : decode cX5_passAct 5 = .ok (.iload_n 1, 1) := by decide +kernel
theorem dX5_passAct_6 : decode cX5_passAct 6 = .ok (.bipush 104, 2) := by decide +kernel
theorem dX5_passAct_8 : decode cX5_passAct 8 = .ok (.if_icmp .eq 15, 3) := by decide +kernel
theorem dX5_passAct_11 : decode cX5_passAct 11 = .ok (.iload_n 1, 1) := by decide +kernel
theorem dX5_passAct_12 : decode cX5_passAct 12 = .ok (.bipush 111, 2) := by decide +kernel
theorem dX5_passAct_14 : decode cX5_passAct 14 = .ok (.if_icmp .eq 9, 3) := by decide +kernel
theorem dX5_passAct_17 : decode cX5_passAct 17 = .ok (.iload_n 1, 1) := by decide +kernel
theorem dX5_passAct_18 : decode cX5_passAct 18 = .ok (.bipush 98, 2) := by decide +kernel
theorem dX5_passAct_20 : decode cX5_passAct 20 = .ok (.if_icmp .ne 7, 3) := by decide +kernel
theorem dX5_passAct_23 : decode cX5_passAct 23 = .ok (.iconst 1, 1) := by decide +kernel
theorem dX5_passAct_24 : decode cX5_passAct 24 = .ok (.goto 4, 3) := by decide +kernel
theorem dX5_passAct_27 : decode cX5_passAct 27 = .ok (.iconst 0, 1) := by decide +kernel
theorem dX5_passAct_28 : decode cX5_passAct 28 = .ok (.istore_n 2, 1) := by decide +kernel
theorem dX5_passAct_29 : decode cX5_passAct 29 = .ok (.iload_n 2, 1) := by decide +kernel
theorem dX5_passAct_30 : decode cX5_passAct 30 = .ok (.ifCond .eq 7, 3) := by decide +kernel
theorem dX5_passAct_33 : decode cX5_passAct 33 = .ok (.iconst 1, 1) := by decide +kernel
theorem dX5_passAct_34 : decode cX5_passAct 34 = .ok (.goto 24, 3) := by decide +kernel
theorem dX5_passAct_37 : decode cX5_passAct 37 = .ok (.iload_n 1, 1) := by decide +kernel
theorem dX5_passAct_38 : decode cX5_passAct 38 = .ok (.bipush 112, 2) := by decide +kernel
theorem dX5_passAct_40 : decode cX5_passAct 40 = .ok (.if_icmp .ne 7, 3) := by decide +kernel
theorem dX5_passAct_43 : decode cX5_passAct 43 = .ok (.iconst 2, 1) := by decide +kernel
theorem dX5_passAct_44 : decode cX5_passAct 44 = .ok (.goto 14, 3) := by decide +kernel
theorem dX5_passAct_47 : decode cX5_passAct 47 = .ok (.iload_n 1, 1) := by decide +kernel
theorem dX5_passAct_48 : decode cX5_passAct 48 = .ok (.bipush 99, 2) := by decide +kernel
theorem dX5_passAct_50 : decode cX5_passAct 50 = .ok (.if_icmp .ne 7, 3) := by decide +kernel
theorem dX5_passAct_53 : decode cX5_passAct 53 = .ok (.iconst 3, 1) := by decide +kernel
theorem dX5_passAct_54 : decode cX5_passAct 54 = .ok (.goto 4, 3) := by decide +kernel
theorem dX5_passAct_57 : decode cX5_passAct 57 = .ok (.iconst 0, 1) := by decide +kernel
theorem dX5_passAct_58 : decode cX5_passAct 58 = .ok (.istore_n 3, 1) := by decide +kernel
theorem dX5_passAct_59 : decode cX5_passAct 59 = .ok (.aload_n 0, 1) := by decide +kernel
theorem dX5_passAct_60 : decode cX5_passAct 60 = .ok (.iload_n 3, 1) := by decide +kernel
theorem dX5_passAct_61 : decode cX5_passAct 61 = .ok (.ifCond .le 7, 3) := by decide +kernel
theorem dX5_passAct_64 : decode cX5_passAct 64 = .ok (.iconst 1, 1) := by decide +kernel
theorem dX5_passAct_65 : decode cX5_passAct 65 = .ok (.goto 4, 3) := by decide +kernel
theorem dX5_passAct_68 : decode cX5_passAct 68 = .ok (.iconst 0, 1) := by decide +kernel
theorem dX5_passAct_69 : decode cX5_passAct 69 = .ok (.invokevirtual 38, 3) := by decide +kernel
theorem dX5_passAct_72 : decode cX5_passAct 72 = .ok (.ifCond .ne 4, 3) := by decide +kernel
theorem dX5_passAct_75 : decode cX5_passAct 75 = .ok (.return_, 1) := by decide +kernel
theorem dX5_passAct_76 : decode cX5_passAct 76 = .ok (.aload_n 0, 1) := by decide +kernel
theorem dX5_passAct_77 : decode cX5_passAct 77 = .ok (.dup, 1) := by decide +kernel
theorem dX5_passAct_78 : decode cX5_passAct 78 = .ok (.getfield 19, 3) := by decide +kernel
theorem dX5_passAct_81 : decode cX5_passAct 81 = .ok (.iconst 1, 1) := by decide +kernel
theorem dX5_passAct_82 : decode cX5_passAct 82 = .ok (.iadd, 1) := by decide +kernel
theorem dX5_passAct_83 : decode cX5_passAct 83 = .ok (.putfield 19, 3) := by decide +kernel
theorem dX5_passAct_86 : decode cX5_passAct 86 = .ok (.iconst 0, 1) := by decide +kernel
theorem dX5_passAct_87 : decode cX5_passAct 87 = .ok (.istore 4, 2) := by decide +kernel
theorem dX5_passAct_89 : decode cX5_passAct 89 = .ok (.iload 4, 2) := by decide +kernel
theorem dX5_passAct_91 : decode cX5_passAct 91 = .ok (.iload_n 3, 1) := by decide +kernel
theorem dX5_passAct_92 : decode cX5_passAct 92 = .ok (.if_icmp .ge 16, 3) := by decide +kernel
theorem dX5_passAct_95 : decode cX5_passAct 95 = .ok (.aload_n 0, 1) := by decide +kernel
theorem dX5_passAct_96 : decode cX5_passAct 96 = .ok (.bipush 10, 2) := by decide +kernel
theorem dX5_passAct_98 : decode cX5_passAct 98 = .ok (.invokevirtual 54, 3) := by decide +kernel
theorem dX5_passAct_101 : decode cX5_passAct 101 = .ok (.pop, 1) := by decide +kernel
theorem dX5_passAct_102 : decode cX5_passAct 102 = .ok (.iinc 4 1, 3) := by decide +kernel
theorem dX5_passAct_105 : decode cX5_passAct 105 = .ok (.goto (-16), 3) := by decide +kernel
theorem dX5_passAct_108 : decode cX5_passAct 108 = .ok (.iload_n 1, 1) := by decide +kernel
theorem dX5_passAct_109 : decode cX5_passAct 109 = .ok (.bipush 99, 2) := by decide +kernel
theorem dX5_passAct_111 : decode cX5_passAct 111 = .ok (.if_icmp .ne 8, 3) := by decide +kernel
theorem dX5_passAct_114 : decode cX5_passAct 114 = .ok (.aload_n 0, 1) := by decide +kernel
theorem dX5_passAct_115 : decode cX5_passAct 115 = .ok (.invokevirtual 57, 3) := by decide +kernel
theorem dX5_passAct_118 : decode cX5_passAct 118 = .ok (.pop, 1) := by decide +kernel
theorem dX5_passAct_119 : decode cX5_passAct 119 = .ok (.return_, 1) := by decide +kernel
theorem dX5_firstFault_0 : decode cX5_firstFault 0 = .ok (.aload_n 0, 1) := by decide +kernel
theorem dX5_firstFault_1 : decode cX5_firstFault 1 = .ok (.aload_n 0, 1) := by decide +kernel
theorem dX5_firstFault_2 : decode cX5_firstFault 2 = .ok (.getfield 19, 3) := by decide +kernel
theorem dX5_firstFault_5 : decode cX5_firstFault 5 = .ok (.aload_n 0, 1) := by decide +kernel
theorem dX5_firstFault_6 : decode cX5_firstFault 6 = .ok (.getfield 9, 3) := by decide +kernel
theorem dX5_firstFault_9 : decode cX5_firstFault 9 = .ok (.getfield 25, 3) := by decide +kernel
theorem dX5_firstFault_12 : decode cX5_firstFault 12 = .ok (.if_icmp .lt 7, 3) := by decide +kernel
theorem dX5_firstFault_15 : decode cX5_firstFault 15 = .ok (.iconst 1, 1) := by decide +kernel
theorem dX5_firstFault_16 : decode cX5_firstFault 16 = .ok (.goto 4, 3) := by decide +kernel
theorem dX5_firstFault_19 : decode cX5_firstFault 19 = .ok (.iconst 0, 1) := by decide +kernel
theorem dX5_firstFault_20 : decode cX5_firstFault 20 = .ok (.invokevirtual 38, 3) := by decide +kernel
theorem dX5_firstFault_23 : decode cX5_firstFault 23 = .ok (.pop, 1) := by decide +kernel
theorem dX5_firstFault_24 : decode cX5_firstFault 24 = .ok (.aload_n 0, 1) := by decide +kernel
theorem dX5_firstFault_25 : decode cX5_firstFault 25 = .ok (.getfield 22, 3) := by decide +kernel
theorem dX5_firstFault_28 : decode cX5_firstFault 28 = .ok (.ireturn, 1) := by decide +kernel
theorem dX5_answer_0 : decode cX5_answer 0 = .ok (.aload_n 0, 1) := by decide +kernel
theorem dX5_answer_1 : decode cX5_answer 1 = .ok (.invokevirtual 60, 3) := by decide +kernel
theorem dX5_answer_4 : decode cX5_answer 4 = .ok (.istore_n 2, 1) := by decide +kernel
theorem dX5_answer_5 : decode cX5_answer 5 = .ok (.iload_n 2, 1) := by decide +kernel
theorem dX5_answer_6 : decode cX5_answer 6 = .ok (.iconst (-1), 1) := by decide +kernel
theorem dX5_answer_7 : decode cX5_answer 7 = .ok (.if_icmp .ne 7, 3) := by decide +kernel
theorem dX5_answer_10 : decode cX5_answer 10 = .ok (.iload_n 1, 1) := by decide +kernel
theorem dX5_answer_11 : decode cX5_answer 11 = .ok (.goto 6, 3) := by decide +kernel
theorem dX5_answer_14 : decode cX5_answer 14 = .ok (.iconst (-1), 1) := by decide +kernel
theorem dX5_answer_15 : decode cX5_answer 15 = .ok (.iload_n 2, 1) := by decide +kernel
theorem dX5_answer_16 : decode cX5_answer 16 = .ok (.isub, 1) := by decide +kernel
theorem dX5_answer_17 : decode cX5_answer 17 = .ok (.ireturn, 1) := by decide +kernel
theorem dX6_init_0 : decode cX6_init 0 = .ok (.aload_n 0, 1) := by decide +kernel
theorem dX6_init_1 : decode cX6_init 1 = .ok (.invokespecial 3, 3) := by decide +kernel
theorem dX6_init_4 : decode cX6_init 4 = .ok (.aload_n 0, 1) := by decide +kernel
theorem dX6_init_5 : decode cX6_init 5 = .ok (.bipush 40, 2) := by decide +kernel
theorem dX6_init_7 : decode cX6_init 7 = .ok (.newarray .int, 2) := by decide +kernel
theorem dX6_init_9 : decode cX6_init 9 = .ok (.putfield 9, 3) := by decide +kernel
theorem dX6_init_12 : decode cX6_init 12 = .ok (.aload_n 0, 1) := by decide +kernel
theorem dX6_init_13 : decode cX6_init 13 = .ok (.bipush 40, 2) := by decide +kernel
theorem dX6_init_15 : decode cX6_init 15 = .ok (.newarray .int, 2) := by decide +kernel
theorem dX6_init_17 : decode cX6_init 17 = .ok (.putfield 15, 3) := by decide +kernel
theorem dX6_init_20 : decode cX6_init 20 = .ok (.return_, 1) := by decide +kernel
theorem dX6_clear_0 : decode cX6_clear 0 = .ok (.aload_n 0, 1) := by decide +kernel
theorem dX6_clear_1 : decode cX6_clear 1 = .ok (.iconst 0, 1) := by decide +kernel
theorem dX6_clear_2 : decode cX6_clear 2 = .ok (.putfield 18, 3) := by decide +kernel
theorem dX6_clear_5 : decode cX6_clear 5 = .ok (.return_, 1) := by decide +kernel
theorem dX6_read_0 : decode cX6_read 0 = .ok (.aload_n 0, 1) := by decide +kernel
theorem dX6_read_1 : decode cX6_read 1 = .ok (.aload_n 1, 1) := by decide +kernel
theorem dX6_read_2 : decode cX6_read 2 = .ok (.iconst 0, 1) := by decide +kernel
theorem dX6_read_3 : decode cX6_read 3 = .ok (.invokevirtual 22, 3) := by decide +kernel
theorem dX6_read_6 : decode cX6_read 6 = .ok (.return_, 1) := by decide +kernel
theorem dX6_emit_0 : decode cX6_emit 0 = .ok (.aload_n 0, 1) := by decide +kernel
theorem dX6_emit_1 : decode cX6_emit 1 = .ok (.getfield 18, 3) := by decide +kernel
theorem dX6_emit_4 : decode cX6_emit 4 = .ok (.bipush 40, 2) := by decide +kernel
theorem dX6_emit_6 : decode cX6_emit 6 = .ok (.if_icmp .ge 23, 3) := by decide +kernel
theorem dX6_emit_9 : decode cX6_emit 9 = .ok (.aload_n 0, 1) := by decide +kernel
theorem dX6_emit_10 : decode cX6_emit 10 = .ok (.getfield 9, 3) := by decide +kernel
theorem dX6_emit_13 : decode cX6_emit 13 = .ok (.aload_n 0, 1) := by decide +kernel
theorem dX6_emit_14 : decode cX6_emit 14 = .ok (.getfield 18, 3) := by decide +kernel
theorem dX6_emit_17 : decode cX6_emit 17 = .ok (.iload_n 1, 1) := by decide +kernel
theorem dX6_emit_18 : decode cX6_emit 18 = .ok (.iastore, 1) := by decide +kernel
theorem dX6_emit_19 : decode cX6_emit 19 = .ok (.aload_n 0, 1) := by decide +kernel
theorem dX6_emit_20 : decode cX6_emit 20 = .ok (.dup, 1) := by decide +kernel
theorem dX6_emit_21 : decode cX6_emit 21 = .ok (.getfield 18, 3) := by decide +kernel
theorem dX6_emit_24 : decode cX6_emit 24 = .ok (.iconst 1, 1) := by decide +kernel
theorem dX6_emit_25 : decode cX6_emit 25 = .ok (.iadd, 1) := by decide +kernel
theorem dX6_emit_26 : decode cX6_emit 26 = .ok (.putfield 18, 3) := by decide +kernel
theorem dX6_emit_29 : decode cX6_emit 29 = .ok (.return_, 1) := by decide +kernel
theorem dX6_readComparison_0 : decode cX6_readComparison 0 = .ok (.aload_n 0, 1) := by decide +kernel
theorem dX6_readComparison_1 : decode cX6_readComparison 1 = .ok (.aload_n 1, 1) := by decide +kernel
theorem dX6_readComparison_2 : decode cX6_readComparison 2 = .ok (.iload_n 2, 1) := by decide +kernel
theorem dX6_readComparison_3 : decode cX6_readComparison 3 = .ok (.invokevirtual 26, 3) := by decide +kernel
theorem dX6_readComparison_6 : decode cX6_readComparison 6 = .ok (.aload_n 1, 1) := by decide +kernel
theorem dX6_readComparison_7 : decode cX6_readComparison 7 = .ok (.invokevirtual 29, 3) := by decide +kernel
theorem dX6_readComparison_10 : decode cX6_readComparison 10 = .ok (.istore_n 3, 1) := by decide +kernel
theorem dX6_readComparison_11 : decode cX6_readComparison 11 = .ok (.iload_n 3, 1) := by decide +kernel
theorem dX6_readComparison_12 : decode cX6_readComparison 12 = .ok (.bipush 60, 2) := by decide +kernel
theorem dX6_readComparison_14 : decode cX6_readComparison 14 = .ok (.if_icmp .eq 15, 3) := by decide +kernel
theorem dX6_readComparison_17 : decode cX6_readComparison 17 = .ok (.iload_n 3, 1) := by decide +kernel
theorem dX6_readComparison_18 : decode cX6_readComparison 18 = .ok (.bipush 62, 2) := by decide +kernel
theorem dX6_readComparison_20 : decode cX6_readComparison 20 = .ok (.if_icmp .eq 9, 3) := by decide +kernel
theorem dX6_readComparison_23 : decode cX6_readComparison 23 = .ok (.iload_n 3, 1) := by decide +kernel
theorem dX6_readComparison_24 : decode cX6_readComparison 24 = .ok (.bipush 61, 2) := by decide +kernel
theorem dX6_readComparison_26 : decode cX6_readComparison 26 = .ok (.if_icmp .ne 20, 3) := by decide +kernel
theorem dX6_readComparison_29 : decode cX6_readComparison 29 = .ok (.aload_n 1, 1) := by decide +kernel
theorem dX6_readComparison_30 : decode cX6_readComparison 30 = .ok (.iload_n 3, 1) := by decide +kernel
theorem dX6_readComparison_31 : decode cX6_readComparison 31 = .ok (.invokevirtual 35, 3) := by decide +kernel
theorem dX6_readComparison_34 : decode cX6_readComparison 34 = .ok (.pop, 1) := by decide +kernel
theorem dX6_readComparison_35 : decode cX6_readComparison 35 = .ok (.aload_n 0, 1) := by decide +kernel
theorem dX6_readComparison_36 : decode cX6_readComparison 36 = .ok (.aload_n 1, 1) := by decide +kernel
theorem dX6_readComparison_37 : decode cX6_readComparison 37 = .ok (.iload_n 2, 1) := by decide +kernel
theorem dX6_readComparison_38 : decode cX6_readComparison 38 = .ok (.invokevirtual 26, 3) := by decide +kernel
theorem dX6_readComparison_41 : decode cX6_readComparison 41 = .ok (.aload_n 0, 1) := by decide +kernel
theorem dX6_readComparison_42 : decode cX6_readComparison 42 = .ok (.iload_n 3, 1) := by decide +kernel
theorem dX6_readComparison_43 : decode cX6_readComparison 43 = .ok (.invokevirtual 39, 3) := by decide +kernel
theorem dX6_readComparison_46 : decode cX6_readComparison 46 = .ok (.return_, 1) := by decide +kernel
theorem dX6_readSum_0 : decode cX6_readSum 0 = .ok (.aload_n 0, 1) := by decide +kernel
theorem dX6_readSum_1 : decode cX6_readSum 1 = .ok (.aload_n 1, 1) := by decide +kernel
theorem dX6_readSum_2 : decode cX6_readSum 2 = .ok (.iload_n 2, 1) := by decide +kernel
theorem dX6_readSum_3 : decode cX6_readSum 3 = .ok (.invokevirtual 43, 3) := by decide +kernel
theorem dX6_readSum_6 : decode cX6_readSum 6 = .ok (.iconst 0, 1) := by decide +kernel
theorem dX6_readSum_7 : decode cX6_readSum 7 = .ok (.istore_n 3, 1) := by decide +kernel
theorem dX6_readSum_8 : decode cX6_readSum 8 = .ok (.iload_n 3, 1) := by decide +kernel
theorem dX6_readSum_9 : decode cX6_readSum 9 = .ok (.bipush 40, 2) := by decide +kernel
theorem dX6_readSum_11 : decode cX6_readSum 11 = .ok (.if_icmp .ge 49, 3) := by decide +kernel
theorem dX6_readSum_14 : decode cX6_readSum 14 = .ok (.aload_n 1, 1) := by decide +kernel
theorem dX6_readSum_15 : decode cX6_readSum 15 = .ok (.invokevirtual 29, 3) := by decide +kernel
theorem dX6_readSum_18 : decode cX6_readSum 18 = .ok (.istore 4, 2) := by decide +kernel
theorem dX6_readSum_20 : decode cX6_readSum 20 = .ok (.iload 4, 2) := by decide +kernel
theorem dX6_readSum_22 : decode cX6_readSum 22 = .ok (.bipush 43, 2) := by decide +kernel
theorem dX6_readSum_24 : decode cX6_readSum 24 = .ok (.if_icmp .eq 11, 3) := by decide +kernel
theorem dX6_readSum_27 : decode cX6_readSum 27 = .ok (.iload 4, 2) := by decide +kernel
theorem dX6_readSum_29 : decode cX6_readSum 29 = .ok (.bipush 45, 2) := by decide +kernel
theorem dX6_readSum_31 : decode cX6_readSum 31 = .ok (.if_icmp .eq 4, 3) := by decide +kernel
theorem dX6_readSum_34 : decode cX6_readSum 34 = .ok (.return_, 1) := by decide +kernel
theorem dX6_readSum_35 : decode cX6_readSum 35 = .ok (.aload_n 1, 1) := by decide +kernel
theorem dX6_readSum_36 : decode cX6_readSum 36 = .ok (.iload 4, 2) := by decide +kernel
theorem dX6_readSum_38 : decode cX6_readSum 38 = .ok (.invokevirtual 35, 3) := by decide +kernel
theorem dX6_readSum_41 : decode cX6_readSum 41 = .ok (.pop, 1) := by decide +kernel
theorem dX6_readSum_42 : decode cX6_readSum 42 = .ok (.aload_n 0, 1) := by decide +kernel
theorem dX6_readSum_43 : decode cX6_readSum 43 = .ok (.aload_n 1, 1) := by decide +kernel
theorem dX6_readSum_44 : decode cX6_readSum 44 = .ok (.iload_n 2, 1) := by decide +kernel
theorem dX6_readSum_45 : decode cX6_readSum 45 = .ok (.invokevirtual 43, 3) := by decide +kernel
theorem dX6_readSum_48 : decode cX6_readSum 48 = .ok (.aload_n 0, 1) := by decide +kernel
theorem dX6_readSum_49 : decode cX6_readSum 49 = .ok (.iload 4, 2) := by decide +kernel
theorem dX6_readSum_51 : decode cX6_readSum 51 = .ok (.invokevirtual 39, 3) := by decide +kernel
theorem dX6_readSum_54 : decode cX6_readSum 54 = .ok (.iinc 3 1, 3) := by decide +kernel
theorem dX6_readSum_57 : decode cX6_readSum 57 = .ok (.goto (-49), 3) := by decide +kernel
theorem dX6_readSum_60 : decode cX6_readSum 60 = .ok (.return_, 1) := by decide +kernel
theorem dX6_readProduct_0 : decode cX6_readProduct 0 = .ok (.aload_n 0, 1) := by decide +kernel
theorem dX6_readProduct_1 : decode cX6_readProduct 1 = .ok (.aload_n 1, 1) := by decide +kernel
theorem dX6_readProduct_2 : decode cX6_readProduct 2 = .ok (.iload_n 2, 1) := by decide +kernel
theorem dX6_readProduct_3 : decode cX6_readProduct 3 = .ok (.invokevirtual 46, 3) := by decide +kernel
theorem dX6_readProduct_6 : decode cX6_readProduct 6 = .ok (.iconst 0, 1) := by decide +kernel
theorem dX6_readProduct_7 : decode cX6_readProduct 7 = .ok (.istore_n 3, 1) := by decide +kernel
theorem dX6_readProduct_8 : decode cX6_readProduct 8 = .ok (.iload_n 3, 1) := by decide +kernel
theorem dX6_readProduct_9 : decode cX6_readProduct 9 = .ok (.bipush 40, 2) := by decide +kernel
theorem dX6_readProduct_11 : decode cX6_readProduct 11 = .ok (.if_icmp .ge 49, 3) := by decide +kernel
theorem dX6_readProduct_14 : decode cX6_readProduct 14 = .ok (.aload_n 1, 1) := by decide +kernel
theorem dX6_readProduct_15 : decode cX6_readProduct 15 = .ok (.invokevirtual 29, 3) := by decide +kernel
theorem dX6_readProduct_18 : decode cX6_readProduct 18 = .ok (.istore 4, 2) := by decide +kernel
theorem dX6_readProduct_20 : decode cX6_readProduct 20 = .ok (.iload 4, 2) := by decide +kernel
theorem dX6_readProduct_22 : decode cX6_readProduct 22 = .ok (.bipush 42, 2) := by decide +kernel
theorem dX6_readProduct_24 : decode cX6_readProduct 24 = .ok (.if_icmp .eq 11, 3) := by decide +kernel
theorem dX6_readProduct_27 : decode cX6_readProduct 27 = .ok (.iload 4, 2) := by decide +kernel
theorem dX6_readProduct_29 : decode cX6_readProduct 29 = .ok (.bipush 47, 2) := by decide +kernel
theorem dX6_readProduct_31 : decode cX6_readProduct 31 = .ok (.if_icmp .eq 4, 3) := by decide +kernel
theorem dX6_readProduct_34 : decode cX6_readProduct 34 = .ok (.return_, 1) := by decide +kernel
theorem dX6_readProduct_35 : decode cX6_readProduct 35 = .ok (.aload_n 1, 1) := by decide +kernel
theorem dX6_readProduct_36 : decode cX6_readProduct 36 = .ok (.iload 4, 2) := by decide +kernel
theorem dX6_readProduct_38 : decode cX6_readProduct 38 = .ok (.invokevirtual 35, 3) := by decide +kernel
theorem dX6_readProduct_41 : decode cX6_readProduct 41 = .ok (.pop, 1) := by decide +kernel
theorem dX6_readProduct_42 : decode cX6_readProduct 42 = .ok (.aload_n 0, 1) := by decide +kernel
theorem dX6_readProduct_43 : decode cX6_readProduct 43 = .ok (.aload_n 1, 1) := by decide +kernel
theorem dX6_readProduct_44 : decode cX6_readProduct 44 = .ok (.iload_n 2, 1) := by decide +kernel
theorem dX6_readProduct_45 : decode cX6_readProduct 45 = .ok (.invokevirtual 46, 3) := by decide +kernel
theorem dX6_readProduct_48 : decode cX6_readProduct 48 = .ok (.aload_n 0, 1) := by decide +kernel
theorem dX6_readProduct_49 : decode cX6_readProduct 49 = .ok (.iload 4, 2) := by decide +kernel
theorem dX6_readProduct_51 : decode cX6_readProduct 51 = .ok (.invokevirtual 39, 3) := by decide +kernel
theorem dX6_readProduct_54 : decode cX6_readProduct 54 = .ok (.iinc 3 1, 3) := by decide +kernel
theorem dX6_readProduct_57 : decode cX6_readProduct 57 = .ok (.goto (-49), 3) := by decide +kernel
theorem dX6_readProduct_60 : decode cX6_readProduct 60 = .ok (.return_, 1) := by decide +kernel
theorem dX6_readNegated_0 : decode cX6_readNegated 0 = .ok (.iconst 0, 1) := by decide +kernel
theorem dX6_readNegated_1 : decode cX6_readNegated 1 = .ok (.istore_n 3, 1) := by decide +kernel
theorem dX6_readNegated_2 : decode cX6_readNegated 2 = .ok (.iconst 0, 1) := by decide +kernel
theorem dX6_readNegated_3 : decode cX6_readNegated 3 = .ok (.istore 4, 2) := by decide +kernel
theorem dX6_readNegated_5 : decode cX6_readNegated 5 = .ok (.iload 4, 2) := by decide +kernel
theorem dX6_readNegated_7 : decode cX6_readNegated 7 = .ok (.bipush 40, 2) := by decide +kernel
theorem dX6_readNegated_9 : decode cX6_readNegated 9 = .ok (.if_icmp .ge 28, 3) := by decide +kernel
theorem dX6_readNegated_12 : decode cX6_readNegated 12 = .ok (.aload_n 1, 1) := by decide +kernel
theorem dX6_readNegated_13 : decode cX6_readNegated 13 = .ok (.bipush 45, 2) := by decide +kernel
theorem dX6_readNegated_15 : decode cX6_readNegated 15 = .ok (.invokevirtual 35, 3) := by decide +kernel
theorem dX6_readNegated_18 : decode cX6_readNegated 18 = .ok (.ifCond .eq 19, 3) := by decide +kernel
theorem dX6_readNegated_21 : decode cX6_readNegated 21 = .ok (.iload_n 3, 1) := by decide +kernel
theorem dX6_readNegated_22 : decode cX6_readNegated 22 = .ok (.ifCond .ne 7, 3) := by decide +kernel
theorem dX6_readNegated_25 : decode cX6_readNegated 25 = .ok (.iconst 1, 1) := by decide +kernel
theorem dX6_readNegated_26 : decode cX6_readNegated 26 = .ok (.goto 4, 3) := by decide +kernel
theorem dX6_readNegated_29 : decode cX6_readNegated 29 = .ok (.iconst 0, 1) := by decide +kernel
theorem dX6_readNegated_30 : decode cX6_readNegated 30 = .ok (.istore_n 3, 1) := by decide +kernel
theorem dX6_readNegated_31 : decode cX6_readNegated 31 = .ok (.iinc 4 1, 3) := by decide +kernel
theorem dX6_readNegated_34 : decode cX6_readNegated 34 = .ok (.goto (-29), 3) := by decide +kernel
theorem dX6_readNegated_37 : decode cX6_readNegated 37 = .ok (.aload_n 0, 1) := by decide +kernel
theorem dX6_readNegated_38 : decode cX6_readNegated 38 = .ok (.aload_n 1, 1) := by decide +kernel
theorem dX6_readNegated_39 : decode cX6_readNegated 39 = .ok (.iload_n 2, 1) := by decide +kernel
theorem dX6_readNegated_40 : decode cX6_readNegated 40 = .ok (.invokevirtual 49, 3) := by decide +kernel
theorem dX6_readNegated_43 : decode cX6_readNegated 43 = .ok (.iload_n 3, 1) := by decide +kernel
theorem dX6_readNegated_44 : decode cX6_readNegated 44 = .ok (.ifCond .eq 9, 3) := by decide +kernel
theorem dX6_readNegated_47 : decode cX6_readNegated 47 = .ok (.aload_n 0, 1) := by decide +kernel
theorem dX6_readNegated_48 : decode cX6_readNegated 48 = .ok (.bipush 126, 2) := by decide +kernel
theorem dX6_readNegated_50 : decode cX6_readNegated 50 = .ok (.invokevirtual 39, 3) := by decide +kernel
theorem dX6_readNegated_53 : decode cX6_readNegated 53 = .ok (.return_, 1) := by decide +kernel
theorem dX6_readOperand_0 : decode cX6_readOperand 0 = .ok (.aload_n 1, 1) := by decide +kernel
theorem dX6_readOperand_1 : decode cX6_readOperand 1 = .ok (.invokevirtual 29, 3) := by decide +kernel
theorem dX6_readOperand_4 : decode cX6_readOperand 4 = .ok (.istore_n 3, 1) := by decide +kernel
theorem dX6_readOperand_5 : decode cX6_readOperand 5 = .ok (.iload_n 3, 1) := by decide +kernel
theorem dX6_readOperand_6 : decode cX6_readOperand 6 = .ok (.bipush 40, 2) := by decide +kernel
theorem dX6_readOperand_8 : decode cX6_readOperand 8 = .ok (.if_icmp .ne 49, 3) := by decide +kernel
theorem dX6_readOperand_11 : decode cX6_readOperand 11 = .ok (.aload_n 1, 1) := by decide +kernel
theorem dX6_readOperand_12 : decode cX6_readOperand 12 = .ok (.iload_n 2, 1) := by decide +kernel
theorem dX6_readOperand_13 : decode cX6_readOperand 13 = .ok (.iconst 4, 1) := by decide +kernel
theorem dX6_readOperand_14 : decode cX6_readOperand 14 = .ok (.if_icmp .ge 7, 3) := by decide +kernel
theorem dX6_readOperand_17 : decode cX6_readOperand 17 = .ok (.iconst 1, 1) := by decide +kernel
theorem dX6_readOperand_18 : decode cX6_readOperand 18 = .ok (.goto 4, 3) := by decide +kernel
theorem dX6_readOperand_21 : decode cX6_readOperand 21 = .ok (.iconst 0, 1) := by decide +kernel
theorem dX6_readOperand_22 : decode cX6_readOperand 22 = .ok (.invokevirtual 52, 3) := by decide +kernel
theorem dX6_readOperand_25 : decode cX6_readOperand 25 = .ok (.ifCond .eq 69, 3) := by decide +kernel
theorem dX6_readOperand_28 : decode cX6_readOperand 28 = .ok (.aload_n 1, 1) := by decide +kernel
theorem dX6_readOperand_29 : decode cX6_readOperand 29 = .ok (.bipush 40, 2) := by decide +kernel
theorem dX6_readOperand_31 : decode cX6_readOperand 31 = .ok (.invokevirtual 35, 3) := by decide +kernel
theorem dX6_readOperand_34 : decode cX6_readOperand 34 = .ok (.pop, 1) := by decide +kernel
theorem dX6_readOperand_35 : decode cX6_readOperand 35 = .ok (.aload_n 0, 1) := by decide +kernel
theorem dX6_readOperand_36 : decode cX6_readOperand 36 = .ok (.aload_n 1, 1) := by decide +kernel
theorem dX6_readOperand_37 : decode cX6_readOperand 37 = .ok (.iload_n 2, 1) := by decide +kernel
theorem dX6_readOperand_38 : decode cX6_readOperand 38 = .ok (.iconst 1, 1) := by decide +kernel
theorem dX6_readOperand_39 : decode cX6_readOperand 39 = .ok (.iadd, 1) := by decide +kernel
theorem dX6_readOperand_40 : decode cX6_readOperand 40 = .ok (.invokevirtual 22, 3) := by decide +kernel
theorem dX6_readOperand_43 : decode cX6_readOperand 43 = .ok (.aload_n 1, 1) := by decide +kernel
theorem dX6_readOperand_44 : decode cX6_readOperand 44 = .ok (.aload_n 1, 1) := by decide +kernel
theorem dX6_readOperand_45 : decode cX6_readOperand 45 = .ok (.bipush 41, 2) := by decide +kernel
theorem dX6_readOperand_47 : decode cX6_readOperand 47 = .ok (.invokevirtual 35, 3) := by decide +kernel
theorem dX6_readOperand_50 : decode cX6_readOperand 50 = .ok (.invokevirtual 52, 3) := by decide +kernel
theorem dX6_readOperand_53 : decode cX6_readOperand 53 = .ok (.pop, 1) := by decide +kernel
theorem dX6_readOperand_54 : decode cX6_readOperand 54 = .ok (.goto 40, 3) := by decide +kernel
theorem dX6_readOperand_57 : decode cX6_readOperand 57 = .ok (.aload_n 1, 1) := by decide +kernel
theorem dX6_readOperand_58 : decode cX6_readOperand 58 = .ok (.invokevirtual 56, 3) := by decide +kernel
theorem dX6_readOperand_61 : decode cX6_readOperand 61 = .ok (.ifCond .eq 11, 3) := by decide +kernel
theorem dX6_readOperand_64 : decode cX6_readOperand 64 = .ok (.aload_n 0, 1) := by decide +kernel
theorem dX6_readOperand_65 : decode cX6_readOperand 65 = .ok (.aload_n 1, 1) := by decide +kernel
theorem dX6_readOperand_66 : decode cX6_readOperand 66 = .ok (.invokevirtual 60, 3) := by decide +kernel
theorem dX6_readOperand_69 : decode cX6_readOperand 69 = .ok (.goto 25, 3) := by decide +kernel
theorem dX6_readOperand_72 : decode cX6_readOperand 72 = .ok (.aload_n 1, 1) := by decide +kernel
theorem dX6_readOperand_73 : decode cX6_readOperand 73 = .ok (.iload_n 3, 1) := by decide +kernel
theorem dX6_readOperand_74 : decode cX6_readOperand 74 = .ok (.invokestatic 64, 3) := by decide +kernel
theorem dX6_readOperand_77 : decode cX6_readOperand 77 = .ok (.invokevirtual 52, 3) := by decide +kernel
theorem dX6_readOperand_80 : decode cX6_readOperand 80 = .ok (.ifCond .eq 14, 3) := by decide +kernel
theorem dX6_readOperand_83 : decode cX6_readOperand 83 = .ok (.aload_n 1, 1) := by decide +kernel
theorem dX6_readOperand_84 : decode cX6_readOperand 84 = .ok (.iload_n 3, 1) := by decide +kernel
theorem dX6_readOperand_85 : decode cX6_readOperand 85 = .ok (.invokevirtual 35, 3) := by decide +kernel
theorem dX6_readOperand_88 : decode cX6_readOperand 88 = .ok (.pop, 1) := by decide +kernel
theorem dX6_readOperand_89 : decode cX6_readOperand 89 = .ok (.aload_n 0, 1) := by decide +kernel
theorem dX6_readOperand_90 : decode cX6_readOperand 90 = .ok (.iload_n 3, 1) := by decide +kernel
theorem dX6_readOperand_91 : decode cX6_readOperand 91 = .ok (.invokevirtual 39, 3) := by decide +kernel
theorem dX6_readOperand_94 : decode cX6_readOperand 94 = .ok (.return_, 1) := by decide +kernel
theorem dX6_readNumber_0 : decode cX6_readNumber 0 = .ok (.iconst 0, 1) := by decide +kernel
theorem dX6_readNumber_1 : decode cX6_readNumber 1 = .ok (.istore_n 2, 1) := by decide +kernel
theorem dX6_readNumber_2 : decode cX6_readNumber 2 = .ok (.iconst 0, 1) := by decide +kernel
theorem dX6_readNumber_3 : decode cX6_readNumber 3 = .ok (.istore_n 3, 1) := by decide +kernel
theorem dX6_readNumber_4 : decode cX6_readNumber 4 = .ok (.iload_n 3, 1) := by decide +kernel
theorem dX6_readNumber_5 : decode cX6_readNumber 5 = .ok (.iconst 3, 1) := by decide +kernel
theorem dX6_readNumber_6 : decode cX6_readNumber 6 = .ok (.if_icmp .ge 28, 3) := by decide +kernel
theorem dX6_readNumber_9 : decode cX6_readNumber 9 = .ok (.aload_n 1, 1) := by decide +kernel
theorem dX6_readNumber_10 : decode cX6_readNumber 10 = .ok (.invokevirtual 56, 3) := by decide +kernel
theorem dX6_readNumber_13 : decode cX6_readNumber 13 = .ok (.ifCond .eq 21, 3) := by decide +kernel
theorem dX6_readNumber_16 : decode cX6_readNumber 16 = .ok (.iload_n 2, 1) := by decide +kernel
theorem dX6_readNumber_17 : decode cX6_readNumber 17 = .ok (.bipush 10, 2) := by decide +kernel
theorem dX6_readNumber_19 : decode cX6_readNumber 19 = .ok (.imul, 1) := by decide +kernel
theorem dX6_readNumber_20 : decode cX6_readNumber 20 = .ok (.aload_n 1, 1) := by decide +kernel
theorem dX6_readNumber_21 : decode cX6_readNumber 21 = .ok (.bipush 10, 2) := by decide +kernel
theorem dX6_readNumber_23 : decode cX6_readNumber 23 = .ok (.invokevirtual 67, 3) := by decide +kernel
theorem dX6_readNumber_26 : decode cX6_readNumber 26 = .ok (.iadd, 1) := by decide +kernel
theorem dX6_readNumber_27 : decode cX6_readNumber 27 = .ok (.istore_n 2, 1) := by decide +kernel
theorem dX6_readNumber_28 : decode cX6_readNumber 28 = .ok (.iinc 3 1, 3) := by decide +kernel
theorem dX6_readNumber_31 : decode cX6_readNumber 31 = .ok (.goto (-27), 3) := by decide +kernel
theorem dX6_readNumber_34 : decode cX6_readNumber 34 = .ok (.aload_n 0, 1) := by decide +kernel
theorem dX6_readNumber_35 : decode cX6_readNumber 35 = .ok (.sipush 1000, 3) := by decide +kernel
theorem dX6_readNumber_38 : decode cX6_readNumber 38 = .ok (.iload_n 2, 1) := by decide +kernel
theorem dX6_readNumber_39 : decode cX6_readNumber 39 = .ok (.iadd, 1) := by decide +kernel
theorem dX6_readNumber_40 : decode cX6_readNumber 40 = .ok (.invokevirtual 39, 3) := by decide +kernel
theorem dX6_readNumber_43 : decode cX6_readNumber 43 = .ok (.return_, 1) := by decide +kernel
theorem dX6_isName_0 : decode cX6_isName 0 = .ok (.iload_n 0, 1) := by decide +kernel
theorem dX6_isName_1 : decode cX6_isName 1 = .ok (.bipush 107, 2) := by decide +kernel
theorem dX6_isName_3 : decode cX6_isName 3 = .ok (.if_icmp .eq 33, 3) := by decide +kernel
theorem dX6_isName_6 : decode cX6_isName 6 = .ok (.iload_n 0, 1) := by decide +kernel
theorem dX6_isName_7 : decode cX6_isName 7 = .ok (.bipush 115, 2) := by decide +kernel
theorem dX6_isName_9 : decode cX6_isName 9 = .ok (.if_icmp .eq 27, 3) := by decide +kernel
theorem dX6_isName_12 : decode cX6_isName 12 = .ok (.iload_n 0, 1) := by decide +kernel
theorem dX6_isName_13 : decode cX6_isName 13 = .ok (.bipush 108, 2) := by decide +kernel
theorem dX6_isName_15 : decode cX6_isName 15 = .ok (.if_icmp .eq 21, 3) := by decide +kernel
theorem dX6_isName_18 : decode cX6_isName 18 = .ok (.iload_n 0, 1) := by decide +kernel
theorem dX6_isName_19 : decode cX6_isName 19 = .ok (.bipush 104, 2) := by decide +kernel
theorem dX6_isName_21 : decode cX6_isName 21 = .ok (.if_icmp .eq 15, 3) := by decide +kernel
theorem dX6_isName_24 : decode cX6_isName 24 = .ok (.iload_n 0, 1) := by decide +kernel
theorem dX6_isName_25 : decode cX6_isName 25 = .ok (.bipush 110, 2) := by decide +kernel
theorem dX6_isName_27 : decode cX6_isName 27 = .ok (.if_icmp .eq 9, 3) := by decide +kernel
theorem dX6_isName_30 : decode cX6_isName 30 = .ok (.iload_n 0, 1) := by decide +kernel
theorem dX6_isName_31 : decode cX6_isName 31 = .ok (.bipush 116, 2) := by decide +kernel
theorem dX6_isName_33 : decode cX6_isName 33 = .ok (.if_icmp .ne 7, 3) := by decide +kernel
theorem dX6_isName_36 : decode cX6_isName 36 = .ok (.iconst 1, 1) := by decide +kernel
theorem dX6_isName_37 : decode cX6_isName 37 = .ok (.goto 4, 3) := by decide +kernel
theorem dX6_isName_40 : decode cX6_isName 40 = .ok (.iconst 0, 1) := by decide +kernel
theorem dX6_isName_41 : decode cX6_isName 41 = .ok (.ireturn, 1) := by decide +kernel
theorem dX6_lets_0 : decode cX6_lets 0 = .ok (.aload_n 0, 1) := by decide +kernel
theorem dX6_lets_1 : decode cX6_lets 1 = .ok (.getfield 18, 3) := by decide +kernel
theorem dX6_lets_4 : decode cX6_lets 4 = .ok (.ifCond .ne 12, 3) := by decide +kernel
theorem dX6_lets_7 : decode cX6_lets 7 = .ok (.iload_n 1, 1) := by decide +kernel
theorem dX6_lets_8 : decode cX6_lets 8 = .ok (.iload_n 2, 1) := by decide +kernel
theorem dX6_lets_9 : decode cX6_lets 9 = .ok (.iload_n 3, 1) := by decide +kernel
theorem dX6_lets_10 : decode cX6_lets 10 = .ok (.iload 4, 2) := by decide +kernel
theorem dX6_lets_12 : decode cX6_lets 12 = .ok (.invokestatic 71, 3) := by decide +kernel
theorem dX6_lets_15 : decode cX6_lets 15 = .ok (.ireturn, 1) := by decide +kernel
theorem dX6_lets_16 : decode cX6_lets 16 = .ok (.iconst 0, 1) := by decide +kernel
theorem dX6_lets_17 : decode cX6_lets 17 = .ok (.istore 6, 2) := by decide +kernel
theorem dX6_lets_19 : decode cX6_lets 19 = .ok (.iconst 0, 1) := by decide +kernel
theorem dX6_lets_20 : decode cX6_lets 20 = .ok (.istore 7, 2) := by decide +kernel
theorem dX6_lets_22 : decode cX6_lets 22 = .ok (.iload 7, 2) := by decide +kernel
theorem dX6_lets_24 : decode cX6_lets 24 = .ok (.aload_n 0, 1) := by decide +kernel
theorem dX6_lets_25 : decode cX6_lets 25 = .ok (.getfield 18, 3) := by decide +kernel
theorem dX6_lets_28 : decode cX6_lets 28 = .ok (.if_icmp .ge 165, 3) := by decide +kernel
theorem dX6_lets_31 : decode cX6_lets 31 = .ok (.aload_n 0, 1) := by decide +kernel
theorem dX6_lets_32 : decode cX6_lets 32 = .ok (.getfield 9, 3) := by decide +kernel
theorem dX6_lets_35 : decode cX6_lets 35 = .ok (.iload 7, 2) := by decide +kernel
theorem dX6_lets_37 : decode cX6_lets 37 = .ok (.iaload, 1) := by decide +kernel
theorem dX6_lets_38 : decode cX6_lets 38 = .ok (.istore 8, 2) := by decide +kernel
theorem dX6_lets_40 : decode cX6_lets 40 = .ok (.iload 8, 2) := by decide +kernel
theorem dX6_lets_42 : decode cX6_lets 42 = .ok (.bipush 126, 2) := by decide +kernel
theorem dX6_lets_44 : decode cX6_lets 44 = .ok (.if_icmp .ne 30, 3) := by decide +kernel
theorem dX6_lets_47 : decode cX6_lets 47 = .ok (.iload 6, 2) := by decide +kernel
theorem dX6_lets_49 : decode cX6_lets 49 = .ok (.ifCond .le 25, 3) := by decide +kernel
theorem dX6_lets_52 : decode cX6_lets 52 = .ok (.aload_n 0, 1) := by decide +kernel
theorem dX6_lets_53 : decode cX6_lets 53 = .ok (.getfield 15, 3) := by decide +kernel
theorem dX6_lets_56 : decode cX6_lets 56 = .ok (.iload 6, 2) := by decide +kernel
theorem dX6_lets_58 : decode cX6_lets 58 = .ok (.iconst 1, 1) := by decide +kernel
theorem dX6_lets_59 : decode cX6_lets 59 = .ok (.isub, 1) := by decide +kernel
theorem dX6_lets_60 : decode cX6_lets 60 = .ok (.aload_n 0, 1) := by decide +kernel
theorem dX6_lets_61 : decode cX6_lets 61 = .ok (.getfield 15, 3) := by decide +kernel
theorem dX6_lets_64 : decode cX6_lets 64 = .ok (.iload 6, 2) := by decide +kernel
theorem dX6_lets_66 : decode cX6_lets 66 = .ok (.iconst 1, 1) := by decide +kernel
theorem dX6_lets_67 : decode cX6_lets 67 = .ok (.isub, 1) := by decide +kernel
theorem dX6_lets_68 : decode cX6_lets 68 = .ok (.iaload, 1) := by decide +kernel
theorem dX6_lets_69 : decode cX6_lets 69 = .ok (.ineg, 1) := by decide +kernel
theorem dX6_lets_70 : decode cX6_lets 70 = .ok (.iastore, 1) := by decide +kernel
theorem dX6_lets_71 : decode cX6_lets 71 = .ok (.goto 116, 3) := by decide +kernel
theorem dX6_lets_74 : decode cX6_lets 74 = .ok (.iload 8, 2) := by decide +kernel
theorem dX6_lets_76 : decode cX6_lets 76 = .ok (.sipush 1000, 3) := by decide +kernel
theorem dX6_lets_79 : decode cX6_lets 79 = .ok (.if_icmp .lt 29, 3) := by decide +kernel
theorem dX6_lets_82 : decode cX6_lets 82 = .ok (.iload 6, 2) := by decide +kernel
theorem dX6_lets_84 : decode cX6_lets 84 = .ok (.bipush 40, 2) := by decide +kernel
theorem dX6_lets_86 : decode cX6_lets 86 = .ok (.if_icmp .ge 22, 3) := by decide +kernel
theorem dX6_lets_89 : decode cX6_lets 89 = .ok (.aload_n 0, 1) := by decide +kernel
theorem dX6_lets_90 : decode cX6_lets 90 = .ok (.getfield 15, 3) := by decide +kernel
theorem dX6_lets_93 : decode cX6_lets 93 = .ok (.iload 6, 2) := by decide +kernel
theorem dX6_lets_95 : decode cX6_lets 95 = .ok (.iload 8, 2) := by decide +kernel
theorem dX6_lets_97 : decode cX6_lets 97 = .ok (.sipush 1000, 3) := by decide +kernel
theorem dX6_lets_100 : decode cX6_lets 100 = .ok (.isub, 1) := by decide +kernel
theorem dX6_lets_101 : decode cX6_lets 101 = .ok (.iastore, 1) := by decide +kernel
theorem dX6_lets_102 : decode cX6_lets 102 = .ok (.iinc 6 1, 3) := by decide +kernel
theorem dX6_lets_105 : decode cX6_lets 105 = .ok (.goto 82, 3) := by decide +kernel
theorem dX6_lets_108 : decode cX6_lets 108 = .ok (.iload 8, 2) := by decide +kernel
theorem dX6_lets_110 : decode cX6_lets 110 = .ok (.invokestatic 64, 3) := by decide +kernel
theorem dX6_lets_113 : decode cX6_lets 113 = .ok (.ifCond .eq 35, 3) := by decide +kernel
theorem dX6_lets_116 : decode cX6_lets 116 = .ok (.iload 6, 2) := by decide +kernel
theorem dX6_lets_118 : decode cX6_lets 118 = .ok (.bipush 40, 2) := by decide +kernel
theorem dX6_lets_120 : decode cX6_lets 120 = .ok (.if_icmp .ge 28, 3) := by decide +kernel
theorem dX6_lets_123 : decode cX6_lets 123 = .ok (.aload_n 0, 1) := by decide +kernel
theorem dX6_lets_124 : decode cX6_lets 124 = .ok (.getfield 15, 3) := by decide +kernel
theorem dX6_lets_127 : decode cX6_lets 127 = .ok (.iload 6, 2) := by decide +kernel
theorem dX6_lets_129 : decode cX6_lets 129 = .ok (.iload 8, 2) := by decide +kernel
theorem dX6_lets_131 : decode cX6_lets 131 = .ok (.iload_n 1, 1) := by decide +kernel
theorem dX6_lets_132 : decode cX6_lets 132 = .ok (.iload_n 2, 1) := by decide +kernel
theorem dX6_lets_133 : decode cX6_lets 133 = .ok (.iload_n 3, 1) := by decide +kernel
theorem dX6_lets_134 : decode cX6_lets 134 = .ok (.iload 4, 2) := by decide +kernel
theorem dX6_lets_136 : decode cX6_lets 136 = .ok (.iload 5, 2) := by decide +kernel
theorem dX6_lets_138 : decode cX6_lets 138 = .ok (.invokestatic 75, 3) := by decide +kernel
theorem dX6_lets_141 : decode cX6_lets 141 = .ok (.iastore, 1) := by decide +kernel
theorem dX6_lets_142 : decode cX6_lets 142 = .ok (.iinc 6 1, 3) := by decide +kernel
theorem dX6_lets_145 : decode cX6_lets 145 = .ok (.goto 42, 3) := by decide +kernel
theorem dX6_lets_148 : decode cX6_lets 148 = .ok (.iload 6, 2) := by decide +kernel
theorem dX6_lets_150 : decode cX6_lets 150 = .ok (.iconst 1, 1) := by decide +kernel
theorem dX6_lets_151 : decode cX6_lets 151 = .ok (.if_icmp .le 36, 3) := by decide +kernel
theorem dX6_lets_154 : decode cX6_lets 154 = .ok (.iinc 6 (-1), 3) := by decide +kernel
theorem dX6_lets_157 : decode cX6_lets 157 = .ok (.aload_n 0, 1) := by decide +kernel
theorem dX6_lets_158 : decode cX6_lets 158 = .ok (.getfield 15, 3) := by decide +kernel
theorem dX6_lets_161 : decode cX6_lets 161 = .ok (.iload 6, 2) := by decide +kernel
theorem dX6_lets_163 : decode cX6_lets 163 = .ok (.iconst 1, 1) := by decide +kernel
theorem dX6_lets_164 : decode cX6_lets 164 = .ok (.isub, 1) := by decide +kernel
theorem dX6_lets_165 : decode cX6_lets 165 = .ok (.iload 8, 2) := by decide +kernel
theorem dX6_lets_167 : decode cX6_lets 167 = .ok (.aload_n 0, 1) := by decide +kernel
theorem dX6_lets_168 : decode cX6_lets 168 = .ok (.getfield 15, 3) := by decide +kernel
theorem dX6_lets_171 : decode cX6_lets 171 = .ok (.iload 6, 2) := by decide +kernel
theorem dX6_lets_173 : decode cX6_lets 173 = .ok (.iconst 1, 1) := by decide +kernel
theorem dX6_lets_174 : decode cX6_lets 174 = .ok (.isub, 1) := by decide +kernel
theorem dX6_lets_175 : decode cX6_lets 175 = .ok (.iaload, 1) := by decide +kernel
theorem dX6_lets_176 : decode cX6_lets 176 = .ok (.aload_n 0, 1) := by decide +kernel
theorem dX6_lets_177 : decode cX6_lets 177 = .ok (.getfield 15, 3) := by decide +kernel
theorem dX6_lets_180 : decode cX6_lets 180 = .ok (.iload 6, 2) := by decide +kernel
theorem dX6_lets_182 : decode cX6_lets 182 = .ok (.iaload, 1) := by decide +kernel
theorem dX6_lets_183 : decode cX6_lets 183 = .ok (.invokestatic 79, 3) := by decide +kernel
theorem dX6_lets_186 : decode cX6_lets 186 = .ok (.iastore, 1) := by decide +kernel
theorem dX6_lets_187 : decode cX6_lets 187 = .ok (.iinc 7 1, 3) := by decide +kernel
theorem dX6_lets_190 : decode cX6_lets 190 = .ok (.goto (-168), 3) := by decide +kernel
theorem dX6_lets_193 : decode cX6_lets 193 = .ok (.aload_n 0, 1) := by decide +kernel
theorem dX6_lets_194 : decode cX6_lets 194 = .ok (.getfield 15, 3) := by decide +kernel
theorem dX6_lets_197 : decode cX6_lets 197 = .ok (.iconst 0, 1) := by decide +kernel
theorem dX6_lets_198 : decode cX6_lets 198 = .ok (.iaload, 1) := by decide +kernel
theorem dX6_lets_199 : decode cX6_lets 199 = .ok (.ifCond .eq 7, 3) := by decide +kernel
theorem dX6_lets_202 : decode cX6_lets 202 = .ok (.iconst 1, 1) := by decide +kernel
theorem dX6_lets_203 : decode cX6_lets 203 = .ok (.goto 4, 3) := by decide +kernel
theorem dX6_lets_206 : decode cX6_lets 206 = .ok (.iconst 0, 1) := by decide +kernel
theorem dX6_lets_207 : decode cX6_lets 207 = .ok (.ireturn, 1) := by decide +kernel
theorem dX6_named_0 : decode cX6_named 0 = .ok (.iload_n 0, 1) := by decide +kernel
theorem dX6_named_1 : decode cX6_named 1 = .ok (.tableswitch 81 104 115 #[70, 81, 81, 63, 68, 81, 76, 81, 81, 81, 81, 65], 63) := by decide +kernel
theorem dX6_named_64 : decode cX6_named 64 = .ok (.iload_n 3, 1) := by decide +kernel
theorem dX6_named_65 : decode cX6_named 65 = .ok (.ireturn, 1) := by decide +kernel
theorem dX6_named_66 : decode cX6_named 66 = .ok (.iload 4, 2) := by decide +kernel
theorem dX6_named_68 : decode cX6_named 68 = .ok (.ireturn, 1) := by decide +kernel
theorem dX6_named_69 : decode cX6_named 69 = .ok (.iload_n 1, 1) := by decide +kernel
theorem dX6_named_70 : decode cX6_named 70 = .ok (.ireturn, 1) := by decide +kernel
theorem dX6_named_71 : decode cX6_named 71 = .ok (.iload_n 2, 1) := by decide +kernel
theorem dX6_named_72 : decode cX6_named 72 = .ok (.iload_n 3, 1) := by decide +kernel
theorem dX6_named_73 : decode cX6_named 73 = .ok (.iushr, 1) := by decide +kernel
theorem dX6_named_74 : decode cX6_named 74 = .ok (.iconst 1, 1) := by decide +kernel
theorem dX6_named_75 : decode cX6_named 75 = .ok (.iand, 1) := by decide +kernel
theorem dX6_named_76 : decode cX6_named 76 = .ok (.ireturn, 1) := by decide +kernel
theorem dX6_named_77 : decode cX6_named 77 = .ok (.iload_n 2, 1) := by decide +kernel
theorem dX6_named_78 : decode cX6_named 78 = .ok (.invokestatic 83, 3) := by decide +kernel
theorem dX6_named_81 : decode cX6_named 81 = .ok (.ireturn, 1) := by decide +kernel
theorem dX6_named_82 : decode cX6_named 82 = .ok (.iload 5, 2) := by decide +kernel
theorem dX6_named_84 : decode cX6_named 84 = .ok (.bipush 24, 2) := by decide +kernel
theorem dX6_named_86 : decode cX6_named 86 = .ok (.irem, 1) := by decide +kernel
theorem dX6_named_87 : decode cX6_named 87 = .ok (.ireturn, 1) := by decide +kernel
theorem dX6_joined_0 : decode cX6_joined 0 = .ok (.iload_n 0, 1) := by decide +kernel
theorem dX6_joined_1 : decode cX6_joined 1 = .ok (.lookupswitch 105 #[(42, 67), (43, 59), (45, 63), (47, 71), (60, 83), (62, 94)], 59) := by decide +kernel
theorem dX6_joined_60 : decode cX6_joined 60 = .ok (.iload_n 1, 1) := by decide +kernel
theorem dX6_joined_61 : decode cX6_joined 61 = .ok (.iload_n 2, 1) := by decide +kernel
theorem dX6_joined_62 : decode cX6_joined 62 = .ok (.iadd, 1) := by decide +kernel
theorem dX6_joined_63 : decode cX6_joined 63 = .ok (.ireturn, 1) := by decide +kernel
theorem dX6_joined_64 : decode cX6_joined 64 = .ok (.iload_n 1, 1) := by decide +kernel
theorem dX6_joined_65 : decode cX6_joined 65 = .ok (.iload_n 2, 1) := by decide +kernel
theorem dX6_joined_66 : decode cX6_joined 66 = .ok (.isub, 1) := by decide +kernel
theorem dX6_joined_67 : decode cX6_joined 67 = .ok (.ireturn, 1) := by decide +kernel
theorem dX6_joined_68 : decode cX6_joined 68 = .ok (.iload_n 1, 1) := by decide +kernel
theorem dX6_joined_69 : decode cX6_joined 69 = .ok (.iload_n 2, 1) := by decide +kernel
theorem dX6_joined_70 : decode cX6_joined 70 = .ok (.imul, 1) := by decide +kernel
theorem dX6_joined_71 : decode cX6_joined 71 = .ok (.ireturn, 1) := by decide +kernel
theorem dX6_joined_72 : decode cX6_joined 72 = .ok (.iload_n 2, 1) := by decide +kernel
theorem dX6_joined_73 : decode cX6_joined 73 = .ok (.ifCond .ne 7, 3) := by decide +kernel
theorem dX6_joined_76 : decode cX6_joined 76 = .ok (.iconst 0, 1) := by decide +kernel
theorem dX6_joined_77 : decode cX6_joined 77 = .ok (.goto 6, 3) := by decide +kernel
theorem dX6_joined_80 : decode cX6_joined 80 = .ok (.iload_n 1, 1) := by decide +kernel
theorem dX6_joined_81 : decode cX6_joined 81 = .ok (.iload_n 2, 1) := by decide +kernel
theorem dX6_joined_82 : decode cX6_joined 82 = .ok (.idiv, 1) := by decide +kernel
theorem dX6_joined_83 : decode cX6_joined 83 = .ok (.ireturn, 1) := by decide +kernel
theorem dX6_joined_84 : decode cX6_joined 84 = .ok (.iload_n 1, 1) := by decide +kernel
theorem dX6_joined_85 : decode cX6_joined 85 = .ok (.iload_n 2, 1) := by decide +kernel
theorem dX6_joined_86 : decode cX6_joined 86 = .ok (.if_icmp .ge 7, 3) := by decide +kernel
theorem dX6_joined_89 : decode cX6_joined 89 = .ok (.iconst 1, 1) := by decide +kernel
theorem dX6_joined_90 : decode cX6_joined 90 = .ok (.goto 4, 3) := by decide +kernel
theorem dX6_joined_93 : decode cX6_joined 93 = .ok (.iconst 0, 1) := by decide +kernel
theorem dX6_joined_94 : decode cX6_joined 94 = .ok (.ireturn, 1) := by decide +kernel
theorem dX6_joined_95 : decode cX6_joined 95 = .ok (.iload_n 1, 1) := by decide +kernel
theorem dX6_joined_96 : decode cX6_joined 96 = .ok (.iload_n 2, 1) := by decide +kernel
theorem dX6_joined_97 : decode cX6_joined 97 = .ok (.if_icmp .le 7, 3) := by decide +kernel
theorem dX6_joined_100 : decode cX6_joined 100 = .ok (.iconst 1, 1) := by decide +kernel
theorem dX6_joined_101 : decode cX6_joined 101 = .ok (.goto 4, 3) := by decide +kernel
theorem dX6_joined_104 : decode cX6_joined 104 = .ok (.iconst 0, 1) := by decide +kernel
theorem dX6_joined_105 : decode cX6_joined 105 = .ok (.ireturn, 1) := by decide +kernel
theorem dX6_joined_106 : decode cX6_joined 106 = .ok (.iload_n 1, 1) := by decide +kernel
theorem dX6_joined_107 : decode cX6_joined 107 = .ok (.iload_n 2, 1) := by decide +kernel
theorem dX6_joined_108 : decode cX6_joined 108 = .ok (.if_icmp .ne 7, 3) := by decide +kernel
theorem dX6_joined_111 : decode cX6_joined 111 = .ok (.iconst 1, 1) := by decide +kernel
theorem dX6_joined_112 : decode cX6_joined 112 = .ok (.goto 4, 3) := by decide +kernel
theorem dX6_joined_115 : decode cX6_joined 115 = .ok (.iconst 0, 1) := by decide +kernel
theorem dX6_joined_116 : decode cX6_joined 116 = .ok (.ireturn, 1) := by decide +kernel
theorem dX7_init_0 : decode cX7_init 0 = .ok (.aload_n 0, 1) := by decide +kernel
theorem dX7_init_1 : decode cX7_init 1 = .ok (.invokespecial 3, 3) := by decide +kernel
theorem dX7_init_4 : decode cX7_init 4 = .ok (.aload_n 0, 1) := by decide +kernel
theorem dX7_init_5 : decode cX7_init 5 = .ok (.bipush 80, 2) := by decide +kernel
theorem dX7_init_7 : decode cX7_init 7 = .ok (.newarray .int, 2) := by decide +kernel
theorem dX7_init_9 : decode cX7_init 9 = .ok (.putfield 9, 3) := by decide +kernel
theorem dX7_init_12 : decode cX7_init 12 = .ok (.return_, 1) := by decide +kernel
theorem dX7_add_0 : decode cX7_add 0 = .ok (.aload_n 0, 1) := by decide +kernel
theorem dX7_add_1 : decode cX7_add 1 = .ok (.getfield 15, 3) := by decide +kernel
theorem dX7_add_4 : decode cX7_add 4 = .ok (.bipush 76, 2) := by decide +kernel
theorem dX7_add_6 : decode cX7_add 6 = .ok (.if_icmp .le 5, 3) := by decide +kernel
theorem dX7_add_9 : decode cX7_add 9 = .ok (.iconst (-1), 1) := by decide +kernel
theorem dX7_add_10 : decode cX7_add 10 = .ok (.ireturn, 1) := by decide +kernel
theorem dX7_add_11 : decode cX7_add 11 = .ok (.iconst 0, 1) := by decide +kernel
theorem dX7_add_12 : decode cX7_add 12 = .ok (.istore_n 2, 1) := by decide +kernel
theorem dX7_add_13 : decode cX7_add 13 = .ok (.iload_n 2, 1) := by decide +kernel
theorem dX7_add_14 : decode cX7_add 14 = .ok (.iconst 4, 1) := by decide +kernel
theorem dX7_add_15 : decode cX7_add 15 = .ok (.if_icmp .ge 33, 3) := by decide +kernel
theorem dX7_add_18 : decode cX7_add 18 = .ok (.aload_n 0, 1) := by decide +kernel
theorem dX7_add_19 : decode cX7_add 19 = .ok (.getfield 9, 3) := by decide +kernel
theorem dX7_add_22 : decode cX7_add 22 = .ok (.aload_n 0, 1) := by decide +kernel
theorem dX7_add_23 : decode cX7_add 23 = .ok (.getfield 15, 3) := by decide +kernel
theorem dX7_add_26 : decode cX7_add 26 = .ok (.iload_n 2, 1) := by decide +kernel
theorem dX7_add_27 : decode cX7_add 27 = .ok (.iadd, 1) := by decide +kernel
theorem dX7_add_28 : decode cX7_add 28 = .ok (.iload_n 1, 1) := by decide +kernel
theorem dX7_add_29 : decode cX7_add 29 = .ok (.bipush 24, 2) := by decide +kernel
theorem dX7_add_31 : decode cX7_add 31 = .ok (.bipush 8, 2) := by decide +kernel
theorem dX7_add_33 : decode cX7_add 33 = .ok (.iload_n 2, 1) := by decide +kernel
theorem dX7_add_34 : decode cX7_add 34 = .ok (.imul, 1) := by decide +kernel
theorem dX7_add_35 : decode cX7_add 35 = .ok (.isub, 1) := by decide +kernel
theorem dX7_add_36 : decode cX7_add 36 = .ok (.iushr, 1) := by decide +kernel
theorem dX7_add_37 : decode cX7_add 37 = .ok (.sipush 255, 3) := by decide +kernel
theorem dX7_add_40 : decode cX7_add 40 = .ok (.iand, 1) := by decide +kernel
theorem dX7_add_41 : decode cX7_add 41 = .ok (.iastore, 1) := by decide +kernel
theorem dX7_add_42 : decode cX7_add 42 = .ok (.iinc 2 1, 3) := by decide +kernel
theorem dX7_add_45 : decode cX7_add 45 = .ok (.goto (-32), 3) := by decide +kernel
theorem dX7_add_48 : decode cX7_add 48 = .ok (.aload_n 0, 1) := by decide +kernel
theorem dX7_add_49 : decode cX7_add 49 = .ok (.dup, 1) := by decide +kernel
theorem dX7_add_50 : decode cX7_add 50 = .ok (.getfield 15, 3) := by decide +kernel
theorem dX7_add_53 : decode cX7_add 53 = .ok (.iconst 4, 1) := by decide +kernel
theorem dX7_add_54 : decode cX7_add 54 = .ok (.iadd, 1) := by decide +kernel
theorem dX7_add_55 : decode cX7_add 55 = .ok (.putfield 15, 3) := by decide +kernel
theorem dX7_add_58 : decode cX7_add 58 = .ok (.aload_n 0, 1) := by decide +kernel
theorem dX7_add_59 : decode cX7_add 59 = .ok (.getfield 15, 3) := by decide +kernel
theorem dX7_add_62 : decode cX7_add 62 = .ok (.ireturn, 1) := by decide +kernel
theorem dX7_cut_0 : decode cX7_cut 0 = .ok (.iload_n 1, 1) := by decide +kernel
theorem dX7_cut_1 : decode cX7_cut 1 = .ok (.ifCond .lt 11, 3) := by decide +kernel
theorem dX7_cut_4 : decode cX7_cut 4 = .ok (.iload_n 1, 1) := by decide +kernel
theorem dX7_cut_5 : decode cX7_cut 5 = .ok (.aload_n 0, 1) := by decide +kernel
theorem dX7_cut_6 : decode cX7_cut 6 = .ok (.getfield 15, 3) := by decide +kernel
theorem dX7_cut_9 : decode cX7_cut 9 = .ok (.if_icmp .le 5, 3) := by decide +kernel
theorem dX7_cut_12 : decode cX7_cut 12 = .ok (.iconst 0, 1) := by decide +kernel
theorem dX7_cut_13 : decode cX7_cut 13 = .ok (.ireturn, 1) := by decide +kernel
theorem dX7_cut_14 : decode cX7_cut 14 = .ok (.aload_n 0, 1) := by decide +kernel
theorem dX7_cut_15 : decode cX7_cut 15 = .ok (.iload_n 1, 1) := by decide +kernel
theorem dX7_cut_16 : decode cX7_cut 16 = .ok (.putfield 15, 3) := by decide +kernel
theorem dX7_cut_19 : decode cX7_cut 19 = .ok (.iconst 1, 1) := by decide +kernel
theorem dX7_cut_20 : decode cX7_cut 20 = .ok (.ireturn, 1) := by decide +kernel
theorem dX7_clear_0 : decode cX7_clear 0 = .ok (.aload_n 0, 1) := by decide +kernel
theorem dX7_clear_1 : decode cX7_clear 1 = .ok (.iconst 0, 1) := by decide +kernel
theorem dX7_clear_2 : decode cX7_clear 2 = .ok (.putfield 15, 3) := by decide +kernel
theorem dX7_clear_5 : decode cX7_clear 5 = .ok (.return_, 1) := by decide +kernel
theorem dX7_isEmpty_0 : decode cX7_isEmpty 0 = .ok (.aload_n 0, 1) := by decide +kernel
theorem dX7_isEmpty_1 : decode cX7_isEmpty 1 = .ok (.getfield 15, 3) := by decide +kernel
theorem dX7_isEmpty_4 : decode cX7_isEmpty 4 = .ok (.ifCond .ne 7, 3) := by decide +kernel
theorem dX7_isEmpty_7 : decode cX7_isEmpty 7 = .ok (.iconst 1, 1) := by decide +kernel
theorem dX7_isEmpty_8 : decode cX7_isEmpty 8 = .ok (.goto 4, 3) := by decide +kernel
theorem dX7_isEmpty_11 : decode cX7_isEmpty 11 = .ok (.iconst 0, 1) := by decide +kernel
theorem dX7_isEmpty_12 : decode cX7_isEmpty 12 = .ok (.ireturn, 1) := by decide +kernel
theorem dX8_init_0 : decode cX8_init 0 = .ok (.aload_n 0, 1) := by decide +kernel
theorem dX8_init_1 : decode cX8_init 1 = .ok (.invokespecial 3, 3) := by decide +kernel
theorem dX8_init_4 : decode cX8_init 4 = .ok (.aload_n 0, 1) := by decide +kernel
theorem dX8_init_5 : decode cX8_init 5 = .ok (.iconst 1, 1) := by decide +kernel
theorem dX8_init_6 : decode cX8_init 6 = .ok (.putfield 9, 3) := by decide +kernel
theorem dX8_init_9 : decode cX8_init 9 = .ok (.aload_n 0, 1) := by decide +kernel
theorem dX8_init_10 : decode cX8_init 10 = .ok (.iconst 1, 1) := by decide +kernel
theorem dX8_init_11 : decode cX8_init 11 = .ok (.putfield 15, 3) := by decide +kernel
theorem dX8_init_14 : decode cX8_init 14 = .ok (.aload_n 0, 1) := by decide +kernel
theorem dX8_init_15 : decode cX8_init 15 = .ok (.bipush 8, 2) := by decide +kernel
theorem dX8_init_17 : decode cX8_init 17 = .ok (.newarray .int, 2) := by decide +kernel
theorem dX8_init_19 : decode cX8_init 19 = .ok (.putfield 18, 3) := by decide +kernel
theorem dX8_init_22 : decode cX8_init 22 = .ok (.aload_n 0, 1) := by decide +kernel
theorem dX8_init_23 : decode cX8_init 23 = .ok (.bipush 8, 2) := by decide +kernel
theorem dX8_init_25 : decode cX8_init 25 = .ok (.newarray .int, 2) := by decide +kernel
theorem dX8_init_27 : decode cX8_init 27 = .ok (.putfield 22, 3) := by decide +kernel
theorem dX8_init_30 : decode cX8_init 30 = .ok (.aload_n 0, 1) := by decide +kernel
theorem dX8_init_31 : decode cX8_init 31 = .ok (.bipush 8, 2) := by decide +kernel
theorem dX8_init_33 : decode cX8_init 33 = .ok (.newarray .int, 2) := by decide +kernel
theorem dX8_init_35 : decode cX8_init 35 = .ok (.putfield 25, 3) := by decide +kernel
theorem dX8_init_38 : decode cX8_init 38 = .ok (.aload_n 0, 1) := by decide +kernel
theorem dX8_init_39 : decode cX8_init 39 = .ok (.bipush 8, 2) := by decide +kernel
theorem dX8_init_41 : decode cX8_init 41 = .ok (.newarray .int, 2) := by decide +kernel
theorem dX8_init_43 : decode cX8_init 43 = .ok (.putfield 28, 3) := by decide +kernel
theorem dX8_init_46 : decode cX8_init 46 = .ok (.aload_n 0, 1) := by decide +kernel
theorem dX8_init_47 : decode cX8_init 47 = .ok (.iconst 4, 1) := by decide +kernel
theorem dX8_init_48 : decode cX8_init 48 = .ok (.newarray .int, 2) := by decide +kernel
theorem dX8_init_50 : decode cX8_init 50 = .ok (.putfield 31, 3) := by decide +kernel
theorem dX8_init_53 : decode cX8_init 53 = .ok (.aload_n 0, 1) := by decide +kernel
theorem dX8_init_54 : decode cX8_init 54 = .ok (.iconst 4, 1) := by decide +kernel
theorem dX8_init_55 : decode cX8_init 55 = .ok (.newarray .int, 2) := by decide +kernel
theorem dX8_init_57 : decode cX8_init 57 = .ok (.putfield 34, 3) := by decide +kernel
theorem dX8_init_60 : decode cX8_init 60 = .ok (.aload_n 0, 1) := by decide +kernel
theorem dX8_init_61 : decode cX8_init 61 = .ok (.new 37, 3) := by decide +kernel
theorem dX8_init_64 : decode cX8_init 64 = .ok (.dup, 1) := by decide +kernel
theorem dX8_init_65 : decode cX8_init 65 = .ok (.invokespecial 39, 3) := by decide +kernel
theorem dX8_init_68 : decode cX8_init 68 = .ok (.putfield 40, 3) := by decide +kernel
theorem dX8_init_71 : decode cX8_init 71 = .ok (.return_, 1) := by decide +kernel
theorem dX8_lay_0 : decode cX8_lay 0 = .ok (.aload_n 0, 1) := by decide +kernel
theorem dX8_lay_1 : decode cX8_lay 1 = .ok (.iload_n 1, 1) := by decide +kernel
theorem dX8_lay_2 : decode cX8_lay 2 = .ok (.putfield 9, 3) := by decide +kernel
theorem dX8_lay_5 : decode cX8_lay 5 = .ok (.aload_n 0, 1) := by decide +kernel
theorem dX8_lay_6 : decode cX8_lay 6 = .ok (.iload_n 2, 1) := by decide +kernel
theorem dX8_lay_7 : decode cX8_lay 7 = .ok (.putfield 15, 3) := by decide +kernel
theorem dX8_lay_10 : decode cX8_lay 10 = .ok (.aload_n 0, 1) := by decide +kernel
theorem dX8_lay_11 : decode cX8_lay 11 = .ok (.iconst 0, 1) := by decide +kernel
theorem dX8_lay_12 : decode cX8_lay 12 = .ok (.putfield 44, 3) := by decide +kernel
theorem dX8_lay_15 : decode cX8_lay 15 = .ok (.aload_n 0, 1) := by decide +kernel
theorem dX8_lay_16 : decode cX8_lay 16 = .ok (.iconst 0, 1) := by decide +kernel
theorem dX8_lay_17 : decode cX8_lay 17 = .ok (.putfield 47, 3) := by decide +kernel
theorem dX8_lay_20 : decode cX8_lay 20 = .ok (.aload_n 0, 1) := by decide +kernel
theorem dX8_lay_21 : decode cX8_lay 21 = .ok (.iconst 0, 1) := by decide +kernel
theorem dX8_lay_22 : decode cX8_lay 22 = .ok (.putfield 50, 3) := by decide +kernel
theorem dX8_lay_25 : decode cX8_lay 25 = .ok (.return_, 1) := by decide +kernel
theorem dX8_isThing_0 : decode cX8_isThing 0 = .ok (.iload_n 1, 1) := by decide +kernel
theorem dX8_isThing_1 : decode cX8_isThing 1 = .ok (.ifCond .lt 15, 3) := by decide +kernel
theorem dX8_isThing_4 : decode cX8_isThing 4 = .ok (.iload_n 1, 1) := by decide +kernel
theorem dX8_isThing_5 : decode cX8_isThing 5 = .ok (.aload_n 0, 1) := by decide +kernel
theorem dX8_isThing_6 : decode cX8_isThing 6 = .ok (.getfield 44, 3) := by decide +kernel
theorem dX8_isThing_9 : decode cX8_isThing 9 = .ok (.if_icmp .ge 7, 3) := by decide +kernel
theorem dX8_isThing_12 : decode cX8_isThing 12 = .ok (.iconst 1, 1) := by decide +kernel
theorem dX8_isThing_13 : decode cX8_isThing 13 = .ok (.goto 4, 3) := by decide +kernel
theorem dX8_isThing_16 : decode cX8_isThing 16 = .ok (.iconst 0, 1) := by decide +kernel
theorem dX8_isThing_17 : decode cX8_isThing 17 = .ok (.ireturn, 1) := by decide +kernel
theorem dX8_isPane_0 : decode cX8_isPane 0 = .ok (.iload_n 1, 1) := by decide +kernel
theorem dX8_isPane_1 : decode cX8_isPane 1 = .ok (.ifCond .lt 15, 3) := by decide +kernel
theorem dX8_isPane_4 : decode cX8_isPane 4 = .ok (.iload_n 1, 1) := by decide +kernel
theorem dX8_isPane_5 : decode cX8_isPane 5 = .ok (.aload_n 0, 1) := by decide +kernel
theorem dX8_isPane_6 : decode cX8_isPane 6 = .ok (.getfield 47, 3) := by decide +kernel
theorem dX8_isPane_9 : decode cX8_isPane 9 = .ok (.if_icmp .ge 7, 3) := by decide +kernel
theorem dX8_isPane_12 : decode cX8_isPane 12 = .ok (.iconst 1, 1) := by decide +kernel
theorem dX8_isPane_13 : decode cX8_isPane 13 = .ok (.goto 4, 3) := by decide +kernel
theorem dX8_isPane_16 : decode cX8_isPane 16 = .ok (.iconst 0, 1) := by decide +kernel
theorem dX8_isPane_17 : decode cX8_isPane 17 = .ok (.ireturn, 1) := by decide +kernel
theorem dX8_isRoom_0 : decode cX8_isRoom 0 = .ok (.iload_n 1, 1) := by decide +kernel
theorem dX8_isRoom_1 : decode cX8_isRoom 1 = .ok (.ifCond .lt 15, 3) := by decide +kernel
theorem dX8_isRoom_4 : decode cX8_isRoom 4 = .ok (.iload_n 1, 1) := by decide +kernel
theorem dX8_isRoom_5 : decode cX8_isRoom 5 = .ok (.aload_n 0, 1) := by decide +kernel
theorem dX8_isRoom_6 : decode cX8_isRoom 6 = .ok (.getfield 50, 3) := by decide +kernel
theorem dX8_isRoom_9 : decode cX8_isRoom 9 = .ok (.if_icmp .ge 7, 3) := by decide +kernel
theorem dX8_isRoom_12 : decode cX8_isRoom 12 = .ok (.iconst 1, 1) := by decide +kernel
theorem dX8_isRoom_13 : decode cX8_isRoom 13 = .ok (.goto 4, 3) := by decide +kernel
theorem dX8_isRoom_16 : decode cX8_isRoom 16 = .ok (.iconst 0, 1) := by decide +kernel
theorem dX8_isRoom_17 : decode cX8_isRoom 17 = .ok (.ireturn, 1) := by decide +kernel
theorem dX8_isField_0 : decode cX8_isField 0 = .ok (.iload_n 1, 1) := by decide +kernel
theorem dX8_isField_1 : decode cX8_isField 1 = .ok (.ifCond .lt 15, 3) := by decide +kernel
theorem dX8_isField_4 : decode cX8_isField 4 = .ok (.iload_n 1, 1) := by decide +kernel
theorem dX8_isField_5 : decode cX8_isField 5 = .ok (.aload_n 0, 1) := by decide +kernel
theorem dX8_isField_6 : decode cX8_isField 6 = .ok (.invokevirtual 53, 3) := by decide +kernel
theorem dX8_isField_9 : decode cX8_isField 9 = .ok (.if_icmp .ge 7, 3) := by decide +kernel
theorem dX8_isField_12 : decode cX8_isField 12 = .ok (.iconst 1, 1) := by decide +kernel
theorem dX8_isField_13 : decode cX8_isField 13 = .ok (.goto 4, 3) := by decide +kernel
theorem dX8_isField_16 : decode cX8_isField 16 = .ok (.iconst 0, 1) := by decide +kernel
theorem dX8_isField_17 : decode cX8_isField 17 = .ok (.ireturn, 1) := by decide +kernel
theorem dX8_areThings_0 : decode cX8_areThings 0 = .ok (.iload_n 1, 1) := by decide +kernel
theorem dX8_areThings_1 : decode cX8_areThings 1 = .ok (.aload_n 0, 1) := by decide +kernel
theorem dX8_areThings_2 : decode cX8_areThings 2 = .ok (.invokevirtual 57, 3) := by decide +kernel
theorem dX8_areThings_5 : decode cX8_areThings 5 = .ok (.iconst (-1), 1) := by decide +kernel
theorem dX8_areThings_6 : decode cX8_areThings 6 = .ok (.ixor, 1) := by decide +kernel
theorem dX8_areThings_7 : decode cX8_areThings 7 = .ok (.iand, 1) := by decide +kernel
theorem dX8_areThings_8 : decode cX8_areThings 8 = .ok (.ifCond .ne 7, 3) := by decide +kernel
theorem dX8_areThings_11 : decode cX8_areThings 11 = .ok (.iconst 1, 1) := by decide +kernel
theorem dX8_areThings_12 : decode cX8_areThings 12 = .ok (.goto 4, 3) := by decide +kernel
theorem dX8_areThings_15 : decode cX8_areThings 15 = .ok (.iconst 0, 1) := by decide +kernel
theorem dX8_areThings_16 : decode cX8_areThings 16 = .ok (.ireturn, 1) := by decide +kernel
theorem dX8_fields_0 : decode cX8_fields 0 = .ok (.aload_n 0, 1) := by decide +kernel
theorem dX8_fields_1 : decode cX8_fields 1 = .ok (.getfield 9, 3) := by decide +kernel
theorem dX8_fields_4 : decode cX8_fields 4 = .ok (.aload_n 0, 1) := by decide +kernel
theorem dX8_fields_5 : decode cX8_fields 5 = .ok (.getfield 15, 3) := by decide +kernel
theorem dX8_fields_8 : decode cX8_fields 8 = .ok (.imul, 1) := by decide +kernel
theorem dX8_fields_9 : decode cX8_fields 9 = .ok (.ireturn, 1) := by decide +kernel
theorem dX8_allThings_0 : decode cX8_allThings 0 = .ok (.aload_n 0, 1) := by decide +kernel
theorem dX8_allThings_1 : decode cX8_allThings 1 = .ok (.getfield 44, 3) := by decide +kernel
theorem dX8_allThings_4 : decode cX8_allThings 4 = .ok (.invokestatic 60, 3) := by decide +kernel
theorem dX8_allThings_7 : decode cX8_allThings 7 = .ok (.ireturn, 1) := by decide +kernel
theorem dX8_readThings_0 : decode cX8_readThings 0 = .ok (.aload_n 0, 1) := by decide +kernel
theorem dX8_readThings_1 : decode cX8_readThings 1 = .ok (.getfield 44, 3) := by decide +kernel
theorem dX8_readThings_4 : decode cX8_readThings 4 = .ok (.istore_n 3, 1) := by decide +kernel
theorem dX8_readThings_5 : decode cX8_readThings 5 = .ok (.iconst 1, 1) := by decide +kernel
theorem dX8_readThings_6 : decode cX8_readThings 6 = .ok (.istore 4, 2) := by decide +kernel
theorem dX8_readThings_8 : decode cX8_readThings 8 = .ok (.iload 4, 2) := by decide +kernel
theorem dX8_readThings_10 : decode cX8_readThings 10 = .ok (.ifCond .eq 68, 3) := by decide +kernel
theorem dX8_readThings_13 : decode cX8_readThings 13 = .ok (.iload_n 3, 1) := by decide +kernel
theorem dX8_readThings_14 : decode cX8_readThings 14 = .ok (.bipush 8, 2) := by decide +kernel
theorem dX8_readThings_16 : decode cX8_readThings 16 = .ok (.if_icmp .ge 62, 3) := by decide +kernel
theorem dX8_readThings_19 : decode cX8_readThings 19 = .ok (.aload_n 0, 1) := by decide +kernel
theorem dX8_readThings_20 : decode cX8_readThings 20 = .ok (.getfield 18, 3) := by decide +kernel
theorem dX8_readThings_23 : decode cX8_readThings 23 = .ok (.iload_n 3, 1) := by decide +kernel
theorem dX8_readThings_24 : decode cX8_readThings 24 = .ok (.aload_n 1, 1) := by decide +kernel
theorem dX8_readThings_25 : decode cX8_readThings 25 = .ok (.bipush 97, 2) := by decide +kernel
theorem dX8_readThings_27 : decode cX8_readThings 27 = .ok (.bipush 8, 2) := by decide +kernel
theorem dX8_readThings_29 : decode cX8_readThings 29 = .ok (.invokevirtual 64, 3) := by decide +kernel
theorem dX8_readThings_32 : decode cX8_readThings 32 = .ok (.iastore, 1) := by decide +kernel
theorem dX8_readThings_33 : decode cX8_readThings 33 = .ok (.aload_n 0, 1) := by decide +kernel
theorem dX8_readThings_34 : decode cX8_readThings 34 = .ok (.getfield 22, 3) := by decide +kernel
theorem dX8_readThings_37 : decode cX8_readThings 37 = .ok (.iload_n 3, 1) := by decide +kernel
theorem dX8_readThings_38 : decode cX8_readThings 38 = .ok (.aload_n 1, 1) := by decide +kernel
theorem dX8_readThings_39 : decode cX8_readThings 39 = .ok (.bipush 10, 2) := by decide +kernel
theorem dX8_readThings_41 : decode cX8_readThings 41 = .ok (.invokevirtual 70, 3) := by decide +kernel
theorem dX8_readThings_44 : decode cX8_readThings 44 = .ok (.iastore, 1) := by decide +kernel
theorem dX8_readThings_45 : decode cX8_readThings 45 = .ok (.aload_n 2, 1) := by decide +kernel
theorem dX8_readThings_46 : decode cX8_readThings 46 = .ok (.getfield 73, 3) := by decide +kernel
theorem dX8_readThings_49 : decode cX8_readThings 49 = .ok (.iload_n 3, 1) := by decide +kernel
theorem dX8_readThings_50 : decode cX8_readThings 50 = .ok (.aload_n 0, 1) := by decide +kernel
theorem dX8_readThings_51 : decode cX8_readThings 51 = .ok (.aload_n 1, 1) := by decide +kernel
theorem dX8_readThings_52 : decode cX8_readThings 52 = .ok (.invokevirtual 78, 3) := by decide +kernel
theorem dX8_readThings_55 : decode cX8_readThings 55 = .ok (.iastore, 1) := by decide +kernel
theorem dX8_readThings_56 : decode cX8_readThings 56 = .ok (.aload_n 2, 1) := by decide +kernel
theorem dX8_readThings_57 : decode cX8_readThings 57 = .ok (.getfield 82, 3) := by decide +kernel
theorem dX8_readThings_60 : decode cX8_readThings 60 = .ok (.iload_n 3, 1) := by decide +kernel
theorem dX8_readThings_61 : decode cX8_readThings 61 = .ok (.aload_n 1, 1) := by decide +kernel
theorem dX8_readThings_62 : decode cX8_readThings 62 = .ok (.invokevirtual 85, 3) := by decide +kernel
theorem dX8_readThings_65 : decode cX8_readThings 65 = .ok (.iastore, 1) := by decide +kernel
theorem dX8_readThings_66 : decode cX8_readThings 66 = .ok (.aload_n 1, 1) := by decide +kernel
theorem dX8_readThings_67 : decode cX8_readThings 67 = .ok (.invokevirtual 87, 3) := by decide +kernel
theorem dX8_readThings_70 : decode cX8_readThings 70 = .ok (.istore 4, 2) := by decide +kernel
theorem dX8_readThings_72 : decode cX8_readThings 72 = .ok (.iinc 3 1, 3) := by decide +kernel
theorem dX8_readThings_75 : decode cX8_readThings 75 = .ok (.goto (-67), 3) := by decide +kernel
theorem dX8_readThings_78 : decode cX8_readThings 78 = .ok (.aload_n 1, 1) := by decide +kernel
theorem dX8_readThings_79 : decode cX8_readThings 79 = .ok (.iload 4, 2) := by decide +kernel
theorem dX8_readThings_81 : decode cX8_readThings 81 = .ok (.ifCond .ne 7, 3) := by decide +kernel
theorem dX8_readThings_84 : decode cX8_readThings 84 = .ok (.iconst 1, 1) := by decide +kernel
theorem dX8_readThings_85 : decode cX8_readThings 85 = .ok (.goto 4, 3) := by decide +kernel
theorem dX8_readThings_88 : decode cX8_readThings 88 = .ok (.iconst 0, 1) := by decide +kernel
theorem dX8_readThings_89 : decode cX8_readThings 89 = .ok (.invokevirtual 91, 3) := by decide +kernel
theorem dX8_readThings_92 : decode cX8_readThings 92 = .ok (.pop, 1) := by decide +kernel
theorem dX8_readThings_93 : decode cX8_readThings 93 = .ok (.aload_n 1, 1) := by decide +kernel
theorem dX8_readThings_94 : decode cX8_readThings 94 = .ok (.iload_n 3, 1) := by decide +kernel
theorem dX8_readThings_95 : decode cX8_readThings 95 = .ok (.aload_n 0, 1) := by decide +kernel
theorem dX8_readThings_96 : decode cX8_readThings 96 = .ok (.getfield 44, 3) := by decide +kernel
theorem dX8_readThings_99 : decode cX8_readThings 99 = .ok (.isub, 1) := by decide +kernel
theorem dX8_readThings_100 : decode cX8_readThings 100 = .ok (.invokevirtual 95, 3) := by decide +kernel
theorem dX8_readThings_103 : decode cX8_readThings 103 = .ok (.istore 5, 2) := by decide +kernel
theorem dX8_readThings_105 : decode cX8_readThings 105 = .ok (.aload_n 0, 1) := by decide +kernel
theorem dX8_readThings_106 : decode cX8_readThings 106 = .ok (.dup, 1) := by decide +kernel
theorem dX8_readThings_107 : decode cX8_readThings 107 = .ok (.getfield 44, 3) := by decide +kernel
theorem dX8_readThings_110 : decode cX8_readThings 110 = .ok (.iconst 0, 1) := by decide +kernel
theorem dX8_readThings_111 : decode cX8_readThings 111 = .ok (.iload 5, 2) := by decide +kernel
theorem dX8_readThings_113 : decode cX8_readThings 113 = .ok (.invokestatic 98, 3) := by decide +kernel
theorem dX8_readThings_116 : decode cX8_readThings 116 = .ok (.iadd, 1) := by decide +kernel
theorem dX8_readThings_117 : decode cX8_readThings 117 = .ok (.putfield 44, 3) := by decide +kernel
theorem dX8_readThings_120 : decode cX8_readThings 120 = .ok (.iload 5, 2) := by decide +kernel
theorem dX8_readThings_122 : decode cX8_readThings 122 = .ok (.ireturn, 1) := by decide +kernel
theorem dX8_readPanes_0 : decode cX8_readPanes 0 = .ok (.aload_n 0, 1) := by decide +kernel
theorem dX8_readPanes_1 : decode cX8_readPanes 1 = .ok (.getfield 47, 3) := by decide +kernel
theorem dX8_readPanes_4 : decode cX8_readPanes 4 = .ok (.istore_n 3, 1) := by decide +kernel
theorem dX8_readPanes_5 : decode cX8_readPanes 5 = .ok (.iconst 1, 1) := by decide +kernel
theorem dX8_readPanes_6 : decode cX8_readPanes 6 = .ok (.istore 4, 2) := by decide +kernel
theorem dX8_readPanes_8 : decode cX8_readPanes 8 = .ok (.iload 4, 2) := by decide +kernel
theorem dX8_readPanes_10 : decode cX8_readPanes 10 = .ok (.ifCond .eq 50, 3) := by decide +kernel
theorem dX8_readPanes_13 : decode cX8_readPanes 13 = .ok (.iload_n 3, 1) := by decide +kernel
theorem dX8_readPanes_14 : decode cX8_readPanes 14 = .ok (.bipush 8, 2) := by decide +kernel
theorem dX8_readPanes_16 : decode cX8_readPanes 16 = .ok (.if_icmp .ge 44, 3) := by decide +kernel
theorem dX8_readPanes_19 : decode cX8_readPanes 19 = .ok (.aload_n 0, 1) := by decide +kernel
theorem dX8_readPanes_20 : decode cX8_readPanes 20 = .ok (.getfield 25, 3) := by decide +kernel
theorem dX8_readPanes_23 : decode cX8_readPanes 23 = .ok (.iload_n 3, 1) := by decide +kernel
theorem dX8_readPanes_24 : decode cX8_readPanes 24 = .ok (.aload_n 1, 1) := by decide +kernel
theorem dX8_readPanes_25 : decode cX8_readPanes 25 = .ok (.bipush 10, 2) := by decide +kernel
theorem dX8_readPanes_27 : decode cX8_readPanes 27 = .ok (.invokevirtual 70, 3) := by decide +kernel
theorem dX8_readPanes_30 : decode cX8_readPanes 30 = .ok (.iastore, 1) := by decide +kernel
theorem dX8_readPanes_31 : decode cX8_readPanes 31 = .ok (.aload_n 0, 1) := by decide +kernel
theorem dX8_readPanes_32 : decode cX8_readPanes 32 = .ok (.getfield 28, 3) := by decide +kernel
theorem dX8_readPanes_35 : decode cX8_readPanes 35 = .ok (.iload_n 3, 1) := by decide +kernel
theorem dX8_readPanes_36 : decode cX8_readPanes 36 = .ok (.aload_n 1, 1) := by decide +kernel
theorem dX8_readPanes_37 : decode cX8_readPanes 37 = .ok (.invokevirtual 103, 3) := by decide +kernel
theorem dX8_readPanes_40 : decode cX8_readPanes 40 = .ok (.iastore, 1) := by decide +kernel
theorem dX8_readPanes_41 : decode cX8_readPanes 41 = .ok (.aload_n 2, 1) := by decide +kernel
theorem dX8_readPanes_42 : decode cX8_readPanes 42 = .ok (.getfield 106, 3) := by decide +kernel
theorem dX8_readPanes_45 : decode cX8_readPanes 45 = .ok (.iload_n 3, 1) := by decide +kernel
theorem dX8_readPanes_46 : decode cX8_readPanes 46 = .ok (.iconst (-1), 1) := by decide +kernel
theorem dX8_readPanes_47 : decode cX8_readPanes 47 = .ok (.iastore, 1) := by decide +kernel
theorem dX8_readPanes_48 : decode cX8_readPanes 48 = .ok (.aload_n 1, 1) := by decide +kernel
theorem dX8_readPanes_49 : decode cX8_readPanes 49 = .ok (.invokevirtual 87, 3) := by decide +kernel
theorem dX8_readPanes_52 : decode cX8_readPanes 52 = .ok (.istore 4, 2) := by decide +kernel
theorem dX8_readPanes_54 : decode cX8_readPanes 54 = .ok (.iinc 3 1, 3) := by decide +kernel
theorem dX8_readPanes_57 : decode cX8_readPanes 57 = .ok (.goto (-49), 3) := by decide +kernel
theorem dX8_readPanes_60 : decode cX8_readPanes 60 = .ok (.aload_n 1, 1) := by decide +kernel
theorem dX8_readPanes_61 : decode cX8_readPanes 61 = .ok (.iload 4, 2) := by decide +kernel
theorem dX8_readPanes_63 : decode cX8_readPanes 63 = .ok (.ifCond .ne 7, 3) := by decide +kernel
theorem dX8_readPanes_66 : decode cX8_readPanes 66 = .ok (.iconst 1, 1) := by decide +kernel
theorem dX8_readPanes_67 : decode cX8_readPanes 67 = .ok (.goto 4, 3) := by decide +kernel
theorem dX8_readPanes_70 : decode cX8_readPanes 70 = .ok (.iconst 0, 1) := by decide +kernel
theorem dX8_readPanes_71 : decode cX8_readPanes 71 = .ok (.invokevirtual 91, 3) := by decide +kernel
theorem dX8_readPanes_74 : decode cX8_readPanes 74 = .ok (.pop, 1) := by decide +kernel
theorem dX8_readPanes_75 : decode cX8_readPanes 75 = .ok (.aload_n 1, 1) := by decide +kernel
theorem dX8_readPanes_76 : decode cX8_readPanes 76 = .ok (.iload_n 3, 1) := by decide +kernel
theorem dX8_readPanes_77 : decode cX8_readPanes 77 = .ok (.aload_n 0, 1) := by decide +kernel
theorem dX8_readPanes_78 : decode cX8_readPanes 78 = .ok (.getfield 47, 3) := by decide +kernel
theorem dX8_readPanes_81 : decode cX8_readPanes 81 = .ok (.isub, 1) := by decide +kernel
theorem dX8_readPanes_82 : decode cX8_readPanes 82 = .ok (.invokevirtual 95, 3) := by decide +kernel
theorem dX8_readPanes_85 : decode cX8_readPanes 85 = .ok (.istore 5, 2) := by decide +kernel
theorem dX8_readPanes_87 : decode cX8_readPanes 87 = .ok (.aload_n 0, 1) := by decide +kernel
theorem dX8_readPanes_88 : decode cX8_readPanes 88 = .ok (.dup, 1) := by decide +kernel
theorem dX8_readPanes_89 : decode cX8_readPanes 89 = .ok (.getfield 47, 3) := by decide +kernel
theorem dX8_readPanes_92 : decode cX8_readPanes 92 = .ok (.iconst 0, 1) := by decide +kernel
theorem dX8_readPanes_93 : decode cX8_readPanes 93 = .ok (.iload 5, 2) := by decide +kernel
theorem dX8_readPanes_95 : decode cX8_readPanes 95 = .ok (.invokestatic 98, 3) := by decide +kernel
theorem dX8_readPanes_98 : decode cX8_readPanes 98 = .ok (.iadd, 1) := by decide +kernel
theorem dX8_readPanes_99 : decode cX8_readPanes 99 = .ok (.putfield 47, 3) := by decide +kernel
theorem dX8_readPanes_102 : decode cX8_readPanes 102 = .ok (.iload 5, 2) := by decide +kernel
theorem dX8_readPanes_104 : decode cX8_readPanes 104 = .ok (.ireturn, 1) := by decide +kernel
theorem dX8_readRooms_0 : decode cX8_readRooms 0 = .ok (.aload_n 0, 1) := by decide +kernel
theorem dX8_readRooms_1 : decode cX8_readRooms 1 = .ok (.getfield 50, 3) := by decide +kernel
theorem dX8_readRooms_4 : decode cX8_readRooms 4 = .ok (.istore_n 2, 1) := by decide +kernel
theorem dX8_readRooms_5 : decode cX8_readRooms 5 = .ok (.iconst 1, 1) := by decide +kernel
theorem dX8_readRooms_6 : decode cX8_readRooms 6 = .ok (.istore_n 3, 1) := by decide +kernel
theorem dX8_readRooms_7 : decode cX8_readRooms 7 = .ok (.iload_n 3, 1) := by decide +kernel
theorem dX8_readRooms_8 : decode cX8_readRooms 8 = .ok (.ifCond .eq 42, 3) := by decide +kernel
theorem dX8_readRooms_11 : decode cX8_readRooms 11 = .ok (.iload_n 2, 1) := by decide +kernel
theorem dX8_readRooms_12 : decode cX8_readRooms 12 = .ok (.iconst 4, 1) := by decide +kernel
theorem dX8_readRooms_13 : decode cX8_readRooms 13 = .ok (.if_icmp .ge 37, 3) := by decide +kernel
theorem dX8_readRooms_16 : decode cX8_readRooms 16 = .ok (.aload_n 0, 1) := by decide +kernel
theorem dX8_readRooms_17 : decode cX8_readRooms 17 = .ok (.getfield 31, 3) := by decide +kernel
theorem dX8_readRooms_20 : decode cX8_readRooms 20 = .ok (.iload_n 2, 1) := by decide +kernel
theorem dX8_readRooms_21 : decode cX8_readRooms 21 = .ok (.aload_n 0, 1) := by decide +kernel
theorem dX8_readRooms_22 : decode cX8_readRooms 22 = .ok (.aload_n 1, 1) := by decide +kernel
theorem dX8_readRooms_23 : decode cX8_readRooms 23 = .ok (.invokevirtual 78, 3) := by decide +kernel
theorem dX8_readRooms_26 : decode cX8_readRooms 26 = .ok (.iastore, 1) := by decide +kernel
theorem dX8_readRooms_27 : decode cX8_readRooms 27 = .ok (.aload_n 0, 1) := by decide +kernel
theorem dX8_readRooms_28 : decode cX8_readRooms 28 = .ok (.getfield 34, 3) := by decide +kernel
theorem dX8_readRooms_31 : decode cX8_readRooms 31 = .ok (.iload_n 2, 1) := by decide +kernel
theorem dX8_readRooms_32 : decode cX8_readRooms 32 = .ok (.aload_n 1, 1) := by decide +kernel
theorem dX8_readRooms_33 : decode cX8_readRooms 33 = .ok (.bipush 10, 2) := by decide +kernel
theorem dX8_readRooms_35 : decode cX8_readRooms 35 = .ok (.invokevirtual 70, 3) := by decide +kernel
theorem dX8_readRooms_38 : decode cX8_readRooms 38 = .ok (.iastore, 1) := by decide +kernel
theorem dX8_readRooms_39 : decode cX8_readRooms 39 = .ok (.aload_n 1, 1) := by decide +kernel
theorem dX8_readRooms_40 : decode cX8_readRooms 40 = .ok (.invokevirtual 87, 3) := by decide +kernel
theorem dX8_readRooms_43 : decode cX8_readRooms 43 = .ok (.istore_n 3, 1) := by decide +kernel
theorem dX8_readRooms_44 : decode cX8_readRooms 44 = .ok (.iinc 2 1, 3) := by decide +kernel
theorem dX8_readRooms_47 : decode cX8_readRooms 47 = .ok (.goto (-40), 3) := by decide +kernel
theorem dX8_readRooms_50 : decode cX8_readRooms 50 = .ok (.aload_n 1, 1) := by decide +kernel
theorem dX8_readRooms_51 : decode cX8_readRooms 51 = .ok (.iload_n 3, 1) := by decide +kernel
theorem dX8_readRooms_52 : decode cX8_readRooms 52 = .ok (.ifCond .ne 7, 3) := by decide +kernel
theorem dX8_readRooms_55 : decode cX8_readRooms 55 = .ok (.iconst 1, 1) := by decide +kernel
theorem dX8_readRooms_56 : decode cX8_readRooms 56 = .ok (.goto 4, 3) := by decide +kernel
theorem dX8_readRooms_59 : decode cX8_readRooms 59 = .ok (.iconst 0, 1) := by decide +kernel
theorem dX8_readRooms_60 : decode cX8_readRooms 60 = .ok (.invokevirtual 91, 3) := by decide +kernel
theorem dX8_readRooms_63 : decode cX8_readRooms 63 = .ok (.pop, 1) := by decide +kernel
theorem dX8_readRooms_64 : decode cX8_readRooms 64 = .ok (.aload_n 1, 1) := by decide +kernel
theorem dX8_readRooms_65 : decode cX8_readRooms 65 = .ok (.iload_n 2, 1) := by decide +kernel
theorem dX8_readRooms_66 : decode cX8_readRooms 66 = .ok (.aload_n 0, 1) := by decide +kernel
theorem dX8_readRooms_67 : decode cX8_readRooms 67 = .ok (.getfield 50, 3) := by decide +kernel
theorem dX8_readRooms_70 : decode cX8_readRooms 70 = .ok (.isub, 1) := by decide +kernel
theorem dX8_readRooms_71 : decode cX8_readRooms 71 = .ok (.invokevirtual 95, 3) := by decide +kernel
theorem dX8_readRooms_74 : decode cX8_readRooms 74 = .ok (.istore 4, 2) := by decide +kernel
theorem dX8_readRooms_76 : decode cX8_readRooms 76 = .ok (.aload_n 0, 1) := by decide +kernel
theorem dX8_readRooms_77 : decode cX8_readRooms 77 = .ok (.dup, 1) := by decide +kernel
theorem dX8_readRooms_78 : decode cX8_readRooms 78 = .ok (.getfield 50, 3) := by decide +kernel
theorem dX8_readRooms_81 : decode cX8_readRooms 81 = .ok (.iconst 0, 1) := by decide +kernel
theorem dX8_readRooms_82 : decode cX8_readRooms 82 = .ok (.iload 4, 2) := by decide +kernel
theorem dX8_readRooms_84 : decode cX8_readRooms 84 = .ok (.invokestatic 98, 3) := by decide +kernel
theorem dX8_readRooms_87 : decode cX8_readRooms 87 = .ok (.iadd, 1) := by decide +kernel
theorem dX8_readRooms_88 : decode cX8_readRooms 88 = .ok (.putfield 50, 3) := by decide +kernel
theorem dX8_readRooms_91 : decode cX8_readRooms 91 = .ok (.iload 4, 2) := by decide +kernel
theorem dX8_readRooms_93 : decode cX8_readRooms 93 = .ok (.ireturn, 1) := by decide +kernel
theorem dX8_readField_0 : decode cX8_readField 0 = .ok (.aload_n 1, 1) := by decide +kernel
theorem dX8_readField_1 : decode cX8_readField 1 = .ok (.aload_n 0, 1) := by decide +kernel
theorem dX8_readField_2 : decode cX8_readField 2 = .ok (.getfield 9, 3) := by decide +kernel
theorem dX8_readField_5 : decode cX8_readField 5 = .ok (.invokevirtual 70, 3) := by decide +kernel
theorem dX8_readField_8 : decode cX8_readField 8 = .ok (.istore_n 2, 1) := by decide +kernel
theorem dX8_readField_9 : decode cX8_readField 9 = .ok (.iload_n 2, 1) := by decide +kernel
theorem dX8_readField_10 : decode cX8_readField 10 = .ok (.aload_n 0, 1) := by decide +kernel
theorem dX8_readField_11 : decode cX8_readField 11 = .ok (.getfield 15, 3) := by decide +kernel
theorem dX8_readField_14 : decode cX8_readField 14 = .ok (.imul, 1) := by decide +kernel
theorem dX8_readField_15 : decode cX8_readField 15 = .ok (.aload_n 1, 1) := by decide +kernel
theorem dX8_readField_16 : decode cX8_readField 16 = .ok (.aload_n 0, 1) := by decide +kernel
theorem dX8_readField_17 : decode cX8_readField 17 = .ok (.getfield 15, 3) := by decide +kernel
theorem dX8_readField_20 : decode cX8_readField 20 = .ok (.invokevirtual 70, 3) := by decide +kernel
theorem dX8_readField_23 : decode cX8_readField 23 = .ok (.iadd, 1) := by decide +kernel
theorem dX8_readField_24 : decode cX8_readField 24 = .ok (.ireturn, 1) := by decide +kernel
theorem dX8_setShames_0 : decode cX8_setShames 0 = .ok (.iconst 0, 1) := by decide +kernel
theorem dX8_setShames_1 : decode cX8_setShames 1 = .ok (.istore 5, 2) := by decide +kernel
theorem dX8_setShames_3 : decode cX8_setShames 3 = .ok (.iconst 0, 1) := by decide +kernel
theorem dX8_setShames_4 : decode cX8_setShames 4 = .ok (.istore 6, 2) := by decide +kernel
theorem dX8_setShames_6 : decode cX8_setShames 6 = .ok (.iload 6, 2) := by decide +kernel
theorem dX8_setShames_8 : decode cX8_setShames 8 = .ok (.aload_n 0, 1) := by decide +kernel
theorem dX8_setShames_9 : decode cX8_setShames 9 = .ok (.getfield 44, 3) := by decide +kernel
theorem dX8_setShames_12 : decode cX8_setShames 12 = .ok (.if_icmp .ge 49, 3) := by decide +kernel
theorem dX8_setShames_15 : decode cX8_setShames 15 = .ok (.aload_n 0, 1) := by decide +kernel
theorem dX8_setShames_16 : decode cX8_setShames 16 = .ok (.getfield 22, 3) := by decide +kernel
theorem dX8_setShames_19 : decode cX8_setShames 19 = .ok (.iload 6, 2) := by decide +kernel
theorem dX8_setShames_21 : decode cX8_setShames 21 = .ok (.iload 6, 2) := by decide +kernel
theorem dX8_setShames_23 : decode cX8_setShames 23 = .ok (.iload_n 2, 1) := by decide +kernel
theorem dX8_setShames_24 : decode cX8_setShames 24 = .ok (.if_icmp .ge 17, 3) := by decide +kernel
theorem dX8_setShames_27 : decode cX8_setShames 27 = .ok (.iload_n 1, 1) := by decide +kernel
theorem dX8_setShames_28 : decode cX8_setShames 28 = .ok (.iload_n 3, 1) := by decide +kernel
theorem dX8_setShames_29 : decode cX8_setShames 29 = .ok (.iload 6, 2) := by decide +kernel
theorem dX8_setShames_31 : decode cX8_setShames 31 = .ok (.iload 4, 2) := by decide +kernel
theorem dX8_setShames_33 : decode cX8_setShames 33 = .ok (.imul, 1) := by decide +kernel
theorem dX8_setShames_34 : decode cX8_setShames 34 = .ok (.iadd, 1) := by decide +kernel
theorem dX8_setShames_35 : decode cX8_setShames 35 = .ok (.invokestatic 109, 3) := by decide +kernel
theorem dX8_setShames_38 : decode cX8_setShames 38 = .ok (.goto 4, 3) := by decide +kernel
theorem dX8_setShames_41 : decode cX8_setShames 41 = .ok (.iconst 0, 1) := by decide +kernel
theorem dX8_setShames_42 : decode cX8_setShames 42 = .ok (.iastore, 1) := by decide +kernel
theorem dX8_setShames_43 : decode cX8_setShames 43 = .ok (.iload 5, 2) := by decide +kernel
theorem dX8_setShames_45 : decode cX8_setShames 45 = .ok (.aload_n 0, 1) := by decide +kernel
theorem dX8_setShames_46 : decode cX8_setShames 46 = .ok (.getfield 22, 3) := by decide +kernel
theorem dX8_setShames_49 : decode cX8_setShames 49 = .ok (.iload 6, 2) := by decide +kernel
theorem dX8_setShames_51 : decode cX8_setShames 51 = .ok (.iaload, 1) := by decide +kernel
theorem dX8_setShames_52 : decode cX8_setShames 52 = .ok (.iadd, 1) := by decide +kernel
theorem dX8_setShames_53 : decode cX8_setShames 53 = .ok (.istore 5, 2) := by decide +kernel
theorem dX8_setShames_55 : decode cX8_setShames 55 = .ok (.iinc 6 1, 3) := by decide +kernel
theorem dX8_setShames_58 : decode cX8_setShames 58 = .ok (.goto (-52), 3) := by decide +kernel
theorem dX8_setShames_61 : decode cX8_setShames 61 = .ok (.iload 5, 2) := by decide +kernel
theorem dX8_setShames_63 : decode cX8_setShames 63 = .ok (.ireturn, 1) := by decide +kernel
theorem dX8_shameOf_0 : decode cX8_shameOf 0 = .ok (.iload_n 0, 1) := by decide +kernel
theorem dX8_shameOf_1 : decode cX8_shameOf 1 = .ok (.ifCond .ne 8, 3) := by decide +kernel
theorem dX8_shameOf_4 : decode cX8_shameOf 4 = .ok (.iload_n 1, 1) := by decide +kernel
theorem dX8_shameOf_5 : decode cX8_shameOf 5 = .ok (.i2b, 1) := by decide +kernel
theorem dX8_shameOf_6 : decode cX8_shameOf 6 = .ok (.goto 14, 3) := by decide +kernel
theorem dX8_shameOf_9 : decode cX8_shameOf 9 = .ok (.iload_n 0, 1) := by decide +kernel
theorem dX8_shameOf_10 : decode cX8_shameOf 10 = .ok (.iconst 1, 1) := by decide +kernel
theorem dX8_shameOf_11 : decode cX8_shameOf 11 = .ok (.if_icmp .ne 8, 3) := by decide +kernel
theorem dX8_shameOf_14 : decode cX8_shameOf 14 = .ok (.iload_n 1, 1) := by decide +kernel
theorem dX8_shameOf_15 : decode cX8_shameOf 15 = .ok (.i2s, 1) := by decide +kernel
theorem dX8_shameOf_16 : decode cX8_shameOf 16 = .ok (.goto 4, 3) := by decide +kernel
theorem dX8_shameOf_19 : decode cX8_shameOf 19 = .ok (.iload_n 1, 1) := by decide +kernel
theorem dX8_shameOf_20 : decode cX8_shameOf 20 = .ok (.istore_n 2, 1) := by decide +kernel
theorem dX8_shameOf_21 : decode cX8_shameOf 21 = .ok (.iconst 0, 1) := by decide +kernel
theorem dX8_shameOf_22 : decode cX8_shameOf 22 = .ok (.bipush 9, 2) := by decide +kernel
theorem dX8_shameOf_24 : decode cX8_shameOf 24 = .ok (.iload_n 2, 1) := by decide +kernel
theorem dX8_shameOf_25 : decode cX8_shameOf 25 = .ok (.invokestatic 112, 3) := by decide +kernel
theorem dX8_shameOf_28 : decode cX8_shameOf 28 = .ok (.invokestatic 98, 3) := by decide +kernel
theorem dX8_shameOf_31 : decode cX8_shameOf 31 = .ok (.ireturn, 1) := by decide +kernel
theorem dX8_walk_0 : decode cX8_walk 0 = .ok (.iconst 0, 1) := by decide +kernel
theorem dX8_walk_1 : decode cX8_walk 1 = .ok (.istore_n 2, 1) := by decide +kernel
theorem dX8_walk_2 : decode cX8_walk 2 = .ok (.iload_n 2, 1) := by decide +kernel
theorem dX8_walk_3 : decode cX8_walk 3 = .ok (.aload_n 0, 1) := by decide +kernel
theorem dX8_walk_4 : decode cX8_walk 4 = .ok (.getfield 44, 3) := by decide +kernel
theorem dX8_walk_7 : decode cX8_walk 7 = .ok (.if_icmp .ge 60, 3) := by decide +kernel
theorem dX8_walk_10 : decode cX8_walk 10 = .ok (.aload_n 1, 1) := by decide +kernel
theorem dX8_walk_11 : decode cX8_walk 11 = .ok (.getfield 82, 3) := by decide +kernel
theorem dX8_walk_14 : decode cX8_walk 14 = .ok (.iload_n 2, 1) := by decide +kernel
theorem dX8_walk_15 : decode cX8_walk 15 = .ok (.iaload, 1) := by decide +kernel
theorem dX8_walk_16 : decode cX8_walk 16 = .ok (.istore_n 3, 1) := by decide +kernel
theorem dX8_walk_17 : decode cX8_walk 17 = .ok (.aload_n 0, 1) := by decide +kernel
theorem dX8_walk_18 : decode cX8_walk 18 = .ok (.aload_n 1, 1) := by decide +kernel
theorem dX8_walk_19 : decode cX8_walk 19 = .ok (.getfield 73, 3) := by decide +kernel
theorem dX8_walk_22 : decode cX8_walk 22 = .ok (.iload_n 2, 1) := by decide +kernel
theorem dX8_walk_23 : decode cX8_walk 23 = .ok (.iaload, 1) := by decide +kernel
theorem dX8_walk_24 : decode cX8_walk 24 = .ok (.iload_n 3, 1) := by decide +kernel
theorem dX8_walk_25 : decode cX8_walk 25 = .ok (.invokevirtual 115, 3) := by decide +kernel
theorem dX8_walk_28 : decode cX8_walk 28 = .ok (.istore 4, 2) := by decide +kernel
theorem dX8_walk_30 : decode cX8_walk 30 = .ok (.iload 4, 2) := by decide +kernel
theorem dX8_walk_32 : decode cX8_walk 32 = .ok (.iconst (-1), 1) := by decide +kernel
theorem dX8_walk_33 : decode cX8_walk 33 = .ok (.if_icmp .eq 14, 3) := by decide +kernel
theorem dX8_walk_36 : decode cX8_walk 36 = .ok (.aload_n 1, 1) := by decide +kernel
theorem dX8_walk_37 : decode cX8_walk 37 = .ok (.getfield 73, 3) := by decide +kernel
theorem dX8_walk_40 : decode cX8_walk 40 = .ok (.iload_n 2, 1) := by decide +kernel
theorem dX8_walk_41 : decode cX8_walk 41 = .ok (.iload 4, 2) := by decide +kernel
theorem dX8_walk_43 : decode cX8_walk 43 = .ok (.iastore, 1) := by decide +kernel
theorem dX8_walk_44 : decode cX8_walk 44 = .ok (.goto 17, 3) := by decide +kernel
theorem dX8_walk_47 : decode cX8_walk 47 = .ok (.iload_n 3, 1) := by decide +kernel
theorem dX8_walk_48 : decode cX8_walk 48 = .ok (.iconst 4, 1) := by decide +kernel
theorem dX8_walk_49 : decode cX8_walk 49 = .ok (.if_icmp .eq 12, 3) := by decide +kernel
theorem dX8_walk_52 : decode cX8_walk 52 = .ok (.aload_n 1, 1) := by decide +kernel
theorem dX8_walk_53 : decode cX8_walk 53 = .ok (.getfield 82, 3) := by decide +kernel
theorem dX8_walk_56 : decode cX8_walk 56 = .ok (.iload_n 2, 1) := by decide +kernel
theorem dX8_walk_57 : decode cX8_walk 57 = .ok (.iload_n 3, 1) := by decide +kernel
theorem dX8_walk_58 : decode cX8_walk 58 = .ok (.iconst 2, 1) := by decide +kernel
theorem dX8_walk_59 : decode cX8_walk 59 = .ok (.ixor, 1) := by decide +kernel
theorem dX8_walk_60 : decode cX8_walk 60 = .ok (.iastore, 1) := by decide +kernel
theorem dX8_walk_61 : decode cX8_walk 61 = .ok (.iinc 2 1, 3) := by decide +kernel
theorem dX8_walk_64 : decode cX8_walk 64 = .ok (.goto (-62), 3) := by decide +kernel
theorem dX8_walk_67 : decode cX8_walk 67 = .ok (.aload_n 1, 1) := by decide +kernel
theorem dX8_walk_68 : decode cX8_walk 68 = .ok (.dup, 1) := by decide +kernel
theorem dX8_walk_69 : decode cX8_walk 69 = .ok (.getfield 118, 3) := by decide +kernel
theorem dX8_walk_72 : decode cX8_walk 72 = .ok (.iconst 1, 1) := by decide +kernel
theorem dX8_walk_73 : decode cX8_walk 73 = .ok (.iadd, 1) := by decide +kernel
theorem dX8_walk_74 : decode cX8_walk 74 = .ok (.putfield 118, 3) := by decide +kernel
theorem dX8_walk_77 : decode cX8_walk 77 = .ok (.return_, 1) := by decide +kernel
theorem dX8_fieldBeside_0 : decode cX8_fieldBeside 0 = .ok (.aload_n 0, 1) := by decide +kernel
theorem dX8_fieldBeside_1 : decode cX8_fieldBeside 1 = .ok (.iload_n 1, 1) := by decide +kernel
theorem dX8_fieldBeside_2 : decode cX8_fieldBeside 2 = .ok (.invokevirtual 121, 3) := by decide +kernel
theorem dX8_fieldBeside_5 : decode cX8_fieldBeside 5 = .ok (.istore_n 3, 1) := by decide +kernel
theorem dX8_fieldBeside_6 : decode cX8_fieldBeside 6 = .ok (.aload_n 0, 1) := by decide +kernel
theorem dX8_fieldBeside_7 : decode cX8_fieldBeside 7 = .ok (.iload_n 1, 1) := by decide +kernel
theorem dX8_fieldBeside_8 : decode cX8_fieldBeside 8 = .ok (.invokevirtual 124, 3) := by decide +kernel
theorem dX8_fieldBeside_11 : decode cX8_fieldBeside 11 = .ok (.istore 4, 2) := by decide +kernel
theorem dX8_fieldBeside_13 : decode cX8_fieldBeside 13 = .ok (.iload_n 2, 1) := by decide +kernel
theorem dX8_fieldBeside_14 : decode cX8_fieldBeside 14 = .ok (.tableswitch 98 0 3 #[30, 45, 64, 85], 30) := by decide +kernel
theorem dX8_fieldBeside_44 : decode cX8_fieldBeside 44 = .ok (.iload_n 3, 1) := by decide +kernel
theorem dX8_fieldBeside_45 : decode cX8_fieldBeside 45 = .ok (.ifCond .le 12, 3) := by decide +kernel
theorem dX8_fieldBeside_48 : decode cX8_fieldBeside 48 = .ok (.iload_n 1, 1) := by decide +kernel
theorem dX8_fieldBeside_49 : decode cX8_fieldBeside 49 = .ok (.aload_n 0, 1) := by decide +kernel
theorem dX8_fieldBeside_50 : decode cX8_fieldBeside 50 = .ok (.getfield 15, 3) := by decide +kernel
theorem dX8_fieldBeside_53 : decode cX8_fieldBeside 53 = .ok (.isub, 1) := by decide +kernel
theorem dX8_fieldBeside_54 : decode cX8_fieldBeside 54 = .ok (.goto 4, 3) := by decide +kernel
theorem dX8_fieldBeside_57 : decode cX8_fieldBeside 57 = .ok (.iconst (-1), 1) := by decide +kernel
theorem dX8_fieldBeside_58 : decode cX8_fieldBeside 58 = .ok (.ireturn, 1) := by decide +kernel
theorem dX8_fieldBeside_59 : decode cX8_fieldBeside 59 = .ok (.iload 4, 2) := by decide +kernel
theorem dX8_fieldBeside_61 : decode cX8_fieldBeside 61 = .ok (.aload_n 0, 1) := by decide +kernel
theorem dX8_fieldBeside_62 : decode cX8_fieldBeside 62 = .ok (.getfield 15, 3) := by decide +kernel
theorem dX8_fieldBeside_65 : decode cX8_fieldBeside 65 = .ok (.iconst 1, 1) := by decide +kernel
theorem dX8_fieldBeside_66 : decode cX8_fieldBeside 66 = .ok (.isub, 1) := by decide +kernel
theorem dX8_fieldBeside_67 : decode cX8_fieldBeside 67 = .ok (.if_icmp .ge 9, 3) := by decide +kernel
theorem dX8_fieldBeside_70 : decode cX8_fieldBeside 70 = .ok (.iload_n 1, 1) := by decide +kernel
theorem dX8_fieldBeside_71 : decode cX8_fieldBeside 71 = .ok (.iconst 1, 1) := by decide +kernel
theorem dX8_fieldBeside_72 : decode cX8_fieldBeside 72 = .ok (.iadd, 1) := by decide +kernel
theorem dX8_fieldBeside_73 : decode cX8_fieldBeside 73 = .ok (.goto 4, 3) := by decide +kernel
theorem dX8_fieldBeside_76 : decode cX8_fieldBeside 76 = .ok (.iconst (-1), 1) := by decide +kernel
theorem dX8_fieldBeside_77 : decode cX8_fieldBeside 77 = .ok (.ireturn, 1) := by decide +kernel
theorem dX8_fieldBeside_78 : decode cX8_fieldBeside 78 = .ok (.iload_n 3, 1) := by decide +kernel
theorem dX8_fieldBeside_79 : decode cX8_fieldBeside 79 = .ok (.aload_n 0, 1) := by decide +kernel
theorem dX8_fieldBeside_80 : decode cX8_fieldBeside 80 = .ok (.getfield 9, 3) := by decide +kernel
theorem dX8_fieldBeside_83 : decode cX8_fieldBeside 83 = .ok (.iconst 1, 1) := by decide +kernel
theorem dX8_fieldBeside_84 : decode cX8_fieldBeside 84 = .ok (.isub, 1) := by decide +kernel
theorem dX8_fieldBeside_85 : decode cX8_fieldBeside 85 = .ok (.if_icmp .ge 12, 3) := by decide +kernel
theorem dX8_fieldBeside_88 : decode cX8_fieldBeside 88 = .ok (.iload_n 1, 1) := by decide +kernel
theorem dX8_fieldBeside_89 : decode cX8_fieldBeside 89 = .ok (.aload_n 0, 1) := by decide +kernel
theorem dX8_fieldBeside_90 : decode cX8_fieldBeside 90 = .ok (.getfield 15, 3) := by decide +kernel
theorem dX8_fieldBeside_93 : decode cX8_fieldBeside 93 = .ok (.iadd, 1) := by decide +kernel
theorem dX8_fieldBeside_94 : decode cX8_fieldBeside 94 = .ok (.goto 4, 3) := by decide +kernel
theorem dX8_fieldBeside_97 : decode cX8_fieldBeside 97 = .ok (.iconst (-1), 1) := by decide +kernel
theorem dX8_fieldBeside_98 : decode cX8_fieldBeside 98 = .ok (.ireturn, 1) := by decide +kernel
theorem dX8_fieldBeside_99 : decode cX8_fieldBeside 99 = .ok (.iload 4, 2) := by decide +kernel
theorem dX8_fieldBeside_101 : decode cX8_fieldBeside 101 = .ok (.ifCond .le 9, 3) := by decide +kernel
theorem dX8_fieldBeside_104 : decode cX8_fieldBeside 104 = .ok (.iload_n 1, 1) := by decide +kernel
theorem dX8_fieldBeside_105 : decode cX8_fieldBeside 105 = .ok (.iconst 1, 1) := by decide +kernel
theorem dX8_fieldBeside_106 : decode cX8_fieldBeside 106 = .ok (.isub, 1) := by decide +kernel
theorem dX8_fieldBeside_107 : decode cX8_fieldBeside 107 = .ok (.goto 4, 3) := by decide +kernel
theorem dX8_fieldBeside_110 : decode cX8_fieldBeside 110 = .ok (.iconst (-1), 1) := by decide +kernel
theorem dX8_fieldBeside_111 : decode cX8_fieldBeside 111 = .ok (.ireturn, 1) := by decide +kernel
theorem dX8_fieldBeside_112 : decode cX8_fieldBeside 112 = .ok (.iconst (-1), 1) := by decide +kernel
theorem dX8_fieldBeside_113 : decode cX8_fieldBeside 113 = .ok (.ireturn, 1) := by decide +kernel
theorem dX8_rowOf_0 : decode cX8_rowOf 0 = .ok (.aload_n 0, 1) := by decide +kernel
theorem dX8_rowOf_1 : decode cX8_rowOf 1 = .ok (.getfield 15, 3) := by decide +kernel
theorem dX8_rowOf_4 : decode cX8_rowOf 4 = .ok (.ifCond .le 12, 3) := by decide +kernel
theorem dX8_rowOf_7 : decode cX8_rowOf 7 = .ok (.iload_n 1, 1) := by decide +kernel
theorem dX8_rowOf_8 : decode cX8_rowOf 8 = .ok (.aload_n 0, 1) := by decide +kernel
theorem dX8_rowOf_9 : decode cX8_rowOf 9 = .ok (.getfield 15, 3) := by decide +kernel
theorem dX8_rowOf_12 : decode cX8_rowOf 12 = .ok (.idiv, 1) := by decide +kernel
theorem dX8_rowOf_13 : decode cX8_rowOf 13 = .ok (.goto 4, 3) := by decide +kernel
theorem dX8_rowOf_16 : decode cX8_rowOf 16 = .ok (.iconst 0, 1) := by decide +kernel
theorem dX8_rowOf_17 : decode cX8_rowOf 17 = .ok (.ireturn, 1) := by decide +kernel
theorem dX8_columnOf_0 : decode cX8_columnOf 0 = .ok (.aload_n 0, 1) := by decide +kernel
theorem dX8_columnOf_1 : decode cX8_columnOf 1 = .ok (.getfield 15, 3) := by decide +kernel
theorem dX8_columnOf_4 : decode cX8_columnOf 4 = .ok (.ifCond .le 12, 3) := by decide +kernel
theorem dX8_columnOf_7 : decode cX8_columnOf 7 = .ok (.iload_n 1, 1) := by decide +kernel
theorem dX8_columnOf_8 : decode cX8_columnOf 8 = .ok (.aload_n 0, 1) := by decide +kernel
theorem dX8_columnOf_9 : decode cX8_columnOf 9 = .ok (.getfield 15, 3) := by decide +kernel
theorem dX8_columnOf_12 : decode cX8_columnOf 12 = .ok (.irem, 1) := by decide +kernel
theorem dX8_columnOf_13 : decode cX8_columnOf 13 = .ok (.goto 4, 3) := by decide +kernel
theorem dX8_columnOf_16 : decode cX8_columnOf 16 = .ok (.iconst 0, 1) := by decide +kernel
theorem dX8_columnOf_17 : decode cX8_columnOf 17 = .ok (.ireturn, 1) := by decide +kernel
theorem dX8_reaches_0 : decode cX8_reaches 0 = .ok (.aload_n 0, 1) := by decide +kernel
theorem dX8_reaches_1 : decode cX8_reaches 1 = .ok (.aload_n 0, 1) := by decide +kernel
theorem dX8_reaches_2 : decode cX8_reaches 2 = .ok (.getfield 31, 3) := by decide +kernel
theorem dX8_reaches_5 : decode cX8_reaches 5 = .ok (.iload_n 1, 1) := by decide +kernel
theorem dX8_reaches_6 : decode cX8_reaches 6 = .ok (.iaload, 1) := by decide +kernel
theorem dX8_reaches_7 : decode cX8_reaches 7 = .ok (.invokevirtual 121, 3) := by decide +kernel
theorem dX8_reaches_10 : decode cX8_reaches 10 = .ok (.aload_n 0, 1) := by decide +kernel
theorem dX8_reaches_11 : decode cX8_reaches 11 = .ok (.iload_n 2, 1) := by decide +kernel
theorem dX8_reaches_12 : decode cX8_reaches 12 = .ok (.invokevirtual 121, 3) := by decide +kernel
theorem dX8_reaches_15 : decode cX8_reaches 15 = .ok (.isub, 1) := by decide +kernel
theorem dX8_reaches_16 : decode cX8_reaches 16 = .ok (.invokestatic 127, 3) := by decide +kernel
theorem dX8_reaches_19 : decode cX8_reaches 19 = .ok (.istore_n 3, 1) := by decide +kernel
theorem dX8_reaches_20 : decode cX8_reaches 20 = .ok (.aload_n 0, 1) := by decide +kernel
theorem dX8_reaches_21 : decode cX8_reaches 21 = .ok (.aload_n 0, 1) := by decide +kernel
theorem dX8_reaches_22 : decode cX8_reaches 22 = .ok (.getfield 31, 3) := by decide +kernel
theorem dX8_reaches_25 : decode cX8_reaches 25 = .ok (.iload_n 1, 1) := by decide +kernel
theorem dX8_reaches_26 : decode cX8_reaches 26 = .ok (.iaload, 1) := by decide +kernel
theorem dX8_reaches_27 : decode cX8_reaches 27 = .ok (.invokevirtual 124, 3) := by decide +kernel
theorem dX8_reaches_30 : decode cX8_reaches 30 = .ok (.aload_n 0, 1) := by decide +kernel
theorem dX8_reaches_31 : decode cX8_reaches 31 = .ok (.iload_n 2, 1) := by decide +kernel
theorem dX8_reaches_32 : decode cX8_reaches 32 = .ok (.invokevirtual 124, 3) := by decide +kernel
theorem dX8_reaches_35 : decode cX8_reaches 35 = .ok (.isub, 1) := by decide +kernel
theorem dX8_reaches_36 : decode cX8_reaches 36 = .ok (.invokestatic 127, 3) := by decide +kernel
theorem dX8_reaches_39 : decode cX8_reaches 39 = .ok (.istore 4, 2) := by decide +kernel
theorem dX8_reaches_41 : decode cX8_reaches 41 = .ok (.iload_n 3, 1) := by decide +kernel
theorem dX8_reaches_42 : decode cX8_reaches 42 = .ok (.iload 4, 2) := by decide +kernel
theorem dX8_reaches_44 : decode cX8_reaches 44 = .ok (.iadd, 1) := by decide +kernel
theorem dX8_reaches_45 : decode cX8_reaches 45 = .ok (.aload_n 0, 1) := by decide +kernel
theorem dX8_reaches_46 : decode cX8_reaches 46 = .ok (.getfield 34, 3) := by decide +kernel
theorem dX8_reaches_49 : decode cX8_reaches 49 = .ok (.iload_n 1, 1) := by decide +kernel
theorem dX8_reaches_50 : decode cX8_reaches 50 = .ok (.iaload, 1) := by decide +kernel
theorem dX8_reaches_51 : decode cX8_reaches 51 = .ok (.if_icmp .gt 7, 3) := by decide +kernel
theorem dX8_reaches_54 : decode cX8_reaches 54 = .ok (.iconst 1, 1) := by decide +kernel
theorem dX8_reaches_55 : decode cX8_reaches 55 = .ok (.goto 4, 3) := by decide +kernel
theorem dX8_reaches_58 : decode cX8_reaches 58 = .ok (.iconst 0, 1) := by decide +kernel
theorem dX8_reaches_59 : decode cX8_reaches 59 = .ok (.ireturn, 1) := by decide +kernel
theorem dX8_near_0 : decode cX8_near 0 = .ok (.iconst 0, 1) := by decide +kernel
theorem dX8_near_1 : decode cX8_near 1 = .ok (.istore_n 3, 1) := by decide +kernel
theorem dX8_near_2 : decode cX8_near 2 = .ok (.iconst 0, 1) := by decide +kernel
theorem dX8_near_3 : decode cX8_near 3 = .ok (.istore 4, 2) := by decide +kernel
theorem dX8_near_5 : decode cX8_near 5 = .ok (.iload 4, 2) := by decide +kernel
theorem dX8_near_7 : decode cX8_near 7 = .ok (.aload_n 0, 1) := by decide +kernel
theorem dX8_near_8 : decode cX8_near 8 = .ok (.getfield 44, 3) := by decide +kernel
theorem dX8_near_11 : decode cX8_near 11 = .ok (.if_icmp .ge 31, 3) := by decide +kernel
theorem dX8_near_14 : decode cX8_near 14 = .ok (.aload_n 0, 1) := by decide +kernel
theorem dX8_near_15 : decode cX8_near 15 = .ok (.iload_n 2, 1) := by decide +kernel
theorem dX8_near_16 : decode cX8_near 16 = .ok (.aload_n 1, 1) := by decide +kernel
theorem dX8_near_17 : decode cX8_near 17 = .ok (.getfield 73, 3) := by decide +kernel
theorem dX8_near_20 : decode cX8_near 20 = .ok (.iload 4, 2) := by decide +kernel
theorem dX8_near_22 : decode cX8_near 22 = .ok (.iaload, 1) := by decide +kernel
theorem dX8_near_23 : decode cX8_near 23 = .ok (.invokevirtual 130, 3) := by decide +kernel
theorem dX8_near_26 : decode cX8_near 26 = .ok (.ifCond .eq 10, 3) := by decide +kernel
theorem dX8_near_29 : decode cX8_near 29 = .ok (.iload_n 3, 1) := by decide +kernel
theorem dX8_near_30 : decode cX8_near 30 = .ok (.iconst 1, 1) := by decide +kernel
theorem dX8_near_31 : decode cX8_near 31 = .ok (.iload 4, 2) := by decide +kernel
theorem dX8_near_33 : decode cX8_near 33 = .ok (.ishl, 1) := by decide +kernel
theorem dX8_near_34 : decode cX8_near 34 = .ok (.ior, 1) := by decide +kernel
theorem dX8_near_35 : decode cX8_near 35 = .ok (.istore_n 3, 1) := by decide +kernel
theorem dX8_near_36 : decode cX8_near 36 = .ok (.iinc 4 1, 3) := by decide +kernel
theorem dX8_near_39 : decode cX8_near 39 = .ok (.goto (-34), 3) := by decide +kernel
theorem dX8_near_42 : decode cX8_near 42 = .ok (.iload_n 3, 1) := by decide +kernel
theorem dX8_near_43 : decode cX8_near 43 = .ok (.ireturn, 1) := by decide +kernel
theorem dX8_thingsOn_0 : decode cX8_thingsOn 0 = .ok (.iconst 0, 1) := by decide +kernel
theorem dX8_thingsOn_1 : decode cX8_thingsOn 1 = .ok (.istore_n 3, 1) := by decide +kernel
theorem dX8_thingsOn_2 : decode cX8_thingsOn 2 = .ok (.iconst 0, 1) := by decide +kernel
theorem dX8_thingsOn_3 : decode cX8_thingsOn 3 = .ok (.istore 4, 2) := by decide +kernel
theorem dX8_thingsOn_5 : decode cX8_thingsOn 5 = .ok (.iload 4, 2) := by decide +kernel
theorem dX8_thingsOn_7 : decode cX8_thingsOn 7 = .ok (.aload_n 0, 1) := by decide +kernel
theorem dX8_thingsOn_8 : decode cX8_thingsOn 8 = .ok (.getfield 44, 3) := by decide +kernel
theorem dX8_thingsOn_11 : decode cX8_thingsOn 11 = .ok (.if_icmp .ge 27, 3) := by decide +kernel
theorem dX8_thingsOn_14 : decode cX8_thingsOn 14 = .ok (.aload_n 1, 1) := by decide +kernel
theorem dX8_thingsOn_15 : decode cX8_thingsOn 15 = .ok (.getfield 73, 3) := by decide +kernel
theorem dX8_thingsOn_18 : decode cX8_thingsOn 18 = .ok (.iload 4, 2) := by decide +kernel
theorem dX8_thingsOn_20 : decode cX8_thingsOn 20 = .ok (.iaload, 1) := by decide +kernel
theorem dX8_thingsOn_21 : decode cX8_thingsOn 21 = .ok (.iload_n 2, 1) := by decide +kernel
theorem dX8_thingsOn_22 : decode cX8_thingsOn 22 = .ok (.if_icmp .ne 10, 3) := by decide +kernel
theorem dX8_thingsOn_25 : decode cX8_thingsOn 25 = .ok (.iload_n 3, 1) := by decide +kernel
theorem dX8_thingsOn_26 : decode cX8_thingsOn 26 = .ok (.iconst 1, 1) := by decide +kernel
theorem dX8_thingsOn_27 : decode cX8_thingsOn 27 = .ok (.iload 4, 2) := by decide +kernel
theorem dX8_thingsOn_29 : decode cX8_thingsOn 29 = .ok (.ishl, 1) := by decide +kernel
theorem dX8_thingsOn_30 : decode cX8_thingsOn 30 = .ok (.ior, 1) := by decide +kernel
theorem dX8_thingsOn_31 : decode cX8_thingsOn 31 = .ok (.istore_n 3, 1) := by decide +kernel
theorem dX8_thingsOn_32 : decode cX8_thingsOn 32 = .ok (.iinc 4 1, 3) := by decide +kernel
theorem dX8_thingsOn_35 : decode cX8_thingsOn 35 = .ok (.goto (-30), 3) := by decide +kernel
theorem dX8_thingsOn_38 : decode cX8_thingsOn 38 = .ok (.iload_n 3, 1) := by decide +kernel
theorem dX8_thingsOn_39 : decode cX8_thingsOn 39 = .ok (.ireturn, 1) := by decide +kernel
theorem dX8_panesIn_0 : decode cX8_panesIn 0 = .ok (.iconst 0, 1) := by decide +kernel
theorem dX8_panesIn_1 : decode cX8_panesIn 1 = .ok (.istore_n 3, 1) := by decide +kernel
theorem dX8_panesIn_2 : decode cX8_panesIn 2 = .ok (.iconst 0, 1) := by decide +kernel
theorem dX8_panesIn_3 : decode cX8_panesIn 3 = .ok (.istore 4, 2) := by decide +kernel
theorem dX8_panesIn_5 : decode cX8_panesIn 5 = .ok (.iload 4, 2) := by decide +kernel
theorem dX8_panesIn_7 : decode cX8_panesIn 7 = .ok (.aload_n 0, 1) := by decide +kernel
theorem dX8_panesIn_8 : decode cX8_panesIn 8 = .ok (.getfield 47, 3) := by decide +kernel
theorem dX8_panesIn_11 : decode cX8_panesIn 11 = .ok (.if_icmp .ge 27, 3) := by decide +kernel
theorem dX8_panesIn_14 : decode cX8_panesIn 14 = .ok (.aload_n 1, 1) := by decide +kernel
theorem dX8_panesIn_15 : decode cX8_panesIn 15 = .ok (.getfield 106, 3) := by decide +kernel
theorem dX8_panesIn_18 : decode cX8_panesIn 18 = .ok (.iload 4, 2) := by decide +kernel
theorem dX8_panesIn_20 : decode cX8_panesIn 20 = .ok (.iaload, 1) := by decide +kernel
theorem dX8_panesIn_21 : decode cX8_panesIn 21 = .ok (.iload_n 2, 1) := by decide +kernel
theorem dX8_panesIn_22 : decode cX8_panesIn 22 = .ok (.if_icmp .ne 10, 3) := by decide +kernel
theorem dX8_panesIn_25 : decode cX8_panesIn 25 = .ok (.iload_n 3, 1) := by decide +kernel
theorem dX8_panesIn_26 : decode cX8_panesIn 26 = .ok (.iconst 1, 1) := by decide +kernel
theorem dX8_panesIn_27 : decode cX8_panesIn 27 = .ok (.iload 4, 2) := by decide +kernel
theorem dX8_panesIn_29 : decode cX8_panesIn 29 = .ok (.ishl, 1) := by decide +kernel
theorem dX8_panesIn_30 : decode cX8_panesIn 30 = .ok (.ior, 1) := by decide +kernel
theorem dX8_panesIn_31 : decode cX8_panesIn 31 = .ok (.istore_n 3, 1) := by decide +kernel
theorem dX8_panesIn_32 : decode cX8_panesIn 32 = .ok (.iinc 4 1, 3) := by decide +kernel
theorem dX8_panesIn_35 : decode cX8_panesIn 35 = .ok (.goto (-30), 3) := by decide +kernel
theorem dX8_panesIn_38 : decode cX8_panesIn 38 = .ok (.iload_n 3, 1) := by decide +kernel
theorem dX8_panesIn_39 : decode cX8_panesIn 39 = .ok (.ireturn, 1) := by decide +kernel
theorem dX8_panesHung_0 : decode cX8_panesHung 0 = .ok (.aload_n 0, 1) := by decide +kernel
theorem dX8_panesHung_1 : decode cX8_panesHung 1 = .ok (.getfield 47, 3) := by decide +kernel
theorem dX8_panesHung_4 : decode cX8_panesHung 4 = .ok (.invokestatic 60, 3) := by decide +kernel
theorem dX8_panesHung_7 : decode cX8_panesHung 7 = .ok (.aload_n 0, 1) := by decide +kernel
theorem dX8_panesHung_8 : decode cX8_panesHung 8 = .ok (.aload_n 1, 1) := by decide +kernel
theorem dX8_panesHung_9 : decode cX8_panesHung 9 = .ok (.iconst (-1), 1) := by decide +kernel
theorem dX8_panesHung_10 : decode cX8_panesHung 10 = .ok (.invokevirtual 134, 3) := by decide +kernel
theorem dX8_panesHung_13 : decode cX8_panesHung 13 = .ok (.iconst (-1), 1) := by decide +kernel
theorem dX8_panesHung_14 : decode cX8_panesHung 14 = .ok (.ixor, 1) := by decide +kernel
theorem dX8_panesHung_15 : decode cX8_panesHung 15 = .ok (.iand, 1) := by decide +kernel
theorem dX8_panesHung_16 : decode cX8_panesHung 16 = .ok (.ireturn, 1) := by decide +kernel
theorem dX8_panesHiding_0 : decode cX8_panesHiding 0 = .ok (.iconst 0, 1) := by decide +kernel
theorem dX8_panesHiding_1 : decode cX8_panesHiding 1 = .ok (.istore_n 2, 1) := by decide +kernel
theorem dX8_panesHiding_2 : decode cX8_panesHiding 2 = .ok (.iconst 0, 1) := by decide +kernel
theorem dX8_panesHiding_3 : decode cX8_panesHiding 3 = .ok (.istore_n 3, 1) := by decide +kernel
theorem dX8_panesHiding_4 : decode cX8_panesHiding 4 = .ok (.iload_n 3, 1) := by decide +kernel
theorem dX8_panesHiding_5 : decode cX8_panesHiding 5 = .ok (.aload_n 0, 1) := by decide +kernel
theorem dX8_panesHiding_6 : decode cX8_panesHiding 6 = .ok (.getfield 47, 3) := by decide +kernel
theorem dX8_panesHiding_9 : decode cX8_panesHiding 9 = .ok (.if_icmp .ge 28, 3) := by decide +kernel
theorem dX8_panesHiding_12 : decode cX8_panesHiding 12 = .ok (.iload_n 1, 1) := by decide +kernel
theorem dX8_panesHiding_13 : decode cX8_panesHiding 13 = .ok (.aload_n 0, 1) := by decide +kernel
theorem dX8_panesHiding_14 : decode cX8_panesHiding 14 = .ok (.getfield 28, 3) := by decide +kernel
theorem dX8_panesHiding_17 : decode cX8_panesHiding 17 = .ok (.iload_n 3, 1) := by decide +kernel
theorem dX8_panesHiding_18 : decode cX8_panesHiding 18 = .ok (.iaload, 1) := by decide +kernel
theorem dX8_panesHiding_19 : decode cX8_panesHiding 19 = .ok (.iconst (-1), 1) := by decide +kernel
theorem dX8_panesHiding_20 : decode cX8_panesHiding 20 = .ok (.ixor, 1) := by decide +kernel
theorem dX8_panesHiding_21 : decode cX8_panesHiding 21 = .ok (.iand, 1) := by decide +kernel
theorem dX8_panesHiding_22 : decode cX8_panesHiding 22 = .ok (.ifCond .ne 9, 3) := by decide +kernel
theorem dX8_panesHiding_25 : decode cX8_panesHiding 25 = .ok (.iload_n 2, 1) := by decide +kernel
theorem dX8_panesHiding_26 : decode cX8_panesHiding 26 = .ok (.iconst 1, 1) := by decide +kernel
theorem dX8_panesHiding_27 : decode cX8_panesHiding 27 = .ok (.iload_n 3, 1) := by decide +kernel
theorem dX8_panesHiding_28 : decode cX8_panesHiding 28 = .ok (.ishl, 1) := by decide +kernel
theorem dX8_panesHiding_29 : decode cX8_panesHiding 29 = .ok (.ior, 1) := by decide +kernel
theorem dX8_panesHiding_30 : decode cX8_panesHiding 30 = .ok (.istore_n 2, 1) := by decide +kernel
theorem dX8_panesHiding_31 : decode cX8_panesHiding 31 = .ok (.iinc 3 1, 3) := by decide +kernel
theorem dX8_panesHiding_34 : decode cX8_panesHiding 34 = .ok (.goto (-30), 3) := by decide +kernel
theorem dX8_panesHiding_37 : decode cX8_panesHiding 37 = .ok (.iload_n 2, 1) := by decide +kernel
theorem dX8_panesHiding_38 : decode cX8_panesHiding 38 = .ok (.ireturn, 1) := by decide +kernel
theorem dX8_lets_0 : decode cX8_lets 0 = .ok (.aload_n 1, 1) := by decide +kernel
theorem dX8_lets_1 : decode cX8_lets 1 = .ok (.iload_n 3, 1) := by decide +kernel
theorem dX8_lets_2 : decode cX8_lets 2 = .ok (.invokevirtual 138, 3) := by decide +kernel
theorem dX8_lets_5 : decode cX8_lets 5 = .ok (.ifCond .ne 30, 3) := by decide +kernel
theorem dX8_lets_8 : decode cX8_lets 8 = .ok (.aload_n 0, 1) := by decide +kernel
theorem dX8_lets_9 : decode cX8_lets 9 = .ok (.getfield 40, 3) := by decide +kernel
theorem dX8_lets_12 : decode cX8_lets 12 = .ok (.aload_n 0, 1) := by decide +kernel
theorem dX8_lets_13 : decode cX8_lets 13 = .ok (.getfield 25, 3) := by decide +kernel
theorem dX8_lets_16 : decode cX8_lets 16 = .ok (.iload_n 3, 1) := by decide +kernel
theorem dX8_lets_17 : decode cX8_lets 17 = .ok (.iaload, 1) := by decide +kernel
theorem dX8_lets_18 : decode cX8_lets 18 = .ok (.aload_n 0, 1) := by decide +kernel
theorem dX8_lets_19 : decode cX8_lets 19 = .ok (.getfield 28, 3) := by decide +kernel
theorem dX8_lets_22 : decode cX8_lets 22 = .ok (.iload_n 3, 1) := by decide +kernel
theorem dX8_lets_23 : decode cX8_lets 23 = .ok (.iaload, 1) := by decide +kernel
theorem dX8_lets_24 : decode cX8_lets 24 = .ok (.iload 4, 2) := by decide +kernel
theorem dX8_lets_26 : decode cX8_lets 26 = .ok (.iload 5, 2) := by decide +kernel
theorem dX8_lets_28 : decode cX8_lets 28 = .ok (.iload_n 2, 1) := by decide +kernel
theorem dX8_lets_29 : decode cX8_lets 29 = .ok (.invokevirtual 142, 3) := by decide +kernel
theorem dX8_lets_32 : decode cX8_lets 32 = .ok (.ifCond .eq 7, 3) := by decide +kernel
theorem dX8_lets_35 : decode cX8_lets 35 = .ok (.iconst 1, 1) := by decide +kernel
theorem dX8_lets_36 : decode cX8_lets 36 = .ok (.goto 4, 3) := by decide +kernel
theorem dX8_lets_39 : decode cX8_lets 39 = .ok (.iconst 0, 1) := by decide +kernel
theorem dX8_lets_40 : decode cX8_lets 40 = .ok (.ireturn, 1) := by decide +kernel
theorem dX8_through_0 : decode cX8_through 0 = .ok (.iconst 0, 1) := by decide +kernel
theorem dX8_through_1 : decode cX8_through 1 = .ok (.istore 4, 2) := by decide +kernel
theorem dX8_through_3 : decode cX8_through 3 = .ok (.iconst 0, 1) := by decide +kernel
theorem dX8_through_4 : decode cX8_through 4 = .ok (.istore 5, 2) := by decide +kernel
theorem dX8_through_6 : decode cX8_through 6 = .ok (.iload 5, 2) := by decide +kernel
theorem dX8_through_8 : decode cX8_through 8 = .ok (.aload_n 0, 1) := by decide +kernel
theorem dX8_through_9 : decode cX8_through 9 = .ok (.getfield 44, 3) := by decide +kernel
theorem dX8_through_12 : decode cX8_through 12 = .ok (.if_icmp .ge 54, 3) := by decide +kernel
theorem dX8_through_15 : decode cX8_through 15 = .ok (.iload_n 3, 1) := by decide +kernel
theorem dX8_through_16 : decode cX8_through 16 = .ok (.iload 5, 2) := by decide +kernel
theorem dX8_through_18 : decode cX8_through 18 = .ok (.invokestatic 146, 3) := by decide +kernel
theorem dX8_through_21 : decode cX8_through 21 = .ok (.ifCond .eq 39, 3) := by decide +kernel
theorem dX8_through_24 : decode cX8_through 24 = .ok (.aload_n 0, 1) := by decide +kernel
theorem dX8_through_25 : decode cX8_through 25 = .ok (.aload_n 1, 1) := by decide +kernel
theorem dX8_through_26 : decode cX8_through 26 = .ok (.aload_n 1, 1) := by decide +kernel
theorem dX8_through_27 : decode cX8_through 27 = .ok (.getfield 118, 3) := by decide +kernel
theorem dX8_through_30 : decode cX8_through 30 = .ok (.iload_n 2, 1) := by decide +kernel
theorem dX8_through_31 : decode cX8_through 31 = .ok (.aload_n 0, 1) := by decide +kernel
theorem dX8_through_32 : decode cX8_through 32 = .ok (.getfield 18, 3) := by decide +kernel
theorem dX8_through_35 : decode cX8_through 35 = .ok (.iload 5, 2) := by decide +kernel
theorem dX8_through_37 : decode cX8_through 37 = .ok (.iaload, 1) := by decide +kernel
theorem dX8_through_38 : decode cX8_through 38 = .ok (.aload_n 0, 1) := by decide +kernel
theorem dX8_through_39 : decode cX8_through 39 = .ok (.getfield 22, 3) := by decide +kernel
theorem dX8_through_42 : decode cX8_through 42 = .ok (.iload 5, 2) := by decide +kernel
theorem dX8_through_44 : decode cX8_through 44 = .ok (.iaload, 1) := by decide +kernel
theorem dX8_through_45 : decode cX8_through 45 = .ok (.invokevirtual 149, 3) := by decide +kernel
theorem dX8_through_48 : decode cX8_through 48 = .ok (.ifCond .eq 12, 3) := by decide +kernel
theorem dX8_through_51 : decode cX8_through 51 = .ok (.iload 4, 2) := by decide +kernel
theorem dX8_through_53 : decode cX8_through 53 = .ok (.iconst 1, 1) := by decide +kernel
theorem dX8_through_54 : decode cX8_through 54 = .ok (.iload 5, 2) := by decide +kernel
theorem dX8_through_56 : decode cX8_through 56 = .ok (.ishl, 1) := by decide +kernel
theorem dX8_through_57 : decode cX8_through 57 = .ok (.ior, 1) := by decide +kernel
theorem dX8_through_58 : decode cX8_through 58 = .ok (.istore 4, 2) := by decide +kernel
theorem dX8_through_60 : decode cX8_through 60 = .ok (.iinc 5 1, 3) := by decide +kernel
theorem dX8_through_63 : decode cX8_through 63 = .ok (.goto (-57), 3) := by decide +kernel
theorem dX8_through_66 : decode cX8_through 66 = .ok (.iload 4, 2) := by decide +kernel
theorem dX8_through_68 : decode cX8_through 68 = .ok (.ireturn, 1) := by decide +kernel
theorem dX8_pairsThrough_0 : decode cX8_pairsThrough 0 = .ok (.iconst 0, 1) := by decide +kernel
theorem dX8_pairsThrough_1 : decode cX8_pairsThrough 1 = .ok (.istore_n 2, 1) := by decide +kernel
theorem dX8_pairsThrough_2 : decode cX8_pairsThrough 2 = .ok (.iconst 0, 1) := by decide +kernel
theorem dX8_pairsThrough_3 : decode cX8_pairsThrough 3 = .ok (.istore_n 3, 1) := by decide +kernel
theorem dX8_pairsThrough_4 : decode cX8_pairsThrough 4 = .ok (.iload_n 3, 1) := by decide +kernel
theorem dX8_pairsThrough_5 : decode cX8_pairsThrough 5 = .ok (.aload_n 0, 1) := by decide +kernel
theorem dX8_pairsThrough_6 : decode cX8_pairsThrough 6 = .ok (.getfield 47, 3) := by decide +kernel
theorem dX8_pairsThrough_9 : decode cX8_pairsThrough 9 = .ok (.if_icmp .ge 25, 3) := by decide +kernel
theorem dX8_pairsThrough_12 : decode cX8_pairsThrough 12 = .ok (.iload_n 2, 1) := by decide +kernel
theorem dX8_pairsThrough_13 : decode cX8_pairsThrough 13 = .ok (.aload_n 0, 1) := by decide +kernel
theorem dX8_pairsThrough_14 : decode cX8_pairsThrough 14 = .ok (.aload_n 1, 1) := by decide +kernel
theorem dX8_pairsThrough_15 : decode cX8_pairsThrough 15 = .ok (.iload_n 3, 1) := by decide +kernel
theorem dX8_pairsThrough_16 : decode cX8_pairsThrough 16 = .ok (.aload_n 0, 1) := by decide +kernel
theorem dX8_pairsThrough_17 : decode cX8_pairsThrough 17 = .ok (.invokevirtual 57, 3) := by decide +kernel
theorem dX8_pairsThrough_20 : decode cX8_pairsThrough 20 = .ok (.invokevirtual 152, 3) := by decide +kernel
theorem dX8_pairsThrough_23 : decode cX8_pairsThrough 23 = .ok (.invokestatic 156, 3) := by decide +kernel
theorem dX8_pairsThrough_26 : decode cX8_pairsThrough 26 = .ok (.iadd, 1) := by decide +kernel
theorem dX8_pairsThrough_27 : decode cX8_pairsThrough 27 = .ok (.istore_n 2, 1) := by decide +kernel
theorem dX8_pairsThrough_28 : decode cX8_pairsThrough 28 = .ok (.iinc 3 1, 3) := by decide +kernel
theorem dX8_pairsThrough_31 : decode cX8_pairsThrough 31 = .ok (.goto (-27), 3) := by decide +kernel
theorem dX8_pairsThrough_34 : decode cX8_pairsThrough 34 = .ok (.iload_n 2, 1) := by decide +kernel
theorem dX8_pairsThrough_35 : decode cX8_pairsThrough 35 = .ok (.ireturn, 1) := by decide +kernel
theorem dX8_seenFrom_0 : decode cX8_seenFrom 0 = .ok (.aload_n 0, 1) := by decide +kernel
theorem dX8_seenFrom_1 : decode cX8_seenFrom 1 = .ok (.aload_n 1, 1) := by decide +kernel
theorem dX8_seenFrom_2 : decode cX8_seenFrom 2 = .ok (.iload_n 2, 1) := by decide +kernel
theorem dX8_seenFrom_3 : decode cX8_seenFrom 3 = .ok (.aload_n 0, 1) := by decide +kernel
theorem dX8_seenFrom_4 : decode cX8_seenFrom 4 = .ok (.invokevirtual 57, 3) := by decide +kernel
theorem dX8_seenFrom_7 : decode cX8_seenFrom 7 = .ok (.invokevirtual 161, 3) := by decide +kernel
theorem dX8_seenFrom_10 : decode cX8_seenFrom 10 = .ok (.ireturn, 1) := by decide +kernel
theorem dX8_seenOf_0 : decode cX8_seenOf 0 = .ok (.iload_n 3, 1) := by decide +kernel
theorem dX8_seenOf_1 : decode cX8_seenOf 1 = .ok (.aload_n 0, 1) := by decide +kernel
theorem dX8_seenOf_2 : decode cX8_seenOf 2 = .ok (.aload_n 1, 1) := by decide +kernel
theorem dX8_seenOf_3 : decode cX8_seenOf 3 = .ok (.iload_n 2, 1) := by decide +kernel
theorem dX8_seenOf_4 : decode cX8_seenOf 4 = .ok (.invokevirtual 164, 3) := by decide +kernel
theorem dX8_seenOf_7 : decode cX8_seenOf 7 = .ok (.iand, 1) := by decide +kernel
theorem dX8_seenOf_8 : decode cX8_seenOf 8 = .ok (.istore 4, 2) := by decide +kernel
theorem dX8_seenOf_10 : decode cX8_seenOf 10 = .ok (.iconst 0, 1) := by decide +kernel
theorem dX8_seenOf_11 : decode cX8_seenOf 11 = .ok (.istore 5, 2) := by decide +kernel
theorem dX8_seenOf_13 : decode cX8_seenOf 13 = .ok (.iconst 0, 1) := by decide +kernel
theorem dX8_seenOf_14 : decode cX8_seenOf 14 = .ok (.istore 6, 2) := by decide +kernel
theorem dX8_seenOf_16 : decode cX8_seenOf 16 = .ok (.iload 6, 2) := by decide +kernel
theorem dX8_seenOf_18 : decode cX8_seenOf 18 = .ok (.aload_n 0, 1) := by decide +kernel
theorem dX8_seenOf_19 : decode cX8_seenOf 19 = .ok (.getfield 47, 3) := by decide +kernel
theorem dX8_seenOf_22 : decode cX8_seenOf 22 = .ok (.if_icmp .ge 39, 3) := by decide +kernel
theorem dX8_seenOf_25 : decode cX8_seenOf 25 = .ok (.aload_n 1, 1) := by decide +kernel
theorem dX8_seenOf_26 : decode cX8_seenOf 26 = .ok (.getfield 106, 3) := by decide +kernel
theorem dX8_seenOf_29 : decode cX8_seenOf 29 = .ok (.iload 6, 2) := by decide +kernel
theorem dX8_seenOf_31 : decode cX8_seenOf 31 = .ok (.iaload, 1) := by decide +kernel
theorem dX8_seenOf_32 : decode cX8_seenOf 32 = .ok (.iload_n 2, 1) := by decide +kernel
theorem dX8_seenOf_33 : decode cX8_seenOf 33 = .ok (.if_icmp .ne 22, 3) := by decide +kernel
theorem dX8_seenOf_36 : decode cX8_seenOf 36 = .ok (.iload 5, 2) := by decide +kernel
theorem dX8_seenOf_38 : decode cX8_seenOf 38 = .ok (.aload_n 0, 1) := by decide +kernel
theorem dX8_seenOf_39 : decode cX8_seenOf 39 = .ok (.aload_n 1, 1) := by decide +kernel
theorem dX8_seenOf_40 : decode cX8_seenOf 40 = .ok (.iload 6, 2) := by decide +kernel
theorem dX8_seenOf_42 : decode cX8_seenOf 42 = .ok (.iload 4, 2) := by decide +kernel
theorem dX8_seenOf_44 : decode cX8_seenOf 44 = .ok (.iload 5, 2) := by decide +kernel
theorem dX8_seenOf_46 : decode cX8_seenOf 46 = .ok (.iconst (-1), 1) := by decide +kernel
theorem dX8_seenOf_47 : decode cX8_seenOf 47 = .ok (.ixor, 1) := by decide +kernel
theorem dX8_seenOf_48 : decode cX8_seenOf 48 = .ok (.iand, 1) := by decide +kernel
theorem dX8_seenOf_49 : decode cX8_seenOf 49 = .ok (.invokevirtual 152, 3) := by decide +kernel
theorem dX8_seenOf_52 : decode cX8_seenOf 52 = .ok (.ior, 1) := by decide +kernel
theorem dX8_seenOf_53 : decode cX8_seenOf 53 = .ok (.istore 5, 2) := by decide +kernel
theorem dX8_seenOf_55 : decode cX8_seenOf 55 = .ok (.iinc 6 1, 3) := by decide +kernel
theorem dX8_seenOf_58 : decode cX8_seenOf 58 = .ok (.goto (-42), 3) := by decide +kernel
theorem dX8_seenOf_61 : decode cX8_seenOf 61 = .ok (.iload 5, 2) := by decide +kernel
theorem dX8_seenOf_63 : decode cX8_seenOf 63 = .ok (.ireturn, 1) := by decide +kernel
theorem dX8_sees_0 : decode cX8_sees 0 = .ok (.aload_n 0, 1) := by decide +kernel
theorem dX8_sees_1 : decode cX8_sees 1 = .ok (.aload_n 1, 1) := by decide +kernel
theorem dX8_sees_2 : decode cX8_sees 2 = .ok (.iload_n 2, 1) := by decide +kernel
theorem dX8_sees_3 : decode cX8_sees 3 = .ok (.iconst 1, 1) := by decide +kernel
theorem dX8_sees_4 : decode cX8_sees 4 = .ok (.iload_n 3, 1) := by decide +kernel
theorem dX8_sees_5 : decode cX8_sees 5 = .ok (.ishl, 1) := by decide +kernel
theorem dX8_sees_6 : decode cX8_sees 6 = .ok (.invokevirtual 161, 3) := by decide +kernel
theorem dX8_sees_9 : decode cX8_sees 9 = .ok (.ifCond .eq 7, 3) := by decide +kernel
theorem dX8_sees_12 : decode cX8_sees 12 = .ok (.iconst 1, 1) := by decide +kernel
theorem dX8_sees_13 : decode cX8_sees 13 = .ok (.goto 4, 3) := by decide +kernel
theorem dX8_sees_16 : decode cX8_sees 16 = .ok (.iconst 0, 1) := by decide +kernel
theorem dX8_sees_17 : decode cX8_sees 17 = .ok (.ireturn, 1) := by decide +kernel
theorem dX8_roomsSeeing_0 : decode cX8_roomsSeeing 0 = .ok (.iconst 0, 1) := by decide +kernel
theorem dX8_roomsSeeing_1 : decode cX8_roomsSeeing 1 = .ok (.istore_n 3, 1) := by decide +kernel
theorem dX8_roomsSeeing_2 : decode cX8_roomsSeeing 2 = .ok (.iconst 0, 1) := by decide +kernel
theorem dX8_roomsSeeing_3 : decode cX8_roomsSeeing 3 = .ok (.istore 4, 2) := by decide +kernel
theorem dX8_roomsSeeing_5 : decode cX8_roomsSeeing 5 = .ok (.iload 4, 2) := by decide +kernel
theorem dX8_roomsSeeing_7 : decode cX8_roomsSeeing 7 = .ok (.aload_n 0, 1) := by decide +kernel
theorem dX8_roomsSeeing_8 : decode cX8_roomsSeeing 8 = .ok (.getfield 50, 3) := by decide +kernel
theorem dX8_roomsSeeing_11 : decode cX8_roomsSeeing 11 = .ok (.if_icmp .ge 29, 3) := by decide +kernel
theorem dX8_roomsSeeing_14 : decode cX8_roomsSeeing 14 = .ok (.aload_n 0, 1) := by decide +kernel
theorem dX8_roomsSeeing_15 : decode cX8_roomsSeeing 15 = .ok (.aload_n 1, 1) := by decide +kernel
theorem dX8_roomsSeeing_16 : decode cX8_roomsSeeing 16 = .ok (.iload 4, 2) := by decide +kernel
theorem dX8_roomsSeeing_18 : decode cX8_roomsSeeing 18 = .ok (.iconst 1, 1) := by decide +kernel
theorem dX8_roomsSeeing_19 : decode cX8_roomsSeeing 19 = .ok (.iload_n 2, 1) := by decide +kernel
theorem dX8_roomsSeeing_20 : decode cX8_roomsSeeing 20 = .ok (.ishl, 1) := by decide +kernel
theorem dX8_roomsSeeing_21 : decode cX8_roomsSeeing 21 = .ok (.invokevirtual 161, 3) := by decide +kernel
theorem dX8_roomsSeeing_24 : decode cX8_roomsSeeing 24 = .ok (.ifCond .eq 10, 3) := by decide +kernel
theorem dX8_roomsSeeing_27 : decode cX8_roomsSeeing 27 = .ok (.iload_n 3, 1) := by decide +kernel
theorem dX8_roomsSeeing_28 : decode cX8_roomsSeeing 28 = .ok (.iconst 1, 1) := by decide +kernel
theorem dX8_roomsSeeing_29 : decode cX8_roomsSeeing 29 = .ok (.iload 4, 2) := by decide +kernel
theorem dX8_roomsSeeing_31 : decode cX8_roomsSeeing 31 = .ok (.ishl, 1) := by decide +kernel
theorem dX8_roomsSeeing_32 : decode cX8_roomsSeeing 32 = .ok (.ior, 1) := by decide +kernel
theorem dX8_roomsSeeing_33 : decode cX8_roomsSeeing 33 = .ok (.istore_n 3, 1) := by decide +kernel
theorem dX8_roomsSeeing_34 : decode cX8_roomsSeeing 34 = .ok (.iinc 4 1, 3) := by decide +kernel
theorem dX8_roomsSeeing_37 : decode cX8_roomsSeeing 37 = .ok (.goto (-32), 3) := by decide +kernel
theorem dX8_roomsSeeing_40 : decode cX8_roomsSeeing 40 = .ok (.iload_n 3, 1) := by decide +kernel
theorem dX8_roomsSeeing_41 : decode cX8_roomsSeeing 41 = .ok (.ireturn, 1) := by decide +kernel
theorem dX9_init_0 : decode cX9_init 0 = .ok (.aload_n 0, 1) := by decide +kernel
theorem dX9_init_1 : decode cX9_init 1 = .ok (.invokespecial 3, 3) := by decide +kernel
theorem dX9_init_4 : decode cX9_init 4 = .ok (.aload_n 0, 1) := by decide +kernel
theorem dX9_init_5 : decode cX9_init 5 = .ok (.bipush 36, 2) := by decide +kernel
theorem dX9_init_7 : decode cX9_init 7 = .ok (.newarray .long, 2) := by decide +kernel
theorem dX9_init_9 : decode cX9_init 9 = .ok (.putfield 9, 3) := by decide +kernel
theorem dX9_init_12 : decode cX9_init 12 = .ok (.aload_n 0, 1) := by decide +kernel
theorem dX9_init_13 : decode cX9_init 13 = .ok (.aload_n 1, 1) := by decide +kernel
theorem dX9_init_14 : decode cX9_init 14 = .ok (.putfield 15, 3) := by decide +kernel
theorem dX9_init_17 : decode cX9_init 17 = .ok (.return_, 1) := by decide +kernel
theorem dX9_unseen_0 : decode cX9_unseen 0 = .ok (.lconst 0, 1) := by decide +kernel
theorem dX9_unseen_1 : decode cX9_unseen 1 = .ok (.lstore 5, 2) := by decide +kernel
theorem dX9_unseen_3 : decode cX9_unseen 3 = .ok (.aload_n 0, 1) := by decide +kernel
theorem dX9_unseen_4 : decode cX9_unseen 4 = .ok (.aload_n 1, 1) := by decide +kernel
theorem dX9_unseen_5 : decode cX9_unseen 5 = .ok (.iload_n 2, 1) := by decide +kernel
theorem dX9_unseen_6 : decode cX9_unseen 6 = .ok (.iload_n 3, 1) := by decide +kernel
theorem dX9_unseen_7 : decode cX9_unseen 7 = .ok (.iload 4, 2) := by decide +kernel
theorem dX9_unseen_9 : decode cX9_unseen 9 = .ok (.invokevirtual 19, 3) := by decide +kernel
theorem dX9_unseen_12 : decode cX9_unseen 12 = .ok (.istore 7, 2) := by decide +kernel
theorem dX9_unseen_14 : decode cX9_unseen 14 = .ok (.iconst 0, 1) := by decide +kernel
theorem dX9_unseen_15 : decode cX9_unseen 15 = .ok (.istore 8, 2) := by decide +kernel
theorem dX9_unseen_17 : decode cX9_unseen 17 = .ok (.iload 8, 2) := by decide +kernel
theorem dX9_unseen_19 : decode cX9_unseen 19 = .ok (.aload_n 0, 1) := by decide +kernel
theorem dX9_unseen_20 : decode cX9_unseen 20 = .ok (.getfield 15, 3) := by decide +kernel
theorem dX9_unseen_23 : decode cX9_unseen 23 = .ok (.invokevirtual 23, 3) := by decide +kernel
theorem dX9_unseen_26 : decode cX9_unseen 26 = .ok (.if_icmp .ge 29, 3) := by decide +kernel
theorem dX9_unseen_29 : decode cX9_unseen 29 = .ok (.aload_n 0, 1) := by decide +kernel
theorem dX9_unseen_30 : decode cX9_unseen 30 = .ok (.iload 7, 2) := by decide +kernel
theorem dX9_unseen_32 : decode cX9_unseen 32 = .ok (.iload 8, 2) := by decide +kernel
theorem dX9_unseen_34 : decode cX9_unseen 34 = .ok (.invokevirtual 29, 3) := by decide +kernel
theorem dX9_unseen_37 : decode cX9_unseen 37 = .ok (.ifCond .ne 12, 3) := by decide +kernel
theorem dX9_unseen_40 : decode cX9_unseen 40 = .ok (.lload 5, 2) := by decide +kernel
theorem dX9_unseen_42 : decode cX9_unseen 42 = .ok (.lconst 1, 1) := by decide +kernel
theorem dX9_unseen_43 : decode cX9_unseen 43 = .ok (.iload 8, 2) := by decide +kernel
theorem dX9_unseen_45 : decode cX9_unseen 45 = .ok (.lshl, 1) := by decide +kernel
theorem dX9_unseen_46 : decode cX9_unseen 46 = .ok (.lor, 1) := by decide +kernel
theorem dX9_unseen_47 : decode cX9_unseen 47 = .ok (.lstore 5, 2) := by decide +kernel
theorem dX9_unseen_49 : decode cX9_unseen 49 = .ok (.iinc 8 1, 3) := by decide +kernel
theorem dX9_unseen_52 : decode cX9_unseen 52 = .ok (.goto (-35), 3) := by decide +kernel
theorem dX9_unseen_55 : decode cX9_unseen 55 = .ok (.lload 5, 2) := by decide +kernel
theorem dX9_unseen_57 : decode cX9_unseen 57 = .ok (.lreturn, 1) := by decide +kernel
theorem dX9_roomsLetting_0 : decode cX9_roomsLetting 0 = .ok (.iconst 0, 1) := by decide +kernel
theorem dX9_roomsLetting_1 : decode cX9_roomsLetting 1 = .ok (.istore 5, 2) := by decide +kernel
theorem dX9_roomsLetting_3 : decode cX9_roomsLetting 3 = .ok (.iconst 0, 1) := by decide +kernel
theorem dX9_roomsLetting_4 : decode cX9_roomsLetting 4 = .ok (.istore 6, 2) := by decide +kernel
theorem dX9_roomsLetting_6 : decode cX9_roomsLetting 6 = .ok (.iload 6, 2) := by decide +kernel
theorem dX9_roomsLetting_8 : decode cX9_roomsLetting 8 = .ok (.aload_n 0, 1) := by decide +kernel
theorem dX9_roomsLetting_9 : decode cX9_roomsLetting 9 = .ok (.getfield 15, 3) := by decide +kernel
theorem dX9_roomsLetting_12 : decode cX9_roomsLetting 12 = .ok (.getfield 33, 3) := by decide +kernel
theorem dX9_roomsLetting_15 : decode cX9_roomsLetting 15 = .ok (.if_icmp .ge 60, 3) := by decide +kernel
theorem dX9_roomsLetting_18 : decode cX9_roomsLetting 18 = .ok (.aload_n 1, 1) := by decide +kernel
theorem dX9_roomsLetting_19 : decode cX9_roomsLetting 19 = .ok (.getfield 37, 3) := by decide +kernel
theorem dX9_roomsLetting_22 : decode cX9_roomsLetting 22 = .ok (.iload 6, 2) := by decide +kernel
theorem dX9_roomsLetting_24 : decode cX9_roomsLetting 24 = .ok (.iaload, 1) := by decide +kernel
theorem dX9_roomsLetting_25 : decode cX9_roomsLetting 25 = .ok (.istore 7, 2) := by decide +kernel
theorem dX9_roomsLetting_27 : decode cX9_roomsLetting 27 = .ok (.iload 7, 2) := by decide +kernel
theorem dX9_roomsLetting_29 : decode cX9_roomsLetting 29 = .ok (.iconst (-1), 1) := by decide +kernel
theorem dX9_roomsLetting_30 : decode cX9_roomsLetting 30 = .ok (.if_icmp .eq 39, 3) := by decide +kernel
theorem dX9_roomsLetting_33 : decode cX9_roomsLetting 33 = .ok (.iload 5, 2) := by decide +kernel
theorem dX9_roomsLetting_35 : decode cX9_roomsLetting 35 = .ok (.iload 7, 2) := by decide +kernel
theorem dX9_roomsLetting_37 : decode cX9_roomsLetting 37 = .ok (.invokestatic 43, 3) := by decide +kernel
theorem dX9_roomsLetting_40 : decode cX9_roomsLetting 40 = .ok (.ifCond .ne 29, 3) := by decide +kernel
theorem dX9_roomsLetting_43 : decode cX9_roomsLetting 43 = .ok (.aload_n 0, 1) := by decide +kernel
theorem dX9_roomsLetting_44 : decode cX9_roomsLetting 44 = .ok (.getfield 15, 3) := by decide +kernel
theorem dX9_roomsLetting_47 : decode cX9_roomsLetting 47 = .ok (.aload_n 1, 1) := by decide +kernel
theorem dX9_roomsLetting_48 : decode cX9_roomsLetting 48 = .ok (.iload_n 2, 1) := by decide +kernel
theorem dX9_roomsLetting_49 : decode cX9_roomsLetting 49 = .ok (.iload 6, 2) := by decide +kernel
theorem dX9_roomsLetting_51 : decode cX9_roomsLetting 51 = .ok (.iload_n 3, 1) := by decide +kernel
theorem dX9_roomsLetting_52 : decode cX9_roomsLetting 52 = .ok (.iload 4, 2) := by decide +kernel
theorem dX9_roomsLetting_54 : decode cX9_roomsLetting 54 = .ok (.invokevirtual 46, 3) := by decide +kernel
theorem dX9_roomsLetting_57 : decode cX9_roomsLetting 57 = .ok (.ifCond .eq 12, 3) := by decide +kernel
theorem dX9_roomsLetting_60 : decode cX9_roomsLetting 60 = .ok (.iload 5, 2) := by decide +kernel
theorem dX9_roomsLetting_62 : decode cX9_roomsLetting 62 = .ok (.iconst 1, 1) := by decide +kernel
theorem dX9_roomsLetting_63 : decode cX9_roomsLetting 63 = .ok (.iload 7, 2) := by decide +kernel
theorem dX9_roomsLetting_65 : decode cX9_roomsLetting 65 = .ok (.ishl, 1) := by decide +kernel
theorem dX9_roomsLetting_66 : decode cX9_roomsLetting 66 = .ok (.ior, 1) := by decide +kernel
theorem dX9_roomsLetting_67 : decode cX9_roomsLetting 67 = .ok (.istore 5, 2) := by decide +kernel
theorem dX9_roomsLetting_69 : decode cX9_roomsLetting 69 = .ok (.iinc 6 1, 3) := by decide +kernel
theorem dX9_roomsLetting_72 : decode cX9_roomsLetting 72 = .ok (.goto (-66), 3) := by decide +kernel
theorem dX9_roomsLetting_75 : decode cX9_roomsLetting 75 = .ok (.iload 5, 2) := by decide +kernel
theorem dX9_roomsLetting_77 : decode cX9_roomsLetting 77 = .ok (.ireturn, 1) := by decide +kernel
theorem dX9_isReached_0 : decode cX9_isReached 0 = .ok (.iconst 0, 1) := by decide +kernel
theorem dX9_isReached_1 : decode cX9_isReached 1 = .ok (.istore_n 3, 1) := by decide +kernel
theorem dX9_isReached_2 : decode cX9_isReached 2 = .ok (.iload_n 3, 1) := by decide +kernel
theorem dX9_isReached_3 : decode cX9_isReached 3 = .ok (.aload_n 0, 1) := by decide +kernel
theorem dX9_isReached_4 : decode cX9_isReached 4 = .ok (.getfield 15, 3) := by decide +kernel
theorem dX9_isReached_7 : decode cX9_isReached 7 = .ok (.getfield 50, 3) := by decide +kernel
theorem dX9_isReached_10 : decode cX9_isReached 10 = .ok (.if_icmp .ge 31, 3) := by decide +kernel
theorem dX9_isReached_13 : decode cX9_isReached 13 = .ok (.iload_n 1, 1) := by decide +kernel
theorem dX9_isReached_14 : decode cX9_isReached 14 = .ok (.iload_n 3, 1) := by decide +kernel
theorem dX9_isReached_15 : decode cX9_isReached 15 = .ok (.invokestatic 43, 3) := by decide +kernel
theorem dX9_isReached_18 : decode cX9_isReached 18 = .ok (.ifCond .eq 17, 3) := by decide +kernel
theorem dX9_isReached_21 : decode cX9_isReached 21 = .ok (.aload_n 0, 1) := by decide +kernel
theorem dX9_isReached_22 : decode cX9_isReached 22 = .ok (.getfield 15, 3) := by decide +kernel
theorem dX9_isReached_25 : decode cX9_isReached 25 = .ok (.iload_n 3, 1) := by decide +kernel
theorem dX9_isReached_26 : decode cX9_isReached 26 = .ok (.iload_n 2, 1) := by decide +kernel
theorem dX9_isReached_27 : decode cX9_isReached 27 = .ok (.invokevirtual 53, 3) := by decide +kernel
theorem dX9_isReached_30 : decode cX9_isReached 30 = .ok (.ifCond .eq 5, 3) := by decide +kernel
theorem dX9_isReached_33 : decode cX9_isReached 33 = .ok (.iconst 1, 1) := by decide +kernel
theorem dX9_isReached_34 : decode cX9_isReached 34 = .ok (.ireturn, 1) := by decide +kernel
theorem dX9_isReached_35 : decode cX9_isReached 35 = .ok (.iinc 3 1, 3) := by decide +kernel
theorem dX9_isReached_38 : decode cX9_isReached 38 = .ok (.goto (-36), 3) := by decide +kernel
theorem dX9_isReached_41 : decode cX9_isReached 41 = .ok (.iconst 0, 1) := by decide +kernel
theorem dX9_isReached_42 : decode cX9_isReached 42 = .ok (.ireturn, 1) := by decide +kernel
theorem dX9_beside_0 : decode cX9_beside 0 = .ok (.lconst 0, 1) := by decide +kernel
theorem dX9_beside_1 : decode cX9_beside 1 = .ok (.lstore_n 3, 1) := by decide +kernel
theorem dX9_beside_2 : decode cX9_beside 2 = .ok (.iconst 0, 1) := by decide +kernel
theorem dX9_beside_3 : decode cX9_beside 3 = .ok (.istore 5, 2) := by decide +kernel
theorem dX9_beside_5 : decode cX9_beside 5 = .ok (.iload 5, 2) := by decide +kernel
theorem dX9_beside_7 : decode cX9_beside 7 = .ok (.aload_n 0, 1) := by decide +kernel
theorem dX9_beside_8 : decode cX9_beside 8 = .ok (.getfield 15, 3) := by decide +kernel
theorem dX9_beside_11 : decode cX9_beside 11 = .ok (.invokevirtual 23, 3) := by decide +kernel
theorem dX9_beside_14 : decode cX9_beside 14 = .ok (.if_icmp .ge 29, 3) := by decide +kernel
theorem dX9_beside_17 : decode cX9_beside 17 = .ok (.lload_n 1, 1) := by decide +kernel
theorem dX9_beside_18 : decode cX9_beside 18 = .ok (.iload 5, 2) := by decide +kernel
theorem dX9_beside_20 : decode cX9_beside 20 = .ok (.lushr, 1) := by decide +kernel
theorem dX9_beside_21 : decode cX9_beside 21 = .ok (.lconst 1, 1) := by decide +kernel
theorem dX9_beside_22 : decode cX9_beside 22 = .ok (.land, 1) := by decide +kernel
theorem dX9_beside_23 : decode cX9_beside 23 = .ok (.lconst 0, 1) := by decide +kernel
theorem dX9_beside_24 : decode cX9_beside 24 = .ok (.lcmp, 1) := by decide +kernel
theorem dX9_beside_25 : decode cX9_beside 25 = .ok (.ifCond .eq 12, 3) := by decide +kernel
theorem dX9_beside_28 : decode cX9_beside 28 = .ok (.lload_n 3, 1) := by decide +kernel
theorem dX9_beside_29 : decode cX9_beside 29 = .ok (.aload_n 0, 1) := by decide +kernel
theorem dX9_beside_30 : decode cX9_beside 30 = .ok (.iload 5, 2) := by decide +kernel
theorem dX9_beside_32 : decode cX9_beside 32 = .ok (.invokevirtual 56, 3) := by decide +kernel
theorem dX9_beside_35 : decode cX9_beside 35 = .ok (.lor, 1) := by decide +kernel
theorem dX9_beside_36 : decode cX9_beside 36 = .ok (.lstore_n 3, 1) := by decide +kernel
theorem dX9_beside_37 : decode cX9_beside 37 = .ok (.iinc 5 1, 3) := by decide +kernel
theorem dX9_beside_40 : decode cX9_beside 40 = .ok (.goto (-35), 3) := by decide +kernel
theorem dX9_beside_43 : decode cX9_beside 43 = .ok (.lload_n 3, 1) := by decide +kernel
theorem dX9_beside_44 : decode cX9_beside 44 = .ok (.lreturn, 1) := by decide +kernel
theorem dX9_besideOne_0 : decode cX9_besideOne 0 = .ok (.lconst 0, 1) := by decide +kernel
theorem dX9_besideOne_1 : decode cX9_besideOne 1 = .ok (.lstore_n 2, 1) := by decide +kernel
theorem dX9_besideOne_2 : decode cX9_besideOne 2 = .ok (.iconst 0, 1) := by decide +kernel
theorem dX9_besideOne_3 : decode cX9_besideOne 3 = .ok (.istore 4, 2) := by decide +kernel
theorem dX9_besideOne_5 : decode cX9_besideOne 5 = .ok (.iload 4, 2) := by decide +kernel
theorem dX9_besideOne_7 : decode cX9_besideOne 7 = .ok (.iconst 4, 1) := by decide +kernel
theorem dX9_besideOne_8 : decode cX9_besideOne 8 = .ok (.if_icmp .ge 34, 3) := by decide +kernel
theorem dX9_besideOne_11 : decode cX9_besideOne 11 = .ok (.aload_n 0, 1) := by decide +kernel
theorem dX9_besideOne_12 : decode cX9_besideOne 12 = .ok (.getfield 15, 3) := by decide +kernel
theorem dX9_besideOne_15 : decode cX9_besideOne 15 = .ok (.iload_n 1, 1) := by decide +kernel
theorem dX9_besideOne_16 : decode cX9_besideOne 16 = .ok (.iload 4, 2) := by decide +kernel
theorem dX9_besideOne_18 : decode cX9_besideOne 18 = .ok (.invokevirtual 60, 3) := by decide +kernel
theorem dX9_besideOne_21 : decode cX9_besideOne 21 = .ok (.istore 5, 2) := by decide +kernel
theorem dX9_besideOne_23 : decode cX9_besideOne 23 = .ok (.iload 5, 2) := by decide +kernel
theorem dX9_besideOne_25 : decode cX9_besideOne 25 = .ok (.iconst (-1), 1) := by decide +kernel
theorem dX9_besideOne_26 : decode cX9_besideOne 26 = .ok (.if_icmp .eq 10, 3) := by decide +kernel
theorem dX9_besideOne_29 : decode cX9_besideOne 29 = .ok (.lload_n 2, 1) := by decide +kernel
theorem dX9_besideOne_30 : decode cX9_besideOne 30 = .ok (.lconst 1, 1) := by decide +kernel
theorem dX9_besideOne_31 : decode cX9_besideOne 31 = .ok (.iload 5, 2) := by decide +kernel
theorem dX9_besideOne_33 : decode cX9_besideOne 33 = .ok (.lshl, 1) := by decide +kernel
theorem dX9_besideOne_34 : decode cX9_besideOne 34 = .ok (.lor, 1) := by decide +kernel
theorem dX9_besideOne_35 : decode cX9_besideOne 35 = .ok (.lstore_n 2, 1) := by decide +kernel
theorem dX9_besideOne_36 : decode cX9_besideOne 36 = .ok (.iinc 4 1, 3) := by decide +kernel
theorem dX9_besideOne_39 : decode cX9_besideOne 39 = .ok (.goto (-34), 3) := by decide +kernel
theorem dX9_besideOne_42 : decode cX9_besideOne 42 = .ok (.lload_n 2, 1) := by decide +kernel
theorem dX9_besideOne_43 : decode cX9_besideOne 43 = .ok (.lreturn, 1) := by decide +kernel
theorem dX9_tellShortest_0 : decode cX9_tellShortest 0 = .ok (.aload_n 0, 1) := by decide +kernel
theorem dX9_tellShortest_1 : decode cX9_tellShortest 1 = .ok (.lload_n 1, 1) := by decide +kernel
theorem dX9_tellShortest_2 : decode cX9_tellShortest 2 = .ok (.iload_n 3, 1) := by decide +kernel
theorem dX9_tellShortest_3 : decode cX9_tellShortest 3 = .ok (.iload 4, 2) := by decide +kernel
theorem dX9_tellShortest_5 : decode cX9_tellShortest 5 = .ok (.invokevirtual 64, 3) := by decide +kernel
theorem dX9_tellShortest_8 : decode cX9_tellShortest 8 = .ok (.istore 6, 2) := by decide +kernel
theorem dX9_tellShortest_10 : decode cX9_tellShortest 10 = .ok (.iload 6, 2) := by decide +kernel
theorem dX9_tellShortest_12 : decode cX9_tellShortest 12 = .ok (.iconst (-1), 1) := by decide +kernel
theorem dX9_tellShortest_13 : decode cX9_tellShortest 13 = .ok (.if_icmp .ne 6, 3) := by decide +kernel
theorem dX9_tellShortest_16 : decode cX9_tellShortest 16 = .ok (.bipush (-2), 2) := by decide +kernel
theorem dX9_tellShortest_18 : decode cX9_tellShortest 18 = .ok (.ireturn, 1) := by decide +kernel
theorem dX9_tellShortest_19 : decode cX9_tellShortest 19 = .ok (.aload 5, 2) := by decide +kernel
theorem dX9_tellShortest_21 : decode cX9_tellShortest 21 = .ok (.iload_n 3, 1) := by decide +kernel
theorem dX9_tellShortest_22 : decode cX9_tellShortest 22 = .ok (.i2l, 1) := by decide +kernel
theorem dX9_tellShortest_23 : decode cX9_tellShortest 23 = .ok (.invokevirtual 68, 3) := by decide +kernel
theorem dX9_tellShortest_26 : decode cX9_tellShortest 26 = .ok (.iload_n 3, 1) := by decide +kernel
theorem dX9_tellShortest_27 : decode cX9_tellShortest 27 = .ok (.istore 7, 2) := by decide +kernel
theorem dX9_tellShortest_29 : decode cX9_tellShortest 29 = .ok (.iload 6, 2) := by decide +kernel
theorem dX9_tellShortest_31 : decode cX9_tellShortest 31 = .ok (.iconst 1, 1) := by decide +kernel
theorem dX9_tellShortest_32 : decode cX9_tellShortest 32 = .ok (.isub, 1) := by decide +kernel
theorem dX9_tellShortest_33 : decode cX9_tellShortest 33 = .ok (.istore 8, 2) := by decide +kernel
theorem dX9_tellShortest_35 : decode cX9_tellShortest 35 = .ok (.iload 8, 2) := by decide +kernel
theorem dX9_tellShortest_37 : decode cX9_tellShortest 37 = .ok (.ifCond .lt 36, 3) := by decide +kernel
theorem dX9_tellShortest_40 : decode cX9_tellShortest 40 = .ok (.aload_n 0, 1) := by decide +kernel
theorem dX9_tellShortest_41 : decode cX9_tellShortest 41 = .ok (.iload 7, 2) := by decide +kernel
theorem dX9_tellShortest_43 : decode cX9_tellShortest 43 = .ok (.invokevirtual 56, 3) := by decide +kernel
theorem dX9_tellShortest_46 : decode cX9_tellShortest 46 = .ok (.aload_n 0, 1) := by decide +kernel
theorem dX9_tellShortest_47 : decode cX9_tellShortest 47 = .ok (.getfield 9, 3) := by decide +kernel
theorem dX9_tellShortest_50 : decode cX9_tellShortest 50 = .ok (.iload 8, 2) := by decide +kernel
theorem dX9_tellShortest_52 : decode cX9_tellShortest 52 = .ok (.laload, 1) := by decide +kernel
theorem dX9_tellShortest_53 : decode cX9_tellShortest 53 = .ok (.land, 1) := by decide +kernel
theorem dX9_tellShortest_54 : decode cX9_tellShortest 54 = .ok (.invokestatic 74, 3) := by decide +kernel
theorem dX9_tellShortest_57 : decode cX9_tellShortest 57 = .ok (.istore 7, 2) := by decide +kernel
theorem dX9_tellShortest_59 : decode cX9_tellShortest 59 = .ok (.aload 5, 2) := by decide +kernel
theorem dX9_tellShortest_61 : decode cX9_tellShortest 61 = .ok (.iload 7, 2) := by decide +kernel
theorem dX9_tellShortest_63 : decode cX9_tellShortest 63 = .ok (.i2l, 1) := by decide +kernel
theorem dX9_tellShortest_64 : decode cX9_tellShortest 64 = .ok (.invokevirtual 78, 3) := by decide +kernel
theorem dX9_tellShortest_67 : decode cX9_tellShortest 67 = .ok (.iinc 8 (-1), 3) := by decide +kernel
theorem dX9_tellShortest_70 : decode cX9_tellShortest 70 = .ok (.goto (-35), 3) := by decide +kernel
theorem dX9_tellShortest_73 : decode cX9_tellShortest 73 = .ok (.iload 6, 2) := by decide +kernel
theorem dX9_tellShortest_75 : decode cX9_tellShortest 75 = .ok (.ireturn, 1) := by decide +kernel
theorem dX9_stepsBetween_0 : decode cX9_stepsBetween 0 = .ok (.lload_n 1, 1) := by decide +kernel
theorem dX9_stepsBetween_1 : decode cX9_stepsBetween 1 = .ok (.lstore 5, 2) := by decide +kernel
theorem dX9_stepsBetween_3 : decode cX9_stepsBetween 3 = .ok (.lconst 1, 1) := by decide +kernel
theorem dX9_stepsBetween_4 : decode cX9_stepsBetween 4 = .ok (.iload 4, 2) := by decide +kernel
theorem dX9_stepsBetween_6 : decode cX9_stepsBetween 6 = .ok (.lshl, 1) := by decide +kernel
theorem dX9_stepsBetween_7 : decode cX9_stepsBetween 7 = .ok (.lload 5, 2) := by decide +kernel
theorem dX9_stepsBetween_9 : decode cX9_stepsBetween 9 = .ok (.land, 1) := by decide +kernel
theorem dX9_stepsBetween_10 : decode cX9_stepsBetween 10 = .ok (.lstore 7, 2) := by decide +kernel
theorem dX9_stepsBetween_12 : decode cX9_stepsBetween 12 = .ok (.iconst 0, 1) := by decide +kernel
theorem dX9_stepsBetween_13 : decode cX9_stepsBetween 13 = .ok (.istore 9, 2) := by decide +kernel
theorem dX9_stepsBetween_15 : decode cX9_stepsBetween 15 = .ok (.iload 9, 2) := by decide +kernel
theorem dX9_stepsBetween_17 : decode cX9_stepsBetween 17 = .ok (.bipush 36, 2) := by decide +kernel
theorem dX9_stepsBetween_19 : decode cX9_stepsBetween 19 = .ok (.if_icmp .ge 61, 3) := by decide +kernel
theorem dX9_stepsBetween_22 : decode cX9_stepsBetween 22 = .ok (.lload 7, 2) := by decide +kernel
theorem dX9_stepsBetween_24 : decode cX9_stepsBetween 24 = .ok (.lconst 0, 1) := by decide +kernel
theorem dX9_stepsBetween_25 : decode cX9_stepsBetween 25 = .ok (.lcmp, 1) := by decide +kernel
theorem dX9_stepsBetween_26 : decode cX9_stepsBetween 26 = .ok (.ifCond .eq 54, 3) := by decide +kernel
theorem dX9_stepsBetween_29 : decode cX9_stepsBetween 29 = .ok (.aload_n 0, 1) := by decide +kernel
theorem dX9_stepsBetween_30 : decode cX9_stepsBetween 30 = .ok (.getfield 9, 3) := by decide +kernel
theorem dX9_stepsBetween_33 : decode cX9_stepsBetween 33 = .ok (.iload 9, 2) := by decide +kernel
theorem dX9_stepsBetween_35 : decode cX9_stepsBetween 35 = .ok (.lload 7, 2) := by decide +kernel
theorem dX9_stepsBetween_37 : decode cX9_stepsBetween 37 = .ok (.lastore, 1) := by decide +kernel
theorem dX9_stepsBetween_38 : decode cX9_stepsBetween 38 = .ok (.lload 7, 2) := by decide +kernel
theorem dX9_stepsBetween_40 : decode cX9_stepsBetween 40 = .ok (.iload_n 3, 1) := by decide +kernel
theorem dX9_stepsBetween_41 : decode cX9_stepsBetween 41 = .ok (.lushr, 1) := by decide +kernel
theorem dX9_stepsBetween_42 : decode cX9_stepsBetween 42 = .ok (.lconst 1, 1) := by decide +kernel
theorem dX9_stepsBetween_43 : decode cX9_stepsBetween 43 = .ok (.land, 1) := by decide +kernel
theorem dX9_stepsBetween_44 : decode cX9_stepsBetween 44 = .ok (.lconst 0, 1) := by decide +kernel
theorem dX9_stepsBetween_45 : decode cX9_stepsBetween 45 = .ok (.lcmp, 1) := by decide +kernel
theorem dX9_stepsBetween_46 : decode cX9_stepsBetween 46 = .ok (.ifCond .eq 6, 3) := by decide +kernel
theorem dX9_stepsBetween_49 : decode cX9_stepsBetween 49 = .ok (.iload 9, 2) := by decide +kernel
theorem dX9_stepsBetween_51 : decode cX9_stepsBetween 51 = .ok (.ireturn, 1) := by decide +kernel
theorem dX9_stepsBetween_52 : decode cX9_stepsBetween 52 = .ok (.lload 5, 2) := by decide +kernel
theorem dX9_stepsBetween_54 : decode cX9_stepsBetween 54 = .ok (.lload 7, 2) := by decide +kernel
theorem dX9_stepsBetween_56 : decode cX9_stepsBetween 56 = .ok (.ldc2_w 81, 3) := by decide +kernel
theorem dX9_stepsBetween_59 : decode cX9_stepsBetween 59 = .ok (.lxor, 1) := by decide +kernel
theorem dX9_stepsBetween_60 : decode cX9_stepsBetween 60 = .ok (.land, 1) := by decide +kernel
theorem dX9_stepsBetween_61 : decode cX9_stepsBetween 61 = .ok (.lstore 5, 2) := by decide +kernel
theorem dX9_stepsBetween_63 : decode cX9_stepsBetween 63 = .ok (.aload_n 0, 1) := by decide +kernel
theorem dX9_stepsBetween_64 : decode cX9_stepsBetween 64 = .ok (.lload 7, 2) := by decide +kernel
theorem dX9_stepsBetween_66 : decode cX9_stepsBetween 66 = .ok (.invokevirtual 83, 3) := by decide +kernel
theorem dX9_stepsBetween_69 : decode cX9_stepsBetween 69 = .ok (.lload 5, 2) := by decide +kernel
theorem dX9_stepsBetween_71 : decode cX9_stepsBetween 71 = .ok (.land, 1) := by decide +kernel
theorem dX9_stepsBetween_72 : decode cX9_stepsBetween 72 = .ok (.lstore 7, 2) := by decide +kernel
theorem dX9_stepsBetween_74 : decode cX9_stepsBetween 74 = .ok (.iinc 9 1, 3) := by decide +kernel
theorem dX9_stepsBetween_77 : decode cX9_stepsBetween 77 = .ok (.goto (-62), 3) := by decide +kernel
theorem dX9_stepsBetween_80 : decode cX9_stepsBetween 80 = .ok (.iconst (-1), 1) := by decide +kernel
theorem dX9_stepsBetween_81 : decode cX9_stepsBetween 81 = .ok (.ireturn, 1) := by decide +kernel
theorem dX9_lowest_0 : decode cX9_lowest 0 = .ok (.lload_n 0, 1) := by decide +kernel
theorem dX9_lowest_1 : decode cX9_lowest 1 = .ok (.lload_n 0, 1) := by decide +kernel
theorem dX9_lowest_2 : decode cX9_lowest 2 = .ok (.lneg, 1) := by decide +kernel
theorem dX9_lowest_3 : decode cX9_lowest 3 = .ok (.land, 1) := by decide +kernel
theorem dX9_lowest_4 : decode cX9_lowest 4 = .ok (.lconst 1, 1) := by decide +kernel
theorem dX9_lowest_5 : decode cX9_lowest 5 = .ok (.lsub, 1) := by decide +kernel
theorem dX9_lowest_6 : decode cX9_lowest 6 = .ok (.invokestatic 87, 3) := by decide +kernel
theorem dX9_lowest_9 : decode cX9_lowest 9 = .ok (.ireturn, 1) := by decide +kernel
theorem dX10_init_0 : decode cX10_init 0 = .ok (.aload_n 0, 1) := by decide +kernel
theorem dX10_init_1 : decode cX10_init 1 = .ok (.invokespecial 3, 3) := by decide +kernel
theorem dX10_init_4 : decode cX10_init 4 = .ok (.aload_n 0, 1) := by decide +kernel
theorem dX10_init_5 : decode cX10_init 5 = .ok (.bipush 12, 2) := by decide +kernel
theorem dX10_init_7 : decode cX10_init 7 = .ok (.newarray .int, 2) := by decide +kernel
theorem dX10_init_9 : decode cX10_init 9 = .ok (.putfield 9, 3) := by decide +kernel
theorem dX10_init_12 : decode cX10_init 12 = .ok (.aload_n 0, 1) := by decide +kernel
theorem dX10_init_13 : decode cX10_init 13 = .ok (.bipush 12, 2) := by decide +kernel
theorem dX10_init_15 : decode cX10_init 15 = .ok (.newarray .int, 2) := by decide +kernel
theorem dX10_init_17 : decode cX10_init 17 = .ok (.putfield 15, 3) := by decide +kernel
theorem dX10_init_20 : decode cX10_init 20 = .ok (.aload_n 0, 1) := by decide +kernel
theorem dX10_init_21 : decode cX10_init 21 = .ok (.bipush 12, 2) := by decide +kernel
theorem dX10_init_23 : decode cX10_init 23 = .ok (.newarray .boolean, 2) := by decide +kernel
theorem dX10_init_25 : decode cX10_init 25 = .ok (.putfield 18, 3) := by decide +kernel
theorem dX10_init_28 : decode cX10_init 28 = .ok (.aload_n 0, 1) := by decide +kernel
theorem dX10_init_29 : decode cX10_init 29 = .ok (.bipush 10, 2) := by decide +kernel
theorem dX10_init_31 : decode cX10_init 31 = .ok (.newarray .int, 2) := by decide +kernel
theorem dX10_init_33 : decode cX10_init 33 = .ok (.putfield 22, 3) := by decide +kernel
theorem dX10_init_36 : decode cX10_init 36 = .ok (.aload_n 0, 1) := by decide +kernel
theorem dX10_init_37 : decode cX10_init 37 = .ok (.bipush 10, 2) := by decide +kernel
theorem dX10_init_39 : decode cX10_init 39 = .ok (.newarray .int, 2) := by decide +kernel
theorem dX10_init_41 : decode cX10_init 41 = .ok (.putfield 25, 3) := by decide +kernel
theorem dX10_init_44 : decode cX10_init 44 = .ok (.return_, 1) := by decide +kernel
theorem dX10_add_0 : decode cX10_add 0 = .ok (.aload_n 0, 1) := by decide +kernel
theorem dX10_add_1 : decode cX10_add 1 = .ok (.getfield 28, 3) := by decide +kernel
theorem dX10_add_4 : decode cX10_add 4 = .ok (.bipush 12, 2) := by decide +kernel
theorem dX10_add_6 : decode cX10_add 6 = .ok (.if_icmp .lt 5, 3) := by decide +kernel
theorem dX10_add_9 : decode cX10_add 9 = .ok (.iconst (-1), 1) := by decide +kernel
theorem dX10_add_10 : decode cX10_add 10 = .ok (.ireturn, 1) := by decide +kernel
theorem dX10_add_11 : decode cX10_add 11 = .ok (.aload_n 0, 1) := by decide +kernel
theorem dX10_add_12 : decode cX10_add 12 = .ok (.getfield 9, 3) := by decide +kernel
theorem dX10_add_15 : decode cX10_add 15 = .ok (.aload_n 0, 1) := by decide +kernel
theorem dX10_add_16 : decode cX10_add 16 = .ok (.getfield 28, 3) := by decide +kernel
theorem dX10_add_19 : decode cX10_add 19 = .ok (.iload_n 1, 1) := by decide +kernel
theorem dX10_add_20 : decode cX10_add 20 = .ok (.iastore, 1) := by decide +kernel
theorem dX10_add_21 : decode cX10_add 21 = .ok (.aload_n 0, 1) := by decide +kernel
theorem dX10_add_22 : decode cX10_add 22 = .ok (.getfield 15, 3) := by decide +kernel
theorem dX10_add_25 : decode cX10_add 25 = .ok (.aload_n 0, 1) := by decide +kernel
theorem dX10_add_26 : decode cX10_add 26 = .ok (.getfield 28, 3) := by decide +kernel
theorem dX10_add_29 : decode cX10_add 29 = .ok (.iload_n 2, 1) := by decide +kernel
theorem dX10_add_30 : decode cX10_add 30 = .ok (.iastore, 1) := by decide +kernel
theorem dX10_add_31 : decode cX10_add 31 = .ok (.aload_n 0, 1) := by decide +kernel
theorem dX10_add_32 : decode cX10_add 32 = .ok (.getfield 18, 3) := by decide +kernel
theorem dX10_add_35 : decode cX10_add 35 = .ok (.aload_n 0, 1) := by decide +kernel
theorem dX10_add_36 : decode cX10_add 36 = .ok (.getfield 28, 3) := by decide +kernel
theorem dX10_add_39 : decode cX10_add 39 = .ok (.iload_n 3, 1) := by decide +kernel
theorem dX10_add_40 : decode cX10_add 40 = .ok (.bastore, 1) := by decide +kernel
theorem dX10_add_41 : decode cX10_add 41 = .ok (.aload_n 0, 1) := by decide +kernel
theorem dX10_add_42 : decode cX10_add 42 = .ok (.dup, 1) := by decide +kernel
theorem dX10_add_43 : decode cX10_add 43 = .ok (.getfield 28, 3) := by decide +kernel
theorem dX10_add_46 : decode cX10_add 46 = .ok (.iconst 1, 1) := by decide +kernel
theorem dX10_add_47 : decode cX10_add 47 = .ok (.iadd, 1) := by decide +kernel
theorem dX10_add_48 : decode cX10_add 48 = .ok (.putfield 28, 3) := by decide +kernel
theorem dX10_add_51 : decode cX10_add 51 = .ok (.aload_n 0, 1) := by decide +kernel
theorem dX10_add_52 : decode cX10_add 52 = .ok (.getfield 28, 3) := by decide +kernel
theorem dX10_add_55 : decode cX10_add 55 = .ok (.ireturn, 1) := by decide +kernel
theorem dX10_clear_0 : decode cX10_clear 0 = .ok (.aload_n 0, 1) := by decide +kernel
theorem dX10_clear_1 : decode cX10_clear 1 = .ok (.getfield 28, 3) := by decide +kernel
theorem dX10_clear_4 : decode cX10_clear 4 = .ok (.istore_n 1, 1) := by decide +kernel
theorem dX10_clear_5 : decode cX10_clear 5 = .ok (.aload_n 0, 1) := by decide +kernel
theorem dX10_clear_6 : decode cX10_clear 6 = .ok (.iconst 0, 1) := by decide +kernel
theorem dX10_clear_7 : decode cX10_clear 7 = .ok (.putfield 28, 3) := by decide +kernel
theorem dX10_clear_10 : decode cX10_clear 10 = .ok (.iload_n 1, 1) := by decide +kernel
theorem dX10_clear_11 : decode cX10_clear 11 = .ok (.ireturn, 1) := by decide +kernel
theorem dX10_allows_0 : decode cX10_allows 0 = .ok (.iconst 0, 1) := by decide +kernel
theorem dX10_allows_1 : decode cX10_allows 1 = .ok (.istore_n 3, 1) := by decide +kernel
theorem dX10_allows_2 : decode cX10_allows 2 = .ok (.iload_n 3, 1) := by decide +kernel
theorem dX10_allows_3 : decode cX10_allows 3 = .ok (.aload_n 0, 1) := by decide +kernel
theorem dX10_allows_4 : decode cX10_allows 4 = .ok (.getfield 28, 3) := by decide +kernel
theorem dX10_allows_7 : decode cX10_allows 7 = .ok (.if_icmp .ge 37, 3) := by decide +kernel
theorem dX10_allows_10 : decode cX10_allows 10 = .ok (.iload_n 1, 1) := by decide +kernel
theorem dX10_allows_11 : decode cX10_allows 11 = .ok (.iload_n 2, 1) := by decide +kernel
theorem dX10_allows_12 : decode cX10_allows 12 = .ok (.aload_n 0, 1) := by decide +kernel
theorem dX10_allows_13 : decode cX10_allows 13 = .ok (.getfield 9, 3) := by decide +kernel
theorem dX10_allows_16 : decode cX10_allows 16 = .ok (.iload_n 3, 1) := by decide +kernel
theorem dX10_allows_17 : decode cX10_allows 17 = .ok (.iaload, 1) := by decide +kernel
theorem dX10_allows_18 : decode cX10_allows 18 = .ok (.aload_n 0, 1) := by decide +kernel
theorem dX10_allows_19 : decode cX10_allows 19 = .ok (.getfield 15, 3) := by decide +kernel
theorem dX10_allows_22 : decode cX10_allows 22 = .ok (.iload_n 3, 1) := by decide +kernel
theorem dX10_allows_23 : decode cX10_allows 23 = .ok (.iaload, 1) := by decide +kernel
theorem dX10_allows_24 : decode cX10_allows 24 = .ok (.invokestatic 32, 3) := by decide +kernel
theorem dX10_allows_27 : decode cX10_allows 27 = .ok (.aload_n 0, 1) := by decide +kernel
theorem dX10_allows_28 : decode cX10_allows 28 = .ok (.getfield 18, 3) := by decide +kernel
theorem dX10_allows_31 : decode cX10_allows 31 = .ok (.iload_n 3, 1) := by decide +kernel
theorem dX10_allows_32 : decode cX10_allows 32 = .ok (.baload, 1) := by decide +kernel
theorem dX10_allows_33 : decode cX10_allows 33 = .ok (.if_icmp .eq 5, 3) := by decide +kernel
theorem dX10_allows_36 : decode cX10_allows 36 = .ok (.iconst 0, 1) := by decide +kernel
theorem dX10_allows_37 : decode cX10_allows 37 = .ok (.ireturn, 1) := by decide +kernel
theorem dX10_allows_38 : decode cX10_allows 38 = .ok (.iinc 3 1, 3) := by decide +kernel
theorem dX10_allows_41 : decode cX10_allows 41 = .ok (.goto (-39), 3) := by decide +kernel
theorem dX10_allows_44 : decode cX10_allows 44 = .ok (.iconst 1, 1) := by decide +kernel
theorem dX10_allows_45 : decode cX10_allows 45 = .ok (.ireturn, 1) := by decide +kernel
theorem dX10_weigh_0 : decode cX10_weigh 0 = .ok (.iconst 0, 1) := by decide +kernel
theorem dX10_weigh_1 : decode cX10_weigh 1 = .ok (.istore_n 1, 1) := by decide +kernel
theorem dX10_weigh_2 : decode cX10_weigh 2 = .ok (.iconst 0, 1) := by decide +kernel
theorem dX10_weigh_3 : decode cX10_weigh 3 = .ok (.istore_n 2, 1) := by decide +kernel
theorem dX10_weigh_4 : decode cX10_weigh 4 = .ok (.iload_n 2, 1) := by decide +kernel
theorem dX10_weigh_5 : decode cX10_weigh 5 = .ok (.bipush 10, 2) := by decide +kernel
theorem dX10_weigh_7 : decode cX10_weigh 7 = .ok (.if_icmp .ge 72, 3) := by decide +kernel
theorem dX10_weigh_10 : decode cX10_weigh 10 = .ok (.aload_n 0, 1) := by decide +kernel
theorem dX10_weigh_11 : decode cX10_weigh 11 = .ok (.iload_n 2, 1) := by decide +kernel
theorem dX10_weigh_12 : decode cX10_weigh 12 = .ok (.invokevirtual 36, 3) := by decide +kernel
theorem dX10_weigh_15 : decode cX10_weigh 15 = .ok (.aload_n 0, 1) := by decide +kernel
theorem dX10_weigh_16 : decode cX10_weigh 16 = .ok (.getfield 22, 3) := by decide +kernel
theorem dX10_weigh_19 : decode cX10_weigh 19 = .ok (.iload_n 2, 1) := by decide +kernel
theorem dX10_weigh_20 : decode cX10_weigh 20 = .ok (.iaload, 1) := by decide +kernel
theorem dX10_weigh_21 : decode cX10_weigh 21 = .ok (.aload_n 0, 1) := by decide +kernel
theorem dX10_weigh_22 : decode cX10_weigh 22 = .ok (.getfield 40, 3) := by decide +kernel
theorem dX10_weigh_25 : decode cX10_weigh 25 = .ok (.ior, 1) := by decide +kernel
theorem dX10_weigh_26 : decode cX10_weigh 26 = .ok (.istore_n 3, 1) := by decide +kernel
theorem dX10_weigh_27 : decode cX10_weigh 27 = .ok (.aload_n 0, 1) := by decide +kernel
theorem dX10_weigh_28 : decode cX10_weigh 28 = .ok (.iload_n 2, 1) := by decide +kernel
theorem dX10_weigh_29 : decode cX10_weigh 29 = .ok (.aload_n 0, 1) := by decide +kernel
theorem dX10_weigh_30 : decode cX10_weigh 30 = .ok (.getfield 22, 3) := by decide +kernel
theorem dX10_weigh_33 : decode cX10_weigh 33 = .ok (.iload_n 2, 1) := by decide +kernel
theorem dX10_weigh_34 : decode cX10_weigh 34 = .ok (.iaload, 1) := by decide +kernel
theorem dX10_weigh_35 : decode cX10_weigh 35 = .ok (.invokevirtual 43, 3) := by decide +kernel
theorem dX10_weigh_38 : decode cX10_weigh 38 = .ok (.istore 4, 2) := by decide +kernel
theorem dX10_weigh_40 : decode cX10_weigh 40 = .ok (.aload_n 0, 1) := by decide +kernel
theorem dX10_weigh_41 : decode cX10_weigh 41 = .ok (.getfield 25, 3) := by decide +kernel
theorem dX10_weigh_44 : decode cX10_weigh 44 = .ok (.iload_n 2, 1) := by decide +kernel
theorem dX10_weigh_45 : decode cX10_weigh 45 = .ok (.iload 4, 2) := by decide +kernel
theorem dX10_weigh_47 : decode cX10_weigh 47 = .ok (.ifCond .eq 15, 3) := by decide +kernel
theorem dX10_weigh_50 : decode cX10_weigh 50 = .ok (.iconst 1, 1) := by decide +kernel
theorem dX10_weigh_51 : decode cX10_weigh 51 = .ok (.bipush 8, 2) := by decide +kernel
theorem dX10_weigh_53 : decode cX10_weigh 53 = .ok (.iload_n 3, 1) := by decide +kernel
theorem dX10_weigh_54 : decode cX10_weigh 54 = .ok (.invokestatic 47, 3) := by decide +kernel
theorem dX10_weigh_57 : decode cX10_weigh 57 = .ok (.isub, 1) := by decide +kernel
theorem dX10_weigh_58 : decode cX10_weigh 58 = .ok (.ishl, 1) := by decide +kernel
theorem dX10_weigh_59 : decode cX10_weigh 59 = .ok (.goto 4, 3) := by decide +kernel
theorem dX10_weigh_62 : decode cX10_weigh 62 = .ok (.iconst 0, 1) := by decide +kernel
theorem dX10_weigh_63 : decode cX10_weigh 63 = .ok (.iastore, 1) := by decide +kernel
theorem dX10_weigh_64 : decode cX10_weigh 64 = .ok (.iload_n 1, 1) := by decide +kernel
theorem dX10_weigh_65 : decode cX10_weigh 65 = .ok (.aload_n 0, 1) := by decide +kernel
theorem dX10_weigh_66 : decode cX10_weigh 66 = .ok (.getfield 25, 3) := by decide +kernel
theorem dX10_weigh_69 : decode cX10_weigh 69 = .ok (.iload_n 2, 1) := by decide +kernel
theorem dX10_weigh_70 : decode cX10_weigh 70 = .ok (.iaload, 1) := by decide +kernel
theorem dX10_weigh_71 : decode cX10_weigh 71 = .ok (.iadd, 1) := by decide +kernel
theorem dX10_weigh_72 : decode cX10_weigh 72 = .ok (.istore_n 1, 1) := by decide +kernel
theorem dX10_weigh_73 : decode cX10_weigh 73 = .ok (.iinc 2 1, 3) := by decide +kernel
theorem dX10_weigh_76 : decode cX10_weigh 76 = .ok (.goto (-72), 3) := by decide +kernel
theorem dX10_weigh_79 : decode cX10_weigh 79 = .ok (.iload_n 1, 1) := by decide +kernel
theorem dX10_weigh_80 : decode cX10_weigh 80 = .ok (.ireturn, 1) := by decide +kernel
theorem dX10_force_0 : decode cX10_force 0 = .ok (.aload_n 0, 1) := by decide +kernel
theorem dX10_force_1 : decode cX10_force 1 = .ok (.iconst 0, 1) := by decide +kernel
theorem dX10_force_2 : decode cX10_force 2 = .ok (.putfield 40, 3) := by decide +kernel
theorem dX10_force_5 : decode cX10_force 5 = .ok (.aload_n 0, 1) := by decide +kernel
theorem dX10_force_6 : decode cX10_force 6 = .ok (.getfield 22, 3) := by decide +kernel
theorem dX10_force_9 : decode cX10_force 9 = .ok (.iload_n 1, 1) := by decide +kernel
theorem dX10_force_10 : decode cX10_force 10 = .ok (.iconst 0, 1) := by decide +kernel
theorem dX10_force_11 : decode cX10_force 11 = .ok (.iastore, 1) := by decide +kernel
theorem dX10_force_12 : decode cX10_force 12 = .ok (.iconst 0, 1) := by decide +kernel
theorem dX10_force_13 : decode cX10_force 13 = .ok (.istore_n 2, 1) := by decide +kernel
theorem dX10_force_14 : decode cX10_force 14 = .ok (.iload_n 2, 1) := by decide +kernel
theorem dX10_force_15 : decode cX10_force 15 = .ok (.aload_n 0, 1) := by decide +kernel
theorem dX10_force_16 : decode cX10_force 16 = .ok (.getfield 28, 3) := by decide +kernel
theorem dX10_force_19 : decode cX10_force 19 = .ok (.if_icmp .ge 65, 3) := by decide +kernel
theorem dX10_force_22 : decode cX10_force 22 = .ok (.aload_n 0, 1) := by decide +kernel
theorem dX10_force_23 : decode cX10_force 23 = .ok (.getfield 18, 3) := by decide +kernel
theorem dX10_force_26 : decode cX10_force 26 = .ok (.iload_n 2, 1) := by decide +kernel
theorem dX10_force_27 : decode cX10_force 27 = .ok (.baload, 1) := by decide +kernel
theorem dX10_force_28 : decode cX10_force 28 = .ok (.ifCond .eq 23, 3) := by decide +kernel
theorem dX10_force_31 : decode cX10_force 31 = .ok (.aload_n 0, 1) := by decide +kernel
theorem dX10_force_32 : decode cX10_force 32 = .ok (.dup, 1) := by decide +kernel
theorem dX10_force_33 : decode cX10_force 33 = .ok (.getfield 40, 3) := by decide +kernel
theorem dX10_force_36 : decode cX10_force 36 = .ok (.iconst 1, 1) := by decide +kernel
theorem dX10_force_37 : decode cX10_force 37 = .ok (.aload_n 0, 1) := by decide +kernel
theorem dX10_force_38 : decode cX10_force 38 = .ok (.getfield 9, 3) := by decide +kernel
theorem dX10_force_41 : decode cX10_force 41 = .ok (.iload_n 2, 1) := by decide +kernel
theorem dX10_force_42 : decode cX10_force 42 = .ok (.iaload, 1) := by decide +kernel
theorem dX10_force_43 : decode cX10_force 43 = .ok (.ishl, 1) := by decide +kernel
theorem dX10_force_44 : decode cX10_force 44 = .ok (.ior, 1) := by decide +kernel
theorem dX10_force_45 : decode cX10_force 45 = .ok (.putfield 40, 3) := by decide +kernel
theorem dX10_force_48 : decode cX10_force 48 = .ok (.goto 30, 3) := by decide +kernel
theorem dX10_force_51 : decode cX10_force 51 = .ok (.aload_n 0, 1) := by decide +kernel
theorem dX10_force_52 : decode cX10_force 52 = .ok (.getfield 15, 3) := by decide +kernel
theorem dX10_force_55 : decode cX10_force 55 = .ok (.iload_n 2, 1) := by decide +kernel
theorem dX10_force_56 : decode cX10_force 56 = .ok (.iaload, 1) := by decide +kernel
theorem dX10_force_57 : decode cX10_force 57 = .ok (.iload_n 1, 1) := by decide +kernel
theorem dX10_force_58 : decode cX10_force 58 = .ok (.if_icmp .gt 20, 3) := by decide +kernel
theorem dX10_force_61 : decode cX10_force 61 = .ok (.aload_n 0, 1) := by decide +kernel
theorem dX10_force_62 : decode cX10_force 62 = .ok (.getfield 22, 3) := by decide +kernel
theorem dX10_force_65 : decode cX10_force 65 = .ok (.iload_n 1, 1) := by decide +kernel
theorem dX10_force_66 : decode cX10_force 66 = .ok (.dup2, 1) := by decide +kernel
theorem dX10_force_67 : decode cX10_force 67 = .ok (.iaload, 1) := by decide +kernel
theorem dX10_force_68 : decode cX10_force 68 = .ok (.iconst 1, 1) := by decide +kernel
theorem dX10_force_69 : decode cX10_force 69 = .ok (.aload_n 0, 1) := by decide +kernel
theorem dX10_force_70 : decode cX10_force 70 = .ok (.getfield 9, 3) := by decide +kernel
theorem dX10_force_73 : decode cX10_force 73 = .ok (.iload_n 2, 1) := by decide +kernel
theorem dX10_force_74 : decode cX10_force 74 = .ok (.iaload, 1) := by decide +kernel
theorem dX10_force_75 : decode cX10_force 75 = .ok (.ishl, 1) := by decide +kernel
theorem dX10_force_76 : decode cX10_force 76 = .ok (.ior, 1) := by decide +kernel
theorem dX10_force_77 : decode cX10_force 77 = .ok (.iastore, 1) := by decide +kernel
theorem dX10_force_78 : decode cX10_force 78 = .ok (.iinc 2 1, 3) := by decide +kernel
theorem dX10_force_81 : decode cX10_force 81 = .ok (.goto (-67), 3) := by decide +kernel
theorem dX10_force_84 : decode cX10_force 84 = .ok (.return_, 1) := by decide +kernel
theorem dX10_hiddenAt_0 : decode cX10_hiddenAt 0 = .ok (.iload_n 1, 1) := by decide +kernel
theorem dX10_hiddenAt_1 : decode cX10_hiddenAt 1 = .ok (.ifCond .lt 18, 3) := by decide +kernel
theorem dX10_hiddenAt_4 : decode cX10_hiddenAt 4 = .ok (.iload_n 1, 1) := by decide +kernel
theorem dX10_hiddenAt_5 : decode cX10_hiddenAt 5 = .ok (.bipush 10, 2) := by decide +kernel
theorem dX10_hiddenAt_7 : decode cX10_hiddenAt 7 = .ok (.if_icmp .ge 12, 3) := by decide +kernel
theorem dX10_hiddenAt_10 : decode cX10_hiddenAt 10 = .ok (.aload_n 0, 1) := by decide +kernel
theorem dX10_hiddenAt_11 : decode cX10_hiddenAt 11 = .ok (.getfield 22, 3) := by decide +kernel
theorem dX10_hiddenAt_14 : decode cX10_hiddenAt 14 = .ok (.iload_n 1, 1) := by decide +kernel
theorem dX10_hiddenAt_15 : decode cX10_hiddenAt 15 = .ok (.iaload, 1) := by decide +kernel
theorem dX10_hiddenAt_16 : decode cX10_hiddenAt 16 = .ok (.goto 4, 3) := by decide +kernel
theorem dX10_hiddenAt_19 : decode cX10_hiddenAt 19 = .ok (.iconst 0, 1) := by decide +kernel
theorem dX10_hiddenAt_20 : decode cX10_hiddenAt 20 = .ok (.ireturn, 1) := by decide +kernel
theorem dX10_mildestLimit_0 : decode cX10_mildestLimit 0 = .ok (.iconst (-1), 1) := by decide +kernel
theorem dX10_mildestLimit_1 : decode cX10_mildestLimit 1 = .ok (.istore_n 1, 1) := by decide +kernel
theorem dX10_mildestLimit_2 : decode cX10_mildestLimit 2 = .ok (.bipush 8, 2) := by decide +kernel
theorem dX10_mildestLimit_4 : decode cX10_mildestLimit 4 = .ok (.istore_n 2, 1) := by decide +kernel
theorem dX10_mildestLimit_5 : decode cX10_mildestLimit 5 = .ok (.iconst 0, 1) := by decide +kernel
theorem dX10_mildestLimit_6 : decode cX10_mildestLimit 6 = .ok (.istore_n 3, 1) := by decide +kernel
theorem dX10_mildestLimit_7 : decode cX10_mildestLimit 7 = .ok (.iload_n 3, 1) := by decide +kernel
theorem dX10_mildestLimit_8 : decode cX10_mildestLimit 8 = .ok (.bipush 10, 2) := by decide +kernel
theorem dX10_mildestLimit_10 : decode cX10_mildestLimit 10 = .ok (.if_icmp .ge 40, 3) := by decide +kernel
theorem dX10_mildestLimit_13 : decode cX10_mildestLimit 13 = .ok (.aload_n 0, 1) := by decide +kernel
theorem dX10_mildestLimit_14 : decode cX10_mildestLimit 14 = .ok (.getfield 22, 3) := by decide +kernel
theorem dX10_mildestLimit_17 : decode cX10_mildestLimit 17 = .ok (.iload_n 3, 1) := by decide +kernel
theorem dX10_mildestLimit_18 : decode cX10_mildestLimit 18 = .ok (.iaload, 1) := by decide +kernel
theorem dX10_mildestLimit_19 : decode cX10_mildestLimit 19 = .ok (.invokestatic 47, 3) := by decide +kernel
theorem dX10_mildestLimit_22 : decode cX10_mildestLimit 22 = .ok (.istore 4, 2) := by decide +kernel
theorem dX10_mildestLimit_24 : decode cX10_mildestLimit 24 = .ok (.aload_n 0, 1) := by decide +kernel
theorem dX10_mildestLimit_25 : decode cX10_mildestLimit 25 = .ok (.getfield 25, 3) := by decide +kernel
theorem dX10_mildestLimit_28 : decode cX10_mildestLimit 28 = .ok (.iload_n 3, 1) := by decide +kernel
theorem dX10_mildestLimit_29 : decode cX10_mildestLimit 29 = .ok (.iaload, 1) := by decide +kernel
theorem dX10_mildestLimit_30 : decode cX10_mildestLimit 30 = .ok (.ifCond .le 14, 3) := by decide +kernel
theorem dX10_mildestLimit_33 : decode cX10_mildestLimit 33 = .ok (.iload 4, 2) := by decide +kernel
theorem dX10_mildestLimit_35 : decode cX10_mildestLimit 35 = .ok (.iload_n 2, 1) := by decide +kernel
theorem dX10_mildestLimit_36 : decode cX10_mildestLimit 36 = .ok (.if_icmp .gt 8, 3) := by decide +kernel
theorem dX10_mildestLimit_39 : decode cX10_mildestLimit 39 = .ok (.iload_n 3, 1) := by decide +kernel
theorem dX10_mildestLimit_40 : decode cX10_mildestLimit 40 = .ok (.istore_n 1, 1) := by decide +kernel
theorem dX10_mildestLimit_41 : decode cX10_mildestLimit 41 = .ok (.iload 4, 2) := by decide +kernel
theorem dX10_mildestLimit_43 : decode cX10_mildestLimit 43 = .ok (.istore_n 2, 1) := by decide +kernel
theorem dX10_mildestLimit_44 : decode cX10_mildestLimit 44 = .ok (.iinc 3 1, 3) := by decide +kernel
theorem dX10_mildestLimit_47 : decode cX10_mildestLimit 47 = .ok (.goto (-40), 3) := by decide +kernel
theorem dX10_mildestLimit_50 : decode cX10_mildestLimit 50 = .ok (.iload_n 1, 1) := by decide +kernel
theorem dX10_mildestLimit_51 : decode cX10_mildestLimit 51 = .ok (.ireturn, 1) := by decide +kernel
theorem dX10_fittingIfSeen_0 : decode cX10_fittingIfSeen 0 = .ok (.iconst 0, 1) := by decide +kernel
theorem dX10_fittingIfSeen_1 : decode cX10_fittingIfSeen 1 = .ok (.istore_n 3, 1) := by decide +kernel
theorem dX10_fittingIfSeen_2 : decode cX10_fittingIfSeen 2 = .ok (.iconst 0, 1) := by decide +kernel
theorem dX10_fittingIfSeen_3 : decode cX10_fittingIfSeen 3 = .ok (.iload_n 2, 1) := by decide +kernel
theorem dX10_fittingIfSeen_4 : decode cX10_fittingIfSeen 4 = .ok (.invokestatic 53, 3) := by decide +kernel
theorem dX10_fittingIfSeen_7 : decode cX10_fittingIfSeen 7 = .ok (.istore 4, 2) := by decide +kernel
theorem dX10_fittingIfSeen_9 : decode cX10_fittingIfSeen 9 = .ok (.iload 4, 2) := by decide +kernel
theorem dX10_fittingIfSeen_11 : decode cX10_fittingIfSeen 11 = .ok (.bipush 10, 2) := by decide +kernel
theorem dX10_fittingIfSeen_13 : decode cX10_fittingIfSeen 13 = .ok (.if_icmp .ge 59, 3) := by decide +kernel
theorem dX10_fittingIfSeen_16 : decode cX10_fittingIfSeen 16 = .ok (.aload_n 0, 1) := by decide +kernel
theorem dX10_fittingIfSeen_17 : decode cX10_fittingIfSeen 17 = .ok (.getfield 40, 3) := by decide +kernel
theorem dX10_fittingIfSeen_20 : decode cX10_fittingIfSeen 20 = .ok (.iload_n 1, 1) := by decide +kernel
theorem dX10_fittingIfSeen_21 : decode cX10_fittingIfSeen 21 = .ok (.invokestatic 59, 3) := by decide +kernel
theorem dX10_fittingIfSeen_24 : decode cX10_fittingIfSeen 24 = .ok (.ifCond .eq 16, 3) := by decide +kernel
theorem dX10_fittingIfSeen_27 : decode cX10_fittingIfSeen 27 = .ok (.iload_n 3, 1) := by decide +kernel
theorem dX10_fittingIfSeen_28 : decode cX10_fittingIfSeen 28 = .ok (.aload_n 0, 1) := by decide +kernel
theorem dX10_fittingIfSeen_29 : decode cX10_fittingIfSeen 29 = .ok (.getfield 25, 3) := by decide +kernel
theorem dX10_fittingIfSeen_32 : decode cX10_fittingIfSeen 32 = .ok (.iload 4, 2) := by decide +kernel
theorem dX10_fittingIfSeen_34 : decode cX10_fittingIfSeen 34 = .ok (.iaload, 1) := by decide +kernel
theorem dX10_fittingIfSeen_35 : decode cX10_fittingIfSeen 35 = .ok (.iadd, 1) := by decide +kernel
theorem dX10_fittingIfSeen_36 : decode cX10_fittingIfSeen 36 = .ok (.istore_n 3, 1) := by decide +kernel
theorem dX10_fittingIfSeen_37 : decode cX10_fittingIfSeen 37 = .ok (.goto 29, 3) := by decide +kernel
theorem dX10_fittingIfSeen_40 : decode cX10_fittingIfSeen 40 = .ok (.aload_n 0, 1) := by decide +kernel
theorem dX10_fittingIfSeen_41 : decode cX10_fittingIfSeen 41 = .ok (.getfield 22, 3) := by decide +kernel
theorem dX10_fittingIfSeen_44 : decode cX10_fittingIfSeen 44 = .ok (.iload 4, 2) := by decide +kernel
theorem dX10_fittingIfSeen_46 : decode cX10_fittingIfSeen 46 = .ok (.iaload, 1) := by decide +kernel
theorem dX10_fittingIfSeen_47 : decode cX10_fittingIfSeen 47 = .ok (.iload_n 1, 1) := by decide +kernel
theorem dX10_fittingIfSeen_48 : decode cX10_fittingIfSeen 48 = .ok (.invokestatic 59, 3) := by decide +kernel
theorem dX10_fittingIfSeen_51 : decode cX10_fittingIfSeen 51 = .ok (.ifCond .ne 15, 3) := by decide +kernel
theorem dX10_fittingIfSeen_54 : decode cX10_fittingIfSeen 54 = .ok (.iload_n 3, 1) := by decide +kernel
theorem dX10_fittingIfSeen_55 : decode cX10_fittingIfSeen 55 = .ok (.aload_n 0, 1) := by decide +kernel
theorem dX10_fittingIfSeen_56 : decode cX10_fittingIfSeen 56 = .ok (.getfield 25, 3) := by decide +kernel
theorem dX10_fittingIfSeen_59 : decode cX10_fittingIfSeen 59 = .ok (.iload 4, 2) := by decide +kernel
theorem dX10_fittingIfSeen_61 : decode cX10_fittingIfSeen 61 = .ok (.iaload, 1) := by decide +kernel
theorem dX10_fittingIfSeen_62 : decode cX10_fittingIfSeen 62 = .ok (.iconst 2, 1) := by decide +kernel
theorem dX10_fittingIfSeen_63 : decode cX10_fittingIfSeen 63 = .ok (.idiv, 1) := by decide +kernel
theorem dX10_fittingIfSeen_64 : decode cX10_fittingIfSeen 64 = .ok (.iadd, 1) := by decide +kernel
theorem dX10_fittingIfSeen_65 : decode cX10_fittingIfSeen 65 = .ok (.istore_n 3, 1) := by decide +kernel
theorem dX10_fittingIfSeen_66 : decode cX10_fittingIfSeen 66 = .ok (.iinc 4 1, 3) := by decide +kernel
theorem dX10_fittingIfSeen_69 : decode cX10_fittingIfSeen 69 = .ok (.goto (-60), 3) := by decide +kernel
theorem dX10_fittingIfSeen_72 : decode cX10_fittingIfSeen 72 = .ok (.iload_n 3, 1) := by decide +kernel
theorem dX10_fittingIfSeen_73 : decode cX10_fittingIfSeen 73 = .ok (.ireturn, 1) := by decide +kernel
theorem dX11_init_0 : decode cX11_init 0 = .ok (.aload_n 0, 1) := by decide +kernel
theorem dX11_init_1 : decode cX11_init 1 = .ok (.invokespecial 1, 3) := by decide +kernel
theorem dX11_init_4 : decode cX11_init 4 = .ok (.aload_n 0, 1) := by decide +kernel
theorem dX11_init_5 : decode cX11_init 5 = .ok (.new 7, 3) := by decide +kernel
theorem dX11_init_8 : decode cX11_init 8 = .ok (.dup, 1) := by decide +kernel
theorem dX11_init_9 : decode cX11_init 9 = .ok (.invokespecial 9, 3) := by decide +kernel
theorem dX11_init_12 : decode cX11_init 12 = .ok (.putfield 10, 3) := by decide +kernel
theorem dX11_init_15 : decode cX11_init 15 = .ok (.aload_n 0, 1) := by decide +kernel
theorem dX11_init_16 : decode cX11_init 16 = .ok (.new 16, 3) := by decide +kernel
theorem dX11_init_19 : decode cX11_init 19 = .ok (.dup, 1) := by decide +kernel
theorem dX11_init_20 : decode cX11_init 20 = .ok (.aload_n 0, 1) := by decide +kernel
theorem dX11_init_21 : decode cX11_init 21 = .ok (.getfield 10, 3) := by decide +kernel
theorem dX11_init_24 : decode cX11_init 24 = .ok (.invokespecial 18, 3) := by decide +kernel
theorem dX11_init_27 : decode cX11_init 27 = .ok (.putfield 21, 3) := by decide +kernel
theorem dX11_init_30 : decode cX11_init 30 = .ok (.aload_n 0, 1) := by decide +kernel
theorem dX11_init_31 : decode cX11_init 31 = .ok (.new 25, 3) := by decide +kernel
theorem dX11_init_34 : decode cX11_init 34 = .ok (.dup, 1) := by decide +kernel
theorem dX11_init_35 : decode cX11_init 35 = .ok (.invokespecial 27, 3) := by decide +kernel
theorem dX11_init_38 : decode cX11_init 38 = .ok (.putfield 28, 3) := by decide +kernel
theorem dX11_init_41 : decode cX11_init 41 = .ok (.aload_n 0, 1) := by decide +kernel
theorem dX11_init_42 : decode cX11_init 42 = .ok (.new 32, 3) := by decide +kernel
theorem dX11_init_45 : decode cX11_init 45 = .ok (.dup, 1) := by decide +kernel
theorem dX11_init_46 : decode cX11_init 46 = .ok (.invokespecial 34, 3) := by decide +kernel
theorem dX11_init_49 : decode cX11_init 49 = .ok (.putfield 35, 3) := by decide +kernel
theorem dX11_init_52 : decode cX11_init 52 = .ok (.aload_n 0, 1) := by decide +kernel
theorem dX11_init_53 : decode cX11_init 53 = .ok (.new 32, 3) := by decide +kernel
theorem dX11_init_56 : decode cX11_init 56 = .ok (.dup, 1) := by decide +kernel
theorem dX11_init_57 : decode cX11_init 57 = .ok (.invokespecial 34, 3) := by decide +kernel
theorem dX11_init_60 : decode cX11_init 60 = .ok (.putfield 39, 3) := by decide +kernel
theorem dX11_init_63 : decode cX11_init 63 = .ok (.aload_n 0, 1) := by decide +kernel
theorem dX11_init_64 : decode cX11_init 64 = .ok (.new 32, 3) := by decide +kernel
theorem dX11_init_67 : decode cX11_init 67 = .ok (.dup, 1) := by decide +kernel
theorem dX11_init_68 : decode cX11_init 68 = .ok (.invokespecial 34, 3) := by decide +kernel
theorem dX11_init_71 : decode cX11_init 71 = .ok (.putfield 42, 3) := by decide +kernel
theorem dX11_init_74 : decode cX11_init 74 = .ok (.aload_n 0, 1) := by decide +kernel
theorem dX11_init_75 : decode cX11_init 75 = .ok (.new 45, 3) := by decide +kernel
theorem dX11_init_78 : decode cX11_init 78 = .ok (.dup, 1) := by decide +kernel
theorem dX11_init_79 : decode cX11_init 79 = .ok (.invokespecial 47, 3) := by decide +kernel
theorem dX11_init_82 : decode cX11_init 82 = .ok (.putfield 48, 3) := by decide +kernel
theorem dX11_init_85 : decode cX11_init 85 = .ok (.aload_n 0, 1) := by decide +kernel
theorem dX11_init_86 : decode cX11_init 86 = .ok (.new 52, 3) := by decide +kernel
theorem dX11_init_89 : decode cX11_init 89 = .ok (.dup, 1) := by decide +kernel
theorem dX11_init_90 : decode cX11_init 90 = .ok (.invokespecial 54, 3) := by decide +kernel
theorem dX11_init_93 : decode cX11_init 93 = .ok (.putfield 55, 3) := by decide +kernel
theorem dX11_init_96 : decode cX11_init 96 = .ok (.aload_n 0, 1) := by decide +kernel
theorem dX11_init_97 : decode cX11_init 97 = .ok (.new 59, 3) := by decide +kernel
theorem dX11_init_100 : decode cX11_init 100 = .ok (.dup, 1) := by decide +kernel
theorem dX11_init_101 : decode cX11_init 101 = .ok (.invokespecial 61, 3) := by decide +kernel
theorem dX11_init_104 : decode cX11_init 104 = .ok (.putfield 62, 3) := by decide +kernel
theorem dX11_init_107 : decode cX11_init 107 = .ok (.aload_n 0, 1) := by decide +kernel
theorem dX11_init_108 : decode cX11_init 108 = .ok (.new 66, 3) := by decide +kernel
theorem dX11_init_111 : decode cX11_init 111 = .ok (.dup, 1) := by decide +kernel
theorem dX11_init_112 : decode cX11_init 112 = .ok (.aload_n 0, 1) := by decide +kernel
theorem dX11_init_113 : decode cX11_init 113 = .ok (.getfield 28, 3) := by decide +kernel
theorem dX11_init_116 : decode cX11_init 116 = .ok (.invokespecial 68, 3) := by decide +kernel
theorem dX11_init_119 : decode cX11_init 119 = .ok (.putfield 71, 3) := by decide +kernel
theorem dX11_init_122 : decode cX11_init 122 = .ok (.aload_n 0, 1) := by decide +kernel
theorem dX11_init_123 : decode cX11_init 123 = .ok (.new 75, 3) := by decide +kernel
theorem dX11_init_126 : decode cX11_init 126 = .ok (.dup, 1) := by decide +kernel
theorem dX11_init_127 : decode cX11_init 127 = .ok (.invokespecial 77, 3) := by decide +kernel
theorem dX11_init_130 : decode cX11_init 130 = .ok (.putfield 78, 3) := by decide +kernel
theorem dX11_init_133 : decode cX11_init 133 = .ok (.aload_n 0, 1) := by decide +kernel
theorem dX11_init_134 : decode cX11_init 134 = .ok (.new 82, 3) := by decide +kernel
theorem dX11_init_137 : decode cX11_init 137 = .ok (.dup, 1) := by decide +kernel
theorem dX11_init_138 : decode cX11_init 138 = .ok (.invokespecial 84, 3) := by decide +kernel
theorem dX11_init_141 : decode cX11_init 141 = .ok (.putfield 85, 3) := by decide +kernel
theorem dX11_init_144 : decode cX11_init 144 = .ok (.aload_n 0, 1) := by decide +kernel
theorem dX11_init_145 : decode cX11_init 145 = .ok (.new 89, 3) := by decide +kernel
theorem dX11_init_148 : decode cX11_init 148 = .ok (.dup, 1) := by decide +kernel
theorem dX11_init_149 : decode cX11_init 149 = .ok (.invokespecial 91, 3) := by decide +kernel
theorem dX11_init_152 : decode cX11_init 152 = .ok (.putfield 92, 3) := by decide +kernel
theorem dX11_init_155 : decode cX11_init 155 = .ok (.return_, 1) := by decide +kernel
theorem dX11_sign_0 : decode cX11_sign 0 = .ok (.aload_n 0, 1) := by decide +kernel
theorem dX11_sign_1 : decode cX11_sign 1 = .ok (.getfield 10, 3) := by decide +kernel
theorem dX11_sign_4 : decode cX11_sign 4 = .ok (.iload_n 1, 1) := by decide +kernel
theorem dX11_sign_5 : decode cX11_sign 5 = .ok (.invokevirtual 96, 3) := by decide +kernel
theorem dX11_sign_8 : decode cX11_sign 8 = .ok (.ireturn, 1) := by decide +kernel
theorem dX11_end_0 : decode cX11_end 0 = .ok (.aload_n 0, 1) := by decide +kernel
theorem dX11_end_1 : decode cX11_end 1 = .ok (.getfield 10, 3) := by decide +kernel
theorem dX11_end_4 : decode cX11_end 4 = .ok (.iload_n 1, 1) := by decide +kernel
theorem dX11_end_5 : decode cX11_end 5 = .ok (.invokevirtual 100, 3) := by decide +kernel
theorem dX11_end_8 : decode cX11_end 8 = .ok (.ireturn, 1) := by decide +kernel
theorem dX11_square_0 : decode cX11_square 0 = .ok (.aload_n 0, 1) := by decide +kernel
theorem dX11_square_1 : decode cX11_square 1 = .ok (.getfield 21, 3) := by decide +kernel
theorem dX11_square_4 : decode cX11_square 4 = .ok (.iconst 2, 1) := by decide +kernel
theorem dX11_square_5 : decode cX11_square 5 = .ok (.invokevirtual 104, 3) := by decide +kernel
theorem dX11_square_8 : decode cX11_square 8 = .ok (.iconst 1, 1) := by decide +kernel
theorem dX11_square_9 : decode cX11_square 9 = .ok (.aload_n 0, 1) := by decide +kernel
theorem dX11_square_10 : decode cX11_square 10 = .ok (.getfield 21, 3) := by decide +kernel
theorem dX11_square_13 : decode cX11_square 13 = .ok (.bipush 49, 2) := by decide +kernel
theorem dX11_square_15 : decode cX11_square 15 = .ok (.bipush 6, 2) := by decide +kernel
theorem dX11_square_17 : decode cX11_square 17 = .ok (.invokevirtual 108, 3) := by decide +kernel
theorem dX11_square_20 : decode cX11_square 20 = .ok (.iadd, 1) := by decide +kernel
theorem dX11_square_21 : decode cX11_square 21 = .ok (.istore_n 1, 1) := by decide +kernel
theorem dX11_square_22 : decode cX11_square 22 = .ok (.iconst 1, 1) := by decide +kernel
theorem dX11_square_23 : decode cX11_square 23 = .ok (.aload_n 0, 1) := by decide +kernel
theorem dX11_square_24 : decode cX11_square 24 = .ok (.getfield 21, 3) := by decide +kernel
theorem dX11_square_27 : decode cX11_square 27 = .ok (.bipush 49, 2) := by decide +kernel
theorem dX11_square_29 : decode cX11_square 29 = .ok (.bipush 6, 2) := by decide +kernel
theorem dX11_square_31 : decode cX11_square 31 = .ok (.invokevirtual 108, 3) := by decide +kernel
theorem dX11_square_34 : decode cX11_square 34 = .ok (.iadd, 1) := by decide +kernel
theorem dX11_square_35 : decode cX11_square 35 = .ok (.istore_n 2, 1) := by decide +kernel
theorem dX11_square_36 : decode cX11_square 36 = .ok (.aload_n 0, 1) := by decide +kernel
theorem dX11_square_37 : decode cX11_square 37 = .ok (.getfield 21, 3) := by decide +kernel
theorem dX11_square_40 : decode cX11_square 40 = .ok (.iload_n 1, 1) := by decide +kernel
theorem dX11_square_41 : decode cX11_square 41 = .ok (.iload_n 2, 1) := by decide +kernel
theorem dX11_square_42 : decode cX11_square 42 = .ok (.imul, 1) := by decide +kernel
theorem dX11_square_43 : decode cX11_square 43 = .ok (.invokevirtual 112, 3) := by decide +kernel
theorem dX11_square_46 : decode cX11_square 46 = .ok (.istore_n 3, 1) := by decide +kernel
theorem dX11_square_47 : decode cX11_square 47 = .ok (.aload_n 0, 1) := by decide +kernel
theorem dX11_square_48 : decode cX11_square 48 = .ok (.getfield 10, 3) := by decide +kernel
theorem dX11_square_51 : decode cX11_square 51 = .ok (.invokevirtual 115, 3) := by decide +kernel
theorem dX11_square_54 : decode cX11_square 54 = .ok (.iload_n 3, 1) := by decide +kernel
theorem dX11_square_55 : decode cX11_square 55 = .ok (.ifCond .le 34, 3) := by decide +kernel
theorem dX11_square_58 : decode cX11_square 58 = .ok (.aload_n 0, 1) := by decide +kernel
theorem dX11_square_59 : decode cX11_square 59 = .ok (.getfield 28, 3) := by decide +kernel
theorem dX11_square_62 : decode cX11_square 62 = .ok (.iload_n 1, 1) := by decide +kernel
theorem dX11_square_63 : decode cX11_square 63 = .ok (.iload_n 2, 1) := by decide +kernel
theorem dX11_square_64 : decode cX11_square 64 = .ok (.invokevirtual 118, 3) := by decide +kernel
theorem dX11_square_67 : decode cX11_square 67 = .ok (.aload_n 0, 1) := by decide +kernel
theorem dX11_square_68 : decode cX11_square 68 = .ok (.getfield 35, 3) := by decide +kernel
theorem dX11_square_71 : decode cX11_square 71 = .ok (.invokevirtual 122, 3) := by decide +kernel
theorem dX11_square_74 : decode cX11_square 74 = .ok (.aload_n 0, 1) := by decide +kernel
theorem dX11_square_75 : decode cX11_square 75 = .ok (.getfield 48, 3) := by decide +kernel
theorem dX11_square_78 : decode cX11_square 78 = .ok (.invokevirtual 123, 3) := by decide +kernel
theorem dX11_square_81 : decode cX11_square 81 = .ok (.aload_n 0, 1) := by decide +kernel
theorem dX11_square_82 : decode cX11_square 82 = .ok (.getfield 78, 3) := by decide +kernel
theorem dX11_square_85 : decode cX11_square 85 = .ok (.invokevirtual 126, 3) := by decide +kernel
theorem dX11_square_88 : decode cX11_square 88 = .ok (.pop, 1) := by decide +kernel
theorem dX11_square_89 : decode cX11_square 89 = .ok (.iload_n 3, 1) := by decide +kernel
theorem dX11_square_90 : decode cX11_square 90 = .ok (.ireturn, 1) := by decide +kernel
theorem dX11_things_0 : decode cX11_things 0 = .ok (.aload_n 0, 1) := by decide +kernel
theorem dX11_things_1 : decode cX11_things 1 = .ok (.getfield 10, 3) := by decide +kernel
theorem dX11_things_4 : decode cX11_things 4 = .ok (.invokevirtual 129, 3) := by decide +kernel
theorem dX11_things_7 : decode cX11_things 7 = .ok (.ifCond .eq 5, 3) := by decide +kernel
theorem dX11_things_10 : decode cX11_things 10 = .ok (.iconst 0, 1) := by decide +kernel
theorem dX11_things_11 : decode cX11_things 11 = .ok (.ireturn, 1) := by decide +kernel
theorem dX11_things_12 : decode cX11_things 12 = .ok (.aload_n 0, 1) := by decide +kernel
theorem dX11_things_13 : decode cX11_things 13 = .ok (.getfield 21, 3) := by decide +kernel
theorem dX11_things_16 : decode cX11_things 16 = .ok (.bipush 47, 2) := by decide +kernel
theorem dX11_things_18 : decode cX11_things 18 = .ok (.invokevirtual 104, 3) := by decide +kernel
theorem dX11_things_21 : decode cX11_things 21 = .ok (.aload_n 0, 1) := by decide +kernel
theorem dX11_things_22 : decode cX11_things 22 = .ok (.aload_n 0, 1) := by decide +kernel
theorem dX11_things_23 : decode cX11_things 23 = .ok (.getfield 28, 3) := by decide +kernel
theorem dX11_things_26 : decode cX11_things 26 = .ok (.aload_n 0, 1) := by decide +kernel
theorem dX11_things_27 : decode cX11_things 27 = .ok (.getfield 21, 3) := by decide +kernel
theorem dX11_things_30 : decode cX11_things 30 = .ok (.aload_n 0, 1) := by decide +kernel
theorem dX11_things_31 : decode cX11_things 31 = .ok (.getfield 35, 3) := by decide +kernel
theorem dX11_things_34 : decode cX11_things 34 = .ok (.invokevirtual 133, 3) := by decide +kernel
theorem dX11_things_37 : decode cX11_things 37 = .ok (.invokevirtual 137, 3) := by decide +kernel
theorem dX11_things_40 : decode cX11_things 40 = .ok (.ireturn, 1) := by decide +kernel
theorem dX11_panes_0 : decode cX11_panes 0 = .ok (.aload_n 0, 1) := by decide +kernel
theorem dX11_panes_1 : decode cX11_panes 1 = .ok (.getfield 10, 3) := by decide +kernel
theorem dX11_panes_4 : decode cX11_panes 4 = .ok (.invokevirtual 129, 3) := by decide +kernel
theorem dX11_panes_7 : decode cX11_panes 7 = .ok (.ifCond .eq 5, 3) := by decide +kernel
theorem dX11_panes_10 : decode cX11_panes 10 = .ok (.iconst 0, 1) := by decide +kernel
theorem dX11_panes_11 : decode cX11_panes 11 = .ok (.ireturn, 1) := by decide +kernel
theorem dX11_panes_12 : decode cX11_panes 12 = .ok (.aload_n 0, 1) := by decide +kernel
theorem dX11_panes_13 : decode cX11_panes 13 = .ok (.getfield 21, 3) := by decide +kernel
theorem dX11_panes_16 : decode cX11_panes 16 = .ok (.bipush 79, 2) := by decide +kernel
theorem dX11_panes_18 : decode cX11_panes 18 = .ok (.invokevirtual 104, 3) := by decide +kernel
theorem dX11_panes_21 : decode cX11_panes 21 = .ok (.aload_n 0, 1) := by decide +kernel
theorem dX11_panes_22 : decode cX11_panes 22 = .ok (.aload_n 0, 1) := by decide +kernel
theorem dX11_panes_23 : decode cX11_panes 23 = .ok (.getfield 28, 3) := by decide +kernel
theorem dX11_panes_26 : decode cX11_panes 26 = .ok (.aload_n 0, 1) := by decide +kernel
theorem dX11_panes_27 : decode cX11_panes 27 = .ok (.getfield 21, 3) := by decide +kernel
theorem dX11_panes_30 : decode cX11_panes 30 = .ok (.aload_n 0, 1) := by decide +kernel
theorem dX11_panes_31 : decode cX11_panes 31 = .ok (.getfield 35, 3) := by decide +kernel
theorem dX11_panes_34 : decode cX11_panes 34 = .ok (.invokevirtual 140, 3) := by decide +kernel
theorem dX11_panes_37 : decode cX11_panes 37 = .ok (.invokevirtual 137, 3) := by decide +kernel
theorem dX11_panes_40 : decode cX11_panes 40 = .ok (.ireturn, 1) := by decide +kernel
theorem dX11_rooms_0 : decode cX11_rooms 0 = .ok (.aload_n 0, 1) := by decide +kernel
theorem dX11_rooms_1 : decode cX11_rooms 1 = .ok (.getfield 10, 3) := by decide +kernel
theorem dX11_rooms_4 : decode cX11_rooms 4 = .ok (.invokevirtual 129, 3) := by decide +kernel
theorem dX11_rooms_7 : decode cX11_rooms 7 = .ok (.ifCond .eq 5, 3) := by decide +kernel
theorem dX11_rooms_10 : decode cX11_rooms 10 = .ok (.iconst 0, 1) := by decide +kernel
theorem dX11_rooms_11 : decode cX11_rooms 11 = .ok (.ireturn, 1) := by decide +kernel
theorem dX11_rooms_12 : decode cX11_rooms 12 = .ok (.aload_n 0, 1) := by decide +kernel
theorem dX11_rooms_13 : decode cX11_rooms 13 = .ok (.getfield 21, 3) := by decide +kernel
theorem dX11_rooms_16 : decode cX11_rooms 16 = .ok (.bipush 15, 2) := by decide +kernel
theorem dX11_rooms_18 : decode cX11_rooms 18 = .ok (.invokevirtual 104, 3) := by decide +kernel
theorem dX11_rooms_21 : decode cX11_rooms 21 = .ok (.aload_n 0, 1) := by decide +kernel
theorem dX11_rooms_22 : decode cX11_rooms 22 = .ok (.aload_n 0, 1) := by decide +kernel
theorem dX11_rooms_23 : decode cX11_rooms 23 = .ok (.getfield 28, 3) := by decide +kernel
theorem dX11_rooms_26 : decode cX11_rooms 26 = .ok (.aload_n 0, 1) := by decide +kernel
theorem dX11_rooms_27 : decode cX11_rooms 27 = .ok (.getfield 21, 3) := by decide +kernel
theorem dX11_rooms_30 : decode cX11_rooms 30 = .ok (.invokevirtual 143, 3) := by decide +kernel
theorem dX11_rooms_33 : decode cX11_rooms 33 = .ok (.invokevirtual 137, 3) := by decide +kernel
theorem dX11_rooms_36 : decode cX11_rooms 36 = .ok (.ireturn, 1) := by decide +kernel
theorem dX11_arrived_0 : decode cX11_arrived 0 = .ok (.aload_n 0, 1) := by decide +kernel
theorem dX11_arrived_1 : decode cX11_arrived 1 = .ok (.getfield 10, 3) := by decide +kernel
theorem dX11_arrived_4 : decode cX11_arrived 4 = .ok (.invokevirtual 115, 3) := by decide +kernel
theorem dX11_arrived_7 : decode cX11_arrived 7 = .ok (.iload_n 1, 1) := by decide +kernel
theorem dX11_arrived_8 : decode cX11_arrived 8 = .ok (.ifCond .le 10, 3) := by decide +kernel
theorem dX11_arrived_11 : decode cX11_arrived 11 = .ok (.aload_n 0, 1) := by decide +kernel
theorem dX11_arrived_12 : decode cX11_arrived 12 = .ok (.getfield 48, 3) := by decide +kernel
theorem dX11_arrived_15 : decode cX11_arrived 15 = .ok (.invokevirtual 123, 3) := by decide +kernel
theorem dX11_arrived_18 : decode cX11_arrived 18 = .ok (.iload_n 1, 1) := by decide +kernel
theorem dX11_arrived_19 : decode cX11_arrived 19 = .ok (.ireturn, 1) := by decide +kernel
theorem dX11_rule_0 : decode cX11_rule 0 = .ok (.aload_n 0, 1) := by decide +kernel
theorem dX11_rule_1 : decode cX11_rule 1 = .ok (.invokevirtual 147, 3) := by decide +kernel
theorem dX11_rule_4 : decode cX11_rule 4 = .ok (.istore_n 1, 1) := by decide +kernel
theorem dX11_rule_5 : decode cX11_rule 5 = .ok (.iload_n 1, 1) := by decide +kernel
theorem dX11_rule_6 : decode cX11_rule 6 = .ok (.iconst (-1), 1) := by decide +kernel
theorem dX11_rule_7 : decode cX11_rule 7 = .ok (.if_icmp .eq 7, 3) := by decide +kernel
theorem dX11_rule_10 : decode cX11_rule 10 = .ok (.iconst (-1), 1) := by decide +kernel
theorem dX11_rule_11 : decode cX11_rule 11 = .ok (.iload_n 1, 1) := by decide +kernel
theorem dX11_rule_12 : decode cX11_rule 12 = .ok (.isub, 1) := by decide +kernel
theorem dX11_rule_13 : decode cX11_rule 13 = .ok (.ireturn, 1) := by decide +kernel
theorem dX11_rule_14 : decode cX11_rule 14 = .ok (.aload_n 0, 1) := by decide +kernel
theorem dX11_rule_15 : decode cX11_rule 15 = .ok (.invokevirtual 150, 3) := by decide +kernel
theorem dX11_rule_18 : decode cX11_rule 18 = .ok (.iconst 0, 1) := by decide +kernel
theorem dX11_rule_19 : decode cX11_rule 19 = .ok (.ireturn, 1) := by decide +kernel
theorem dX11_readSpare_0 : decode cX11_readSpare 0 = .ok (.aload_n 0, 1) := by decide +kernel
theorem dX11_readSpare_1 : decode cX11_readSpare 1 = .ok (.getfield 92, 3) := by decide +kernel
theorem dX11_readSpare_4 : decode cX11_readSpare 4 = .ok (.invokevirtual 153, 3) := by decide +kernel
theorem dX11_readSpare_7 : decode cX11_readSpare 7 = .ok (.iconst (-1), 1) := by decide +kernel
theorem dX11_readSpare_8 : decode cX11_readSpare 8 = .ok (.istore_n 1, 1) := by decide +kernel
theorem dX11_readSpare_9 : decode cX11_readSpare 9 = .ok (.aload_n 0, 1) := by decide +kernel
theorem dX11_readSpare_10 : decode cX11_readSpare 10 = .ok (.getfield 10, 3) := by decide +kernel
theorem dX11_readSpare_13 : decode cX11_readSpare 13 = .ok (.invokevirtual 129, 3) := by decide +kernel
theorem dX11_readSpare_16 : decode cX11_readSpare 16 = .ok (.ifCond .ne 31, 3) := by decide +kernel
theorem dX11_readSpare_19 : decode cX11_readSpare 19 = .ok (.aload_n 0, 1) := by decide +kernel
theorem dX11_readSpare_20 : decode cX11_readSpare 20 = .ok (.getfield 21, 3) := by decide +kernel
theorem dX11_readSpare_23 : decode cX11_readSpare 23 = .ok (.bipush 40, 2) := by decide +kernel
theorem dX11_readSpare_25 : decode cX11_readSpare 25 = .ok (.invokevirtual 104, 3) := by decide +kernel
theorem dX11_readSpare_28 : decode cX11_readSpare 28 = .ok (.aload_n 0, 1) := by decide +kernel
theorem dX11_readSpare_29 : decode cX11_readSpare 29 = .ok (.getfield 92, 3) := by decide +kernel
theorem dX11_readSpare_32 : decode cX11_readSpare 32 = .ok (.aload_n 0, 1) := by decide +kernel
theorem dX11_readSpare_33 : decode cX11_readSpare 33 = .ok (.getfield 21, 3) := by decide +kernel
theorem dX11_readSpare_36 : decode cX11_readSpare 36 = .ok (.invokevirtual 154, 3) := by decide +kernel
theorem dX11_readSpare_39 : decode cX11_readSpare 39 = .ok (.aload_n 0, 1) := by decide +kernel
theorem dX11_readSpare_40 : decode cX11_readSpare 40 = .ok (.getfield 21, 3) := by decide +kernel
theorem dX11_readSpare_43 : decode cX11_readSpare 43 = .ok (.invokevirtual 158, 3) := by decide +kernel
theorem dX11_readSpare_46 : decode cX11_readSpare 46 = .ok (.istore_n 1, 1) := by decide +kernel
theorem dX11_readSpare_47 : decode cX11_readSpare 47 = .ok (.aload_n 0, 1) := by decide +kernel
theorem dX11_readSpare_48 : decode cX11_readSpare 48 = .ok (.getfield 10, 3) := by decide +kernel
theorem dX11_readSpare_51 : decode cX11_readSpare 51 = .ok (.invokevirtual 115, 3) := by decide +kernel
theorem dX11_readSpare_54 : decode cX11_readSpare 54 = .ok (.iload_n 1, 1) := by decide +kernel
theorem dX11_readSpare_55 : decode cX11_readSpare 55 = .ok (.ireturn, 1) := by decide +kernel
theorem dX11_swapRules_0 : decode cX11_swapRules 0 = .ok (.aload_n 0, 1) := by decide +kernel
theorem dX11_swapRules_1 : decode cX11_swapRules 1 = .ok (.getfield 28, 3) := by decide +kernel
theorem dX11_swapRules_4 : decode cX11_swapRules 4 = .ok (.getfield 161, 3) := by decide +kernel
theorem dX11_swapRules_7 : decode cX11_swapRules 7 = .ok (.astore_n 1, 1) := by decide +kernel
theorem dX11_swapRules_8 : decode cX11_swapRules 8 = .ok (.aload_n 0, 1) := by decide +kernel
theorem dX11_swapRules_9 : decode cX11_swapRules 9 = .ok (.getfield 28, 3) := by decide +kernel
theorem dX11_swapRules_12 : decode cX11_swapRules 12 = .ok (.aload_n 0, 1) := by decide +kernel
theorem dX11_swapRules_13 : decode cX11_swapRules 13 = .ok (.getfield 92, 3) := by decide +kernel
theorem dX11_swapRules_16 : decode cX11_swapRules 16 = .ok (.putfield 161, 3) := by decide +kernel
theorem dX11_swapRules_19 : decode cX11_swapRules 19 = .ok (.aload_n 0, 1) := by decide +kernel
theorem dX11_swapRules_20 : decode cX11_swapRules 20 = .ok (.aload_n 1, 1) := by decide +kernel
theorem dX11_swapRules_21 : decode cX11_swapRules 21 = .ok (.putfield 92, 3) := by decide +kernel
theorem dX11_swapRules_24 : decode cX11_swapRules 24 = .ok (.return_, 1) := by decide +kernel
theorem dX11_thing_0 : decode cX11_thing 0 = .ok (.aload_n 0, 1) := by decide +kernel
theorem dX11_thing_1 : decode cX11_thing 1 = .ok (.getfield 28, 3) := by decide +kernel
theorem dX11_thing_4 : decode cX11_thing 4 = .ok (.iload_n 1, 1) := by decide +kernel
theorem dX11_thing_5 : decode cX11_thing 5 = .ok (.invokevirtual 164, 3) := by decide +kernel
theorem dX11_thing_8 : decode cX11_thing 8 = .ok (.ifCond .ne 11, 3) := by decide +kernel
theorem dX11_thing_11 : decode cX11_thing 11 = .ok (.new 167, 3) := by decide +kernel
theorem dX11_thing_14 : decode cX11_thing 14 = .ok (.dup, 1) := by decide +kernel
theorem dX11_thing_15 : decode cX11_thing 15 = .ok (.invokespecial 169, 3) := by decide +kernel
theorem dX11_thing_18 : decode cX11_thing 18 = .ok (.athrow, 1) := by decide +kernel
theorem dX11_thing_19 : decode cX11_thing 19 = .ok (.iload_n 2, 1) := by decide +kernel
theorem dX11_thing_20 : decode cX11_thing 20 = .ok (.tableswitch 89 0 4 #[36, 46, 56, 66, 76], 36) := by decide +kernel
theorem dX11_thing_56 : decode cX11_thing 56 = .ok (.aload_n 0, 1) := by decide +kernel
theorem dX11_thing_57 : decode cX11_thing 57 = .ok (.getfield 28, 3) := by decide +kernel
theorem dX11_thing_60 : decode cX11_thing 60 = .ok (.getfield 170, 3) := by decide +kernel
theorem dX11_thing_63 : decode cX11_thing 63 = .ok (.iload_n 1, 1) := by decide +kernel
theorem dX11_thing_64 : decode cX11_thing 64 = .ok (.iaload, 1) := by decide +kernel
theorem dX11_thing_65 : decode cX11_thing 65 = .ok (.ireturn, 1) := by decide +kernel
theorem dX11_thing_66 : decode cX11_thing 66 = .ok (.aload_n 0, 1) := by decide +kernel
theorem dX11_thing_67 : decode cX11_thing 67 = .ok (.getfield 28, 3) := by decide +kernel
theorem dX11_thing_70 : decode cX11_thing 70 = .ok (.getfield 174, 3) := by decide +kernel
theorem dX11_thing_73 : decode cX11_thing 73 = .ok (.iload_n 1, 1) := by decide +kernel
theorem dX11_thing_74 : decode cX11_thing 74 = .ok (.iaload, 1) := by decide +kernel
theorem dX11_thing_75 : decode cX11_thing 75 = .ok (.ireturn, 1) := by decide +kernel
theorem dX11_thing_76 : decode cX11_thing 76 = .ok (.aload_n 0, 1) := by decide +kernel
theorem dX11_thing_77 : decode cX11_thing 77 = .ok (.getfield 35, 3) := by decide +kernel
theorem dX11_thing_80 : decode cX11_thing 80 = .ok (.getfield 177, 3) := by decide +kernel
theorem dX11_thing_83 : decode cX11_thing 83 = .ok (.iload_n 1, 1) := by decide +kernel
theorem dX11_thing_84 : decode cX11_thing 84 = .ok (.iaload, 1) := by decide +kernel
theorem dX11_thing_85 : decode cX11_thing 85 = .ok (.ireturn, 1) := by decide +kernel
theorem dX11_thing_86 : decode cX11_thing 86 = .ok (.aload_n 0, 1) := by decide +kernel
theorem dX11_thing_87 : decode cX11_thing 87 = .ok (.getfield 35, 3) := by decide +kernel
theorem dX11_thing_90 : decode cX11_thing 90 = .ok (.getfield 180, 3) := by decide +kernel
theorem dX11_thing_93 : decode cX11_thing 93 = .ok (.iload_n 1, 1) := by decide +kernel
theorem dX11_thing_94 : decode cX11_thing 94 = .ok (.iaload, 1) := by decide +kernel
theorem dX11_thing_95 : decode cX11_thing 95 = .ok (.ireturn, 1) := by decide +kernel
theorem dX11_thing_96 : decode cX11_thing 96 = .ok (.aload_n 0, 1) := by decide +kernel
theorem dX11_thing_97 : decode cX11_thing 97 = .ok (.getfield 28, 3) := by decide +kernel
theorem dX11_thing_100 : decode cX11_thing 100 = .ok (.aload_n 0, 1) := by decide +kernel
theorem dX11_thing_101 : decode cX11_thing 101 = .ok (.getfield 35, 3) := by decide +kernel
theorem dX11_thing_104 : decode cX11_thing 104 = .ok (.iload_n 1, 1) := by decide +kernel
theorem dX11_thing_105 : decode cX11_thing 105 = .ok (.invokevirtual 183, 3) := by decide +kernel
theorem dX11_thing_108 : decode cX11_thing 108 = .ok (.ireturn, 1) := by decide +kernel
theorem dX11_thing_109 : decode cX11_thing 109 = .ok (.new 167, 3) := by decide +kernel
theorem dX11_thing_112 : decode cX11_thing 112 = .ok (.dup, 1) := by decide +kernel
theorem dX11_thing_113 : decode cX11_thing 113 = .ok (.invokespecial 169, 3) := by decide +kernel
theorem dX11_thing_116 : decode cX11_thing 116 = .ok (.athrow, 1) := by decide +kernel
theorem dX11_pane_0 : decode cX11_pane 0 = .ok (.aload_n 0, 1) := by decide +kernel
theorem dX11_pane_1 : decode cX11_pane 1 = .ok (.getfield 28, 3) := by decide +kernel
theorem dX11_pane_4 : decode cX11_pane 4 = .ok (.iload_n 1, 1) := by decide +kernel
theorem dX11_pane_5 : decode cX11_pane 5 = .ok (.invokevirtual 187, 3) := by decide +kernel
theorem dX11_pane_8 : decode cX11_pane 8 = .ok (.ifCond .ne 11, 3) := by decide +kernel
theorem dX11_pane_11 : decode cX11_pane 11 = .ok (.new 167, 3) := by decide +kernel
theorem dX11_pane_14 : decode cX11_pane 14 = .ok (.dup, 1) := by decide +kernel
theorem dX11_pane_15 : decode cX11_pane 15 = .ok (.invokespecial 169, 3) := by decide +kernel
theorem dX11_pane_18 : decode cX11_pane 18 = .ok (.athrow, 1) := by decide +kernel
theorem dX11_pane_19 : decode cX11_pane 19 = .ok (.iload_n 2, 1) := by decide +kernel
theorem dX11_pane_20 : decode cX11_pane 20 = .ok (.tableswitch 103 0 4 #[36, 46, 56, 66, 83], 36) := by decide +kernel
theorem dX11_pane_56 : decode cX11_pane 56 = .ok (.aload_n 0, 1) := by decide +kernel
theorem dX11_pane_57 : decode cX11_pane 57 = .ok (.getfield 28, 3) := by decide +kernel
theorem dX11_pane_60 : decode cX11_pane 60 = .ok (.getfield 190, 3) := by decide +kernel
theorem dX11_pane_63 : decode cX11_pane 63 = .ok (.iload_n 1, 1) := by decide +kernel
theorem dX11_pane_64 : decode cX11_pane 64 = .ok (.iaload, 1) := by decide +kernel
theorem dX11_pane_65 : decode cX11_pane 65 = .ok (.ireturn, 1) := by decide +kernel
theorem dX11_pane_66 : decode cX11_pane 66 = .ok (.aload_n 0, 1) := by decide +kernel
theorem dX11_pane_67 : decode cX11_pane 67 = .ok (.getfield 28, 3) := by decide +kernel
theorem dX11_pane_70 : decode cX11_pane 70 = .ok (.getfield 193, 3) := by decide +kernel
theorem dX11_pane_73 : decode cX11_pane 73 = .ok (.iload_n 1, 1) := by decide +kernel
theorem dX11_pane_74 : decode cX11_pane 74 = .ok (.iaload, 1) := by decide +kernel
theorem dX11_pane_75 : decode cX11_pane 75 = .ok (.ireturn, 1) := by decide +kernel
theorem dX11_pane_76 : decode cX11_pane 76 = .ok (.aload_n 0, 1) := by decide +kernel
theorem dX11_pane_77 : decode cX11_pane 77 = .ok (.getfield 35, 3) := by decide +kernel
theorem dX11_pane_80 : decode cX11_pane 80 = .ok (.getfield 196, 3) := by decide +kernel
theorem dX11_pane_83 : decode cX11_pane 83 = .ok (.iload_n 1, 1) := by decide +kernel
theorem dX11_pane_84 : decode cX11_pane 84 = .ok (.iaload, 1) := by decide +kernel
theorem dX11_pane_85 : decode cX11_pane 85 = .ok (.ireturn, 1) := by decide +kernel
theorem dX11_pane_86 : decode cX11_pane 86 = .ok (.aload_n 0, 1) := by decide +kernel
theorem dX11_pane_87 : decode cX11_pane 87 = .ok (.getfield 35, 3) := by decide +kernel
theorem dX11_pane_90 : decode cX11_pane 90 = .ok (.iload_n 1, 1) := by decide +kernel
theorem dX11_pane_91 : decode cX11_pane 91 = .ok (.invokevirtual 199, 3) := by decide +kernel
theorem dX11_pane_94 : decode cX11_pane 94 = .ok (.ifCond .eq 7, 3) := by decide +kernel
theorem dX11_pane_97 : decode cX11_pane 97 = .ok (.iconst 1, 1) := by decide +kernel
theorem dX11_pane_98 : decode cX11_pane 98 = .ok (.goto 4, 3) := by decide +kernel
theorem dX11_pane_101 : decode cX11_pane 101 = .ok (.iconst 0, 1) := by decide +kernel
theorem dX11_pane_102 : decode cX11_pane 102 = .ok (.ireturn, 1) := by decide +kernel
theorem dX11_pane_103 : decode cX11_pane 103 = .ok (.aload_n 0, 1) := by decide +kernel
theorem dX11_pane_104 : decode cX11_pane 104 = .ok (.getfield 28, 3) := by decide +kernel
theorem dX11_pane_107 : decode cX11_pane 107 = .ok (.aload_n 0, 1) := by decide +kernel
theorem dX11_pane_108 : decode cX11_pane 108 = .ok (.getfield 35, 3) := by decide +kernel
theorem dX11_pane_111 : decode cX11_pane 111 = .ok (.iload_n 1, 1) := by decide +kernel
theorem dX11_pane_112 : decode cX11_pane 112 = .ok (.aload_n 0, 1) := by decide +kernel
theorem dX11_pane_113 : decode cX11_pane 113 = .ok (.getfield 28, 3) := by decide +kernel
theorem dX11_pane_116 : decode cX11_pane 116 = .ok (.invokevirtual 202, 3) := by decide +kernel
theorem dX11_pane_119 : decode cX11_pane 119 = .ok (.invokevirtual 205, 3) := by decide +kernel
theorem dX11_pane_122 : decode cX11_pane 122 = .ok (.ireturn, 1) := by decide +kernel
theorem dX11_pane_123 : decode cX11_pane 123 = .ok (.new 167, 3) := by decide +kernel
theorem dX11_pane_126 : decode cX11_pane 126 = .ok (.dup, 1) := by decide +kernel
theorem dX11_pane_127 : decode cX11_pane 127 = .ok (.invokespecial 169, 3) := by decide +kernel
theorem dX11_pane_130 : decode cX11_pane 130 = .ok (.athrow, 1) := by decide +kernel
theorem dX11_room_0 : decode cX11_room 0 = .ok (.aload_n 0, 1) := by decide +kernel
theorem dX11_room_1 : decode cX11_room 1 = .ok (.getfield 28, 3) := by decide +kernel
theorem dX11_room_4 : decode cX11_room 4 = .ok (.iload_n 1, 1) := by decide +kernel
theorem dX11_room_5 : decode cX11_room 5 = .ok (.invokevirtual 209, 3) := by decide +kernel
theorem dX11_room_8 : decode cX11_room 8 = .ok (.ifCond .ne 11, 3) := by decide +kernel
theorem dX11_room_11 : decode cX11_room 11 = .ok (.new 167, 3) := by decide +kernel
theorem dX11_room_14 : decode cX11_room 14 = .ok (.dup, 1) := by decide +kernel
theorem dX11_room_15 : decode cX11_room 15 = .ok (.invokespecial 169, 3) := by decide +kernel
theorem dX11_room_18 : decode cX11_room 18 = .ok (.athrow, 1) := by decide +kernel
theorem dX11_room_19 : decode cX11_room 19 = .ok (.iload_n 2, 1) := by decide +kernel
theorem dX11_room_20 : decode cX11_room 20 = .ok (.tableswitch 95 0 4 #[36, 46, 56, 69, 82], 36) := by decide +kernel
theorem dX11_room_56 : decode cX11_room 56 = .ok (.aload_n 0, 1) := by decide +kernel
theorem dX11_room_57 : decode cX11_room 57 = .ok (.getfield 28, 3) := by decide +kernel
theorem dX11_room_60 : decode cX11_room 60 = .ok (.getfield 212, 3) := by decide +kernel
theorem dX11_room_63 : decode cX11_room 63 = .ok (.iload_n 1, 1) := by decide +kernel
theorem dX11_room_64 : decode cX11_room 64 = .ok (.iaload, 1) := by decide +kernel
theorem dX11_room_65 : decode cX11_room 65 = .ok (.ireturn, 1) := by decide +kernel
theorem dX11_room_66 : decode cX11_room 66 = .ok (.aload_n 0, 1) := by decide +kernel
theorem dX11_room_67 : decode cX11_room 67 = .ok (.getfield 28, 3) := by decide +kernel
theorem dX11_room_70 : decode cX11_room 70 = .ok (.getfield 215, 3) := by decide +kernel
theorem dX11_room_73 : decode cX11_room 73 = .ok (.iload_n 1, 1) := by decide +kernel
theorem dX11_room_74 : decode cX11_room 74 = .ok (.iaload, 1) := by decide +kernel
theorem dX11_room_75 : decode cX11_room 75 = .ok (.ireturn, 1) := by decide +kernel
theorem dX11_room_76 : decode cX11_room 76 = .ok (.aload_n 0, 1) := by decide +kernel
theorem dX11_room_77 : decode cX11_room 77 = .ok (.getfield 28, 3) := by decide +kernel
theorem dX11_room_80 : decode cX11_room 80 = .ok (.aload_n 0, 1) := by decide +kernel
theorem dX11_room_81 : decode cX11_room 81 = .ok (.getfield 35, 3) := by decide +kernel
theorem dX11_room_84 : decode cX11_room 84 = .ok (.iload_n 1, 1) := by decide +kernel
theorem dX11_room_85 : decode cX11_room 85 = .ok (.invokevirtual 218, 3) := by decide +kernel
theorem dX11_room_88 : decode cX11_room 88 = .ok (.ireturn, 1) := by decide +kernel
theorem dX11_room_89 : decode cX11_room 89 = .ok (.aload_n 0, 1) := by decide +kernel
theorem dX11_room_90 : decode cX11_room 90 = .ok (.getfield 28, 3) := by decide +kernel
theorem dX11_room_93 : decode cX11_room 93 = .ok (.aload_n 0, 1) := by decide +kernel
theorem dX11_room_94 : decode cX11_room 94 = .ok (.getfield 35, 3) := by decide +kernel
theorem dX11_room_97 : decode cX11_room 97 = .ok (.iload_n 1, 1) := by decide +kernel
theorem dX11_room_98 : decode cX11_room 98 = .ok (.invokevirtual 221, 3) := by decide +kernel
theorem dX11_room_101 : decode cX11_room 101 = .ok (.ireturn, 1) := by decide +kernel
theorem dX11_room_102 : decode cX11_room 102 = .ok (.aload_n 0, 1) := by decide +kernel
theorem dX11_room_103 : decode cX11_room 103 = .ok (.getfield 28, 3) := by decide +kernel
theorem dX11_room_106 : decode cX11_room 106 = .ok (.aload_n 0, 1) := by decide +kernel
theorem dX11_room_107 : decode cX11_room 107 = .ok (.getfield 35, 3) := by decide +kernel
theorem dX11_room_110 : decode cX11_room 110 = .ok (.iload_n 1, 1) := by decide +kernel
theorem dX11_room_111 : decode cX11_room 111 = .ok (.invokevirtual 224, 3) := by decide +kernel
theorem dX11_room_114 : decode cX11_room 114 = .ok (.ireturn, 1) := by decide +kernel
theorem dX11_room_115 : decode cX11_room 115 = .ok (.new 167, 3) := by decide +kernel
theorem dX11_room_118 : decode cX11_room 118 = .ok (.dup, 1) := by decide +kernel
theorem dX11_room_119 : decode cX11_room 119 = .ok (.invokespecial 169, 3) := by decide +kernel
theorem dX11_room_122 : decode cX11_room 122 = .ok (.athrow, 1) := by decide +kernel
theorem dX11_sheet_0 : decode cX11_sheet 0 = .ok (.iload_n 1, 1) := by decide +kernel
theorem dX11_sheet_1 : decode cX11_sheet 1 = .ok (.ifCond .lt 14, 3) := by decide +kernel
theorem dX11_sheet_4 : decode cX11_sheet 4 = .ok (.iload_n 1, 1) := by decide +kernel
theorem dX11_sheet_5 : decode cX11_sheet 5 = .ok (.iconst 3, 1) := by decide +kernel
theorem dX11_sheet_6 : decode cX11_sheet 6 = .ok (.if_icmp .gt 9, 3) := by decide +kernel
theorem dX11_sheet_9 : decode cX11_sheet 9 = .ok (.iload_n 2, 1) := by decide +kernel
theorem dX11_sheet_10 : decode cX11_sheet 10 = .ok (.bipush 8, 2) := by decide +kernel
theorem dX11_sheet_12 : decode cX11_sheet 12 = .ok (.if_icmp .le 5, 3) := by decide +kernel
theorem dX11_sheet_15 : decode cX11_sheet 15 = .ok (.iconst (-1), 1) := by decide +kernel
theorem dX11_sheet_16 : decode cX11_sheet 16 = .ok (.ireturn, 1) := by decide +kernel
theorem dX11_sheet_17 : decode cX11_sheet 17 = .ok (.iload_n 1, 1) := by decide +kernel
theorem dX11_sheet_18 : decode cX11_sheet 18 = .ok (.iconst 3, 1) := by decide +kernel
theorem dX11_sheet_19 : decode cX11_sheet 19 = .ok (.if_icmp .ne 18, 3) := by decide +kernel
theorem dX11_sheet_22 : decode cX11_sheet 22 = .ok (.aload_n 0, 1) := by decide +kernel
theorem dX11_sheet_23 : decode cX11_sheet 23 = .ok (.getfield 28, 3) := by decide +kernel
theorem dX11_sheet_26 : decode cX11_sheet 26 = .ok (.iconst 0, 1) := by decide +kernel
theorem dX11_sheet_27 : decode cX11_sheet 27 = .ok (.iconst 0, 1) := by decide +kernel
theorem dX11_sheet_28 : decode cX11_sheet 28 = .ok (.iconst 0, 1) := by decide +kernel
theorem dX11_sheet_29 : decode cX11_sheet 29 = .ok (.iconst 0, 1) := by decide +kernel
theorem dX11_sheet_30 : decode cX11_sheet 30 = .ok (.invokevirtual 227, 3) := by decide +kernel
theorem dX11_sheet_33 : decode cX11_sheet 33 = .ok (.pop, 1) := by decide +kernel
theorem dX11_sheet_34 : decode cX11_sheet 34 = .ok (.bipush (-3), 2) := by decide +kernel
theorem dX11_sheet_36 : decode cX11_sheet 36 = .ok (.ireturn, 1) := by decide +kernel
theorem dX11_sheet_37 : decode cX11_sheet 37 = .ok (.iload_n 2, 1) := by decide +kernel
theorem dX11_sheet_38 : decode cX11_sheet 38 = .ok (.ifCond .ge 8, 3) := by decide +kernel
theorem dX11_sheet_41 : decode cX11_sheet 41 = .ok (.bipush (-2), 2) := by decide +kernel
theorem dX11_sheet_43 : decode cX11_sheet 43 = .ok (.goto 15, 3) := by decide +kernel
theorem dX11_sheet_46 : decode cX11_sheet 46 = .ok (.aload_n 0, 1) := by decide +kernel
theorem dX11_sheet_47 : decode cX11_sheet 47 = .ok (.getfield 28, 3) := by decide +kernel
theorem dX11_sheet_50 : decode cX11_sheet 50 = .ok (.iload_n 1, 1) := by decide +kernel
theorem dX11_sheet_51 : decode cX11_sheet 51 = .ok (.iload_n 2, 1) := by decide +kernel
theorem dX11_sheet_52 : decode cX11_sheet 52 = .ok (.iload_n 3, 1) := by decide +kernel
theorem dX11_sheet_53 : decode cX11_sheet 53 = .ok (.iload 4, 2) := by decide +kernel
theorem dX11_sheet_55 : decode cX11_sheet 55 = .ok (.invokevirtual 227, 3) := by decide +kernel
theorem dX11_sheet_58 : decode cX11_sheet 58 = .ok (.ireturn, 1) := by decide +kernel
theorem dX11_hang_0 : decode cX11_hang 0 = .ok (.aload_n 0, 1) := by decide +kernel
theorem dX11_hang_1 : decode cX11_hang 1 = .ok (.getfield 39, 3) := by decide +kernel
theorem dX11_hang_4 : decode cX11_hang 4 = .ok (.aload_n 0, 1) := by decide +kernel
theorem dX11_hang_5 : decode cX11_hang 5 = .ok (.getfield 35, 3) := by decide +kernel
theorem dX11_hang_8 : decode cX11_hang 8 = .ok (.invokevirtual 231, 3) := by decide +kernel
theorem dX11_hang_11 : decode cX11_hang 11 = .ok (.aload_n 0, 1) := by decide +kernel
theorem dX11_hang_12 : decode cX11_hang 12 = .ok (.aload_n 0, 1) := by decide +kernel
theorem dX11_hang_13 : decode cX11_hang 13 = .ok (.iload_n 1, 1) := by decide +kernel
theorem dX11_hang_14 : decode cX11_hang 14 = .ok (.iload_n 2, 1) := by decide +kernel
theorem dX11_hang_15 : decode cX11_hang 15 = .ok (.invokevirtual 235, 3) := by decide +kernel
theorem dX11_hang_18 : decode cX11_hang 18 = .ok (.invokevirtual 238, 3) := by decide +kernel
theorem dX11_hang_21 : decode cX11_hang 21 = .ok (.ireturn, 1) := by decide +kernel
theorem dX11_takes_0 : decode cX11_takes 0 = .ok (.aload_n 0, 1) := by decide +kernel
theorem dX11_takes_1 : decode cX11_takes 1 = .ok (.getfield 39, 3) := by decide +kernel
theorem dX11_takes_4 : decode cX11_takes 4 = .ok (.aload_n 0, 1) := by decide +kernel
theorem dX11_takes_5 : decode cX11_takes 5 = .ok (.getfield 35, 3) := by decide +kernel
theorem dX11_takes_8 : decode cX11_takes 8 = .ok (.invokevirtual 231, 3) := by decide +kernel
theorem dX11_takes_11 : decode cX11_takes 11 = .ok (.aload_n 0, 1) := by decide +kernel
theorem dX11_takes_12 : decode cX11_takes 12 = .ok (.aload_n 0, 1) := by decide +kernel
theorem dX11_takes_13 : decode cX11_takes 13 = .ok (.iload_n 1, 1) := by decide +kernel
theorem dX11_takes_14 : decode cX11_takes 14 = .ok (.invokevirtual 241, 3) := by decide +kernel
theorem dX11_takes_17 : decode cX11_takes 17 = .ok (.invokevirtual 238, 3) := by decide +kernel
theorem dX11_takes_20 : decode cX11_takes 20 = .ok (.ireturn, 1) := by decide +kernel
theorem dX11_ball_0 : decode cX11_ball 0 = .ok (.aload_n 0, 1) := by decide +kernel
theorem dX11_ball_1 : decode cX11_ball 1 = .ok (.getfield 39, 3) := by decide +kernel
theorem dX11_ball_4 : decode cX11_ball 4 = .ok (.aload_n 0, 1) := by decide +kernel
theorem dX11_ball_5 : decode cX11_ball 5 = .ok (.getfield 35, 3) := by decide +kernel
theorem dX11_ball_8 : decode cX11_ball 8 = .ok (.invokevirtual 231, 3) := by decide +kernel
theorem dX11_ball_11 : decode cX11_ball 11 = .ok (.aload_n 0, 1) := by decide +kernel
theorem dX11_ball_12 : decode cX11_ball 12 = .ok (.aload_n 0, 1) := by decide +kernel
theorem dX11_ball_13 : decode cX11_ball 13 = .ok (.iload_n 1, 1) := by decide +kernel
theorem dX11_ball_14 : decode cX11_ball 14 = .ok (.invokevirtual 244, 3) := by decide +kernel
theorem dX11_ball_17 : decode cX11_ball 17 = .ok (.invokevirtual 238, 3) := by decide +kernel
theorem dX11_ball_20 : decode cX11_ball 20 = .ok (.ireturn, 1) := by decide +kernel
theorem dX11_carry_0 : decode cX11_carry 0 = .ok (.aload_n 0, 1) := by decide +kernel
theorem dX11_carry_1 : decode cX11_carry 1 = .ok (.getfield 39, 3) := by decide +kernel
theorem dX11_carry_4 : decode cX11_carry 4 = .ok (.aload_n 0, 1) := by decide +kernel
theorem dX11_carry_5 : decode cX11_carry 5 = .ok (.getfield 35, 3) := by decide +kernel
theorem dX11_carry_8 : decode cX11_carry 8 = .ok (.invokevirtual 231, 3) := by decide +kernel
theorem dX11_carry_11 : decode cX11_carry 11 = .ok (.aload_n 0, 1) := by decide +kernel
theorem dX11_carry_12 : decode cX11_carry 12 = .ok (.aload_n 0, 1) := by decide +kernel
theorem dX11_carry_13 : decode cX11_carry 13 = .ok (.iload_n 1, 1) := by decide +kernel
theorem dX11_carry_14 : decode cX11_carry 14 = .ok (.iload_n 2, 1) := by decide +kernel
theorem dX11_carry_15 : decode cX11_carry 15 = .ok (.iload_n 3, 1) := by decide +kernel
theorem dX11_carry_16 : decode cX11_carry 16 = .ok (.invokevirtual 247, 3) := by decide +kernel
theorem dX11_carry_19 : decode cX11_carry 19 = .ok (.invokevirtual 238, 3) := by decide +kernel
theorem dX11_carry_22 : decode cX11_carry 22 = .ok (.ireturn, 1) := by decide +kernel
theorem dX11_remembered_0 : decode cX11_remembered 0 = .ok (.iload_n 1, 1) := by decide +kernel
theorem dX11_remembered_1 : decode cX11_remembered 1 = .ok (.ifCond .lt 14, 3) := by decide +kernel
theorem dX11_remembered_4 : decode cX11_remembered 4 = .ok (.aload_n 0, 1) := by decide +kernel
theorem dX11_remembered_5 : decode cX11_remembered 5 = .ok (.getfield 48, 3) := by decide +kernel
theorem dX11_remembered_8 : decode cX11_remembered 8 = .ok (.aload_n 0, 1) := by decide +kernel
theorem dX11_remembered_9 : decode cX11_remembered 9 = .ok (.getfield 39, 3) := by decide +kernel
theorem dX11_remembered_12 : decode cX11_remembered 12 = .ok (.invokevirtual 251, 3) := by decide +kernel
theorem dX11_remembered_15 : decode cX11_remembered 15 = .ok (.iload_n 1, 1) := by decide +kernel
theorem dX11_remembered_16 : decode cX11_remembered 16 = .ok (.ireturn, 1) := by decide +kernel
theorem dX11_hangPane_0 : decode cX11_hangPane 0 = .ok (.aload_n 0, 1) := by decide +kernel
theorem dX11_hangPane_1 : decode cX11_hangPane 1 = .ok (.getfield 28, 3) := by decide +kernel
theorem dX11_hangPane_4 : decode cX11_hangPane 4 = .ok (.iload_n 1, 1) := by decide +kernel
theorem dX11_hangPane_5 : decode cX11_hangPane 5 = .ok (.invokevirtual 187, 3) := by decide +kernel
theorem dX11_hangPane_8 : decode cX11_hangPane 8 = .ok (.ifCond .eq 14, 3) := by decide +kernel
theorem dX11_hangPane_11 : decode cX11_hangPane 11 = .ok (.aload_n 0, 1) := by decide +kernel
theorem dX11_hangPane_12 : decode cX11_hangPane 12 = .ok (.getfield 28, 3) := by decide +kernel
theorem dX11_hangPane_15 : decode cX11_hangPane 15 = .ok (.iload_n 2, 1) := by decide +kernel
theorem dX11_hangPane_16 : decode cX11_hangPane 16 = .ok (.invokevirtual 209, 3) := by decide +kernel
theorem dX11_hangPane_19 : decode cX11_hangPane 19 = .ok (.ifCond .ne 5, 3) := by decide +kernel
theorem dX11_hangPane_22 : decode cX11_hangPane 22 = .ok (.iconst (-1), 1) := by decide +kernel
theorem dX11_hangPane_23 : decode cX11_hangPane 23 = .ok (.ireturn, 1) := by decide +kernel
theorem dX11_hangPane_24 : decode cX11_hangPane 24 = .ok (.aload_n 0, 1) := by decide +kernel
theorem dX11_hangPane_25 : decode cX11_hangPane 25 = .ok (.getfield 35, 3) := by decide +kernel
theorem dX11_hangPane_28 : decode cX11_hangPane 28 = .ok (.getfield 196, 3) := by decide +kernel
theorem dX11_hangPane_31 : decode cX11_hangPane 31 = .ok (.iload_n 1, 1) := by decide +kernel
theorem dX11_hangPane_32 : decode cX11_hangPane 32 = .ok (.iaload, 1) := by decide +kernel
theorem dX11_hangPane_33 : decode cX11_hangPane 33 = .ok (.iload_n 2, 1) := by decide +kernel
theorem dX11_hangPane_34 : decode cX11_hangPane 34 = .ok (.if_icmp .ne 6, 3) := by decide +kernel
theorem dX11_hangPane_37 : decode cX11_hangPane 37 = .ok (.bipush (-2), 2) := by decide +kernel
theorem dX11_hangPane_39 : decode cX11_hangPane 39 = .ok (.ireturn, 1) := by decide +kernel
theorem dX11_hangPane_40 : decode cX11_hangPane 40 = .ok (.aload_n 0, 1) := by decide +kernel
theorem dX11_hangPane_41 : decode cX11_hangPane 41 = .ok (.getfield 35, 3) := by decide +kernel
theorem dX11_hangPane_44 : decode cX11_hangPane 44 = .ok (.getfield 196, 3) := by decide +kernel
theorem dX11_hangPane_47 : decode cX11_hangPane 47 = .ok (.iload_n 1, 1) := by decide +kernel
theorem dX11_hangPane_48 : decode cX11_hangPane 48 = .ok (.iload_n 2, 1) := by decide +kernel
theorem dX11_hangPane_49 : decode cX11_hangPane 49 = .ok (.iastore, 1) := by decide +kernel
theorem dX11_hangPane_50 : decode cX11_hangPane 50 = .ok (.aload_n 0, 1) := by decide +kernel
theorem dX11_hangPane_51 : decode cX11_hangPane 51 = .ok (.getfield 28, 3) := by decide +kernel
theorem dX11_hangPane_54 : decode cX11_hangPane 54 = .ok (.aload_n 0, 1) := by decide +kernel
theorem dX11_hangPane_55 : decode cX11_hangPane 55 = .ok (.getfield 35, 3) := by decide +kernel
theorem dX11_hangPane_58 : decode cX11_hangPane 58 = .ok (.iload_n 2, 1) := by decide +kernel
theorem dX11_hangPane_59 : decode cX11_hangPane 59 = .ok (.invokevirtual 218, 3) := by decide +kernel
theorem dX11_hangPane_62 : decode cX11_hangPane 62 = .ok (.invokestatic 254, 3) := by decide +kernel
theorem dX11_hangPane_65 : decode cX11_hangPane 65 = .ok (.ireturn, 1) := by decide +kernel
theorem dX11_takeDown_0 : decode cX11_takeDown 0 = .ok (.aload_n 0, 1) := by decide +kernel
theorem dX11_takeDown_1 : decode cX11_takeDown 1 = .ok (.getfield 28, 3) := by decide +kernel
theorem dX11_takeDown_4 : decode cX11_takeDown 4 = .ok (.iload_n 1, 1) := by decide +kernel
theorem dX11_takeDown_5 : decode cX11_takeDown 5 = .ok (.invokevirtual 187, 3) := by decide +kernel
theorem dX11_takeDown_8 : decode cX11_takeDown 8 = .ok (.ifCond .ne 5, 3) := by decide +kernel
theorem dX11_takeDown_11 : decode cX11_takeDown 11 = .ok (.iconst (-1), 1) := by decide +kernel
theorem dX11_takeDown_12 : decode cX11_takeDown 12 = .ok (.ireturn, 1) := by decide +kernel
theorem dX11_takeDown_13 : decode cX11_takeDown 13 = .ok (.aload_n 0, 1) := by decide +kernel
theorem dX11_takeDown_14 : decode cX11_takeDown 14 = .ok (.getfield 35, 3) := by decide +kernel
theorem dX11_takeDown_17 : decode cX11_takeDown 17 = .ok (.getfield 196, 3) := by decide +kernel
theorem dX11_takeDown_20 : decode cX11_takeDown 20 = .ok (.iload_n 1, 1) := by decide +kernel
theorem dX11_takeDown_21 : decode cX11_takeDown 21 = .ok (.iaload, 1) := by decide +kernel
theorem dX11_takeDown_22 : decode cX11_takeDown 22 = .ok (.istore_n 2, 1) := by decide +kernel
theorem dX11_takeDown_23 : decode cX11_takeDown 23 = .ok (.iload_n 2, 1) := by decide +kernel
theorem dX11_takeDown_24 : decode cX11_takeDown 24 = .ok (.iconst (-1), 1) := by decide +kernel
theorem dX11_takeDown_25 : decode cX11_takeDown 25 = .ok (.if_icmp .ne 6, 3) := by decide +kernel
theorem dX11_takeDown_28 : decode cX11_takeDown 28 = .ok (.bipush (-2), 2) := by decide +kernel
theorem dX11_takeDown_30 : decode cX11_takeDown 30 = .ok (.ireturn, 1) := by decide +kernel
theorem dX11_takeDown_31 : decode cX11_takeDown 31 = .ok (.aload_n 0, 1) := by decide +kernel
theorem dX11_takeDown_32 : decode cX11_takeDown 32 = .ok (.getfield 35, 3) := by decide +kernel
theorem dX11_takeDown_35 : decode cX11_takeDown 35 = .ok (.getfield 196, 3) := by decide +kernel
theorem dX11_takeDown_38 : decode cX11_takeDown 38 = .ok (.iload_n 1, 1) := by decide +kernel
theorem dX11_takeDown_39 : decode cX11_takeDown 39 = .ok (.iconst (-1), 1) := by decide +kernel
theorem dX11_takeDown_40 : decode cX11_takeDown 40 = .ok (.iastore, 1) := by decide +kernel
theorem dX11_takeDown_41 : decode cX11_takeDown 41 = .ok (.iload_n 2, 1) := by decide +kernel
theorem dX11_takeDown_42 : decode cX11_takeDown 42 = .ok (.ireturn, 1) := by decide +kernel
theorem dX11_breakPane_0 : decode cX11_breakPane 0 = .ok (.aload_n 0, 1) := by decide +kernel
theorem dX11_breakPane_1 : decode cX11_breakPane 1 = .ok (.getfield 28, 3) := by decide +kernel
theorem dX11_breakPane_4 : decode cX11_breakPane 4 = .ok (.iload_n 1, 1) := by decide +kernel
theorem dX11_breakPane_5 : decode cX11_breakPane 5 = .ok (.invokevirtual 187, 3) := by decide +kernel
theorem dX11_breakPane_8 : decode cX11_breakPane 8 = .ok (.ifCond .ne 5, 3) := by decide +kernel
theorem dX11_breakPane_11 : decode cX11_breakPane 11 = .ok (.iconst (-1), 1) := by decide +kernel
theorem dX11_breakPane_12 : decode cX11_breakPane 12 = .ok (.ireturn, 1) := by decide +kernel
theorem dX11_breakPane_13 : decode cX11_breakPane 13 = .ok (.aload_n 0, 1) := by decide +kernel
theorem dX11_breakPane_14 : decode cX11_breakPane 14 = .ok (.getfield 35, 3) := by decide +kernel
theorem dX11_breakPane_17 : decode cX11_breakPane 17 = .ok (.iload_n 1, 1) := by decide +kernel
theorem dX11_breakPane_18 : decode cX11_breakPane 18 = .ok (.invokevirtual 199, 3) := by decide +kernel
theorem dX11_breakPane_21 : decode cX11_breakPane 21 = .ok (.ifCond .eq 6, 3) := by decide +kernel
theorem dX11_breakPane_24 : decode cX11_breakPane 24 = .ok (.bipush (-2), 2) := by decide +kernel
theorem dX11_breakPane_26 : decode cX11_breakPane 26 = .ok (.ireturn, 1) := by decide +kernel
theorem dX11_breakPane_27 : decode cX11_breakPane 27 = .ok (.aload_n 0, 1) := by decide +kernel
theorem dX11_breakPane_28 : decode cX11_breakPane 28 = .ok (.getfield 35, 3) := by decide +kernel
theorem dX11_breakPane_31 : decode cX11_breakPane 31 = .ok (.dup, 1) := by decide +kernel
theorem dX11_breakPane_32 : decode cX11_breakPane 32 = .ok (.getfield 259, 3) := by decide +kernel
theorem dX11_breakPane_35 : decode cX11_breakPane 35 = .ok (.iconst 1, 1) := by decide +kernel
theorem dX11_breakPane_36 : decode cX11_breakPane 36 = .ok (.iload_n 1, 1) := by decide +kernel
theorem dX11_breakPane_37 : decode cX11_breakPane 37 = .ok (.ishl, 1) := by decide +kernel
theorem dX11_breakPane_38 : decode cX11_breakPane 38 = .ok (.ior, 1) := by decide +kernel
theorem dX11_breakPane_39 : decode cX11_breakPane 39 = .ok (.putfield 259, 3) := by decide +kernel
theorem dX11_breakPane_42 : decode cX11_breakPane 42 = .ok (.aload_n 0, 1) := by decide +kernel
theorem dX11_breakPane_43 : decode cX11_breakPane 43 = .ok (.getfield 35, 3) := by decide +kernel
theorem dX11_breakPane_46 : decode cX11_breakPane 46 = .ok (.getfield 259, 3) := by decide +kernel
theorem dX11_breakPane_49 : decode cX11_breakPane 49 = .ok (.invokestatic 254, 3) := by decide +kernel
theorem dX11_breakPane_52 : decode cX11_breakPane 52 = .ok (.ireturn, 1) := by decide +kernel
theorem dX11_carryThing_0 : decode cX11_carryThing 0 = .ok (.aload_n 0, 1) := by decide +kernel
theorem dX11_carryThing_1 : decode cX11_carryThing 1 = .ok (.getfield 28, 3) := by decide +kernel
theorem dX11_carryThing_4 : decode cX11_carryThing 4 = .ok (.iload_n 1, 1) := by decide +kernel
theorem dX11_carryThing_5 : decode cX11_carryThing 5 = .ok (.invokevirtual 164, 3) := by decide +kernel
theorem dX11_carryThing_8 : decode cX11_carryThing 8 = .ok (.ifCond .eq 23, 3) := by decide +kernel
theorem dX11_carryThing_11 : decode cX11_carryThing 11 = .ok (.aload_n 0, 1) := by decide +kernel
theorem dX11_carryThing_12 : decode cX11_carryThing 12 = .ok (.getfield 28, 3) := by decide +kernel
theorem dX11_carryThing_15 : decode cX11_carryThing 15 = .ok (.iload_n 2, 1) := by decide +kernel
theorem dX11_carryThing_16 : decode cX11_carryThing 16 = .ok (.invokevirtual 263, 3) := by decide +kernel
theorem dX11_carryThing_19 : decode cX11_carryThing 19 = .ok (.ifCond .eq 12, 3) := by decide +kernel
theorem dX11_carryThing_22 : decode cX11_carryThing 22 = .ok (.iload_n 3, 1) := by decide +kernel
theorem dX11_carryThing_23 : decode cX11_carryThing 23 = .ok (.ifCond .lt 8, 3) := by decide +kernel
theorem dX11_carryThing_26 : decode cX11_carryThing 26 = .ok (.iload_n 3, 1) := by decide +kernel
theorem dX11_carryThing_27 : decode cX11_carryThing 27 = .ok (.iconst 5, 1) := by decide +kernel
theorem dX11_carryThing_28 : decode cX11_carryThing 28 = .ok (.if_icmp .lt 5, 3) := by decide +kernel
theorem dX11_carryThing_31 : decode cX11_carryThing 31 = .ok (.iconst (-1), 1) := by decide +kernel
theorem dX11_carryThing_32 : decode cX11_carryThing 32 = .ok (.ireturn, 1) := by decide +kernel
theorem dX11_carryThing_33 : decode cX11_carryThing 33 = .ok (.aload_n 0, 1) := by decide +kernel
theorem dX11_carryThing_34 : decode cX11_carryThing 34 = .ok (.getfield 35, 3) := by decide +kernel
theorem dX11_carryThing_37 : decode cX11_carryThing 37 = .ok (.getfield 177, 3) := by decide +kernel
theorem dX11_carryThing_40 : decode cX11_carryThing 40 = .ok (.iload_n 1, 1) := by decide +kernel
theorem dX11_carryThing_41 : decode cX11_carryThing 41 = .ok (.iaload, 1) := by decide +kernel
theorem dX11_carryThing_42 : decode cX11_carryThing 42 = .ok (.istore 4, 2) := by decide +kernel
theorem dX11_carryThing_44 : decode cX11_carryThing 44 = .ok (.aload_n 0, 1) := by decide +kernel
theorem dX11_carryThing_45 : decode cX11_carryThing 45 = .ok (.getfield 35, 3) := by decide +kernel
theorem dX11_carryThing_48 : decode cX11_carryThing 48 = .ok (.getfield 177, 3) := by decide +kernel
theorem dX11_carryThing_51 : decode cX11_carryThing 51 = .ok (.iload_n 1, 1) := by decide +kernel
theorem dX11_carryThing_52 : decode cX11_carryThing 52 = .ok (.iload_n 2, 1) := by decide +kernel
theorem dX11_carryThing_53 : decode cX11_carryThing 53 = .ok (.iastore, 1) := by decide +kernel
theorem dX11_carryThing_54 : decode cX11_carryThing 54 = .ok (.aload_n 0, 1) := by decide +kernel
theorem dX11_carryThing_55 : decode cX11_carryThing 55 = .ok (.getfield 35, 3) := by decide +kernel
theorem dX11_carryThing_58 : decode cX11_carryThing 58 = .ok (.getfield 180, 3) := by decide +kernel
theorem dX11_carryThing_61 : decode cX11_carryThing 61 = .ok (.iload_n 1, 1) := by decide +kernel
theorem dX11_carryThing_62 : decode cX11_carryThing 62 = .ok (.iload_n 3, 1) := by decide +kernel
theorem dX11_carryThing_63 : decode cX11_carryThing 63 = .ok (.iastore, 1) := by decide +kernel
theorem dX11_carryThing_64 : decode cX11_carryThing 64 = .ok (.iload 4, 2) := by decide +kernel
theorem dX11_carryThing_66 : decode cX11_carryThing 66 = .ok (.ireturn, 1) := by decide +kernel
theorem dX11_hours_0 : decode cX11_hours 0 = .ok (.iload_n 1, 1) := by decide +kernel
theorem dX11_hours_1 : decode cX11_hours 1 = .ok (.ifCond .lt 9, 3) := by decide +kernel
theorem dX11_hours_4 : decode cX11_hours 4 = .ok (.iload_n 1, 1) := by decide +kernel
theorem dX11_hours_5 : decode cX11_hours 5 = .ok (.bipush 60, 2) := by decide +kernel
theorem dX11_hours_7 : decode cX11_hours 7 = .ok (.if_icmp .le 5, 3) := by decide +kernel
theorem dX11_hours_10 : decode cX11_hours 10 = .ok (.iconst (-1), 1) := by decide +kernel
theorem dX11_hours_11 : decode cX11_hours 11 = .ok (.ireturn, 1) := by decide +kernel
theorem dX11_hours_12 : decode cX11_hours 12 = .ok (.aload_n 0, 1) := by decide +kernel
theorem dX11_hours_13 : decode cX11_hours 13 = .ok (.getfield 48, 3) := by decide +kernel
theorem dX11_hours_16 : decode cX11_hours 16 = .ok (.aload_n 0, 1) := by decide +kernel
theorem dX11_hours_17 : decode cX11_hours 17 = .ok (.getfield 35, 3) := by decide +kernel
theorem dX11_hours_20 : decode cX11_hours 20 = .ok (.invokevirtual 251, 3) := by decide +kernel
theorem dX11_hours_23 : decode cX11_hours 23 = .ok (.aload_n 0, 1) := by decide +kernel
theorem dX11_hours_24 : decode cX11_hours 24 = .ok (.getfield 55, 3) := by decide +kernel
theorem dX11_hours_27 : decode cX11_hours 27 = .ok (.invokevirtual 266, 3) := by decide +kernel
theorem dX11_hours_30 : decode cX11_hours 30 = .ok (.iconst 0, 1) := by decide +kernel
theorem dX11_hours_31 : decode cX11_hours 31 = .ok (.istore_n 2, 1) := by decide +kernel
theorem dX11_hours_32 : decode cX11_hours 32 = .ok (.iload_n 2, 1) := by decide +kernel
theorem dX11_hours_33 : decode cX11_hours 33 = .ok (.aload_n 0, 1) := by decide +kernel
theorem dX11_hours_34 : decode cX11_hours 34 = .ok (.getfield 28, 3) := by decide +kernel
theorem dX11_hours_37 : decode cX11_hours 37 = .ok (.getfield 267, 3) := by decide +kernel
theorem dX11_hours_40 : decode cX11_hours 40 = .ok (.if_icmp .ge 17, 3) := by decide +kernel
theorem dX11_hours_43 : decode cX11_hours 43 = .ok (.aload_n 0, 1) := by decide +kernel
theorem dX11_hours_44 : decode cX11_hours 44 = .ok (.getfield 55, 3) := by decide +kernel
theorem dX11_hours_47 : decode cX11_hours 47 = .ok (.lconst 0, 1) := by decide +kernel
theorem dX11_hours_48 : decode cX11_hours 48 = .ok (.invokevirtual 270, 3) := by decide +kernel
theorem dX11_hours_51 : decode cX11_hours 51 = .ok (.iinc 2 1, 3) := by decide +kernel
theorem dX11_hours_54 : decode cX11_hours 54 = .ok (.goto (-22), 3) := by decide +kernel
theorem dX11_hours_57 : decode cX11_hours 57 = .ok (.iconst 0, 1) := by decide +kernel
theorem dX11_hours_58 : decode cX11_hours 58 = .ok (.istore_n 2, 1) := by decide +kernel
theorem dX11_hours_59 : decode cX11_hours 59 = .ok (.iload_n 2, 1) := by decide +kernel
theorem dX11_hours_60 : decode cX11_hours 60 = .ok (.iload_n 1, 1) := by decide +kernel
theorem dX11_hours_61 : decode cX11_hours 61 = .ok (.if_icmp .ge 60, 3) := by decide +kernel
theorem dX11_hours_64 : decode cX11_hours 64 = .ok (.aload_n 0, 1) := by decide +kernel
theorem dX11_hours_65 : decode cX11_hours 65 = .ok (.getfield 28, 3) := by decide +kernel
theorem dX11_hours_68 : decode cX11_hours 68 = .ok (.aload_n 0, 1) := by decide +kernel
theorem dX11_hours_69 : decode cX11_hours 69 = .ok (.getfield 35, 3) := by decide +kernel
theorem dX11_hours_72 : decode cX11_hours 72 = .ok (.invokevirtual 273, 3) := by decide +kernel
theorem dX11_hours_75 : decode cX11_hours 75 = .ok (.iconst 0, 1) := by decide +kernel
theorem dX11_hours_76 : decode cX11_hours 76 = .ok (.istore_n 3, 1) := by decide +kernel
theorem dX11_hours_77 : decode cX11_hours 77 = .ok (.iload_n 3, 1) := by decide +kernel
theorem dX11_hours_78 : decode cX11_hours 78 = .ok (.aload_n 0, 1) := by decide +kernel
theorem dX11_hours_79 : decode cX11_hours 79 = .ok (.getfield 28, 3) := by decide +kernel
theorem dX11_hours_82 : decode cX11_hours 82 = .ok (.getfield 267, 3) := by decide +kernel
theorem dX11_hours_85 : decode cX11_hours 85 = .ok (.if_icmp .ge 30, 3) := by decide +kernel
theorem dX11_hours_88 : decode cX11_hours 88 = .ok (.aload_n 0, 1) := by decide +kernel
theorem dX11_hours_89 : decode cX11_hours 89 = .ok (.getfield 55, 3) := by decide +kernel
theorem dX11_hours_92 : decode cX11_hours 92 = .ok (.iload_n 3, 1) := by decide +kernel
theorem dX11_hours_93 : decode cX11_hours 93 = .ok (.aload_n 0, 1) := by decide +kernel
theorem dX11_hours_94 : decode cX11_hours 94 = .ok (.getfield 28, 3) := by decide +kernel
theorem dX11_hours_97 : decode cX11_hours 97 = .ok (.aload_n 0, 1) := by decide +kernel
theorem dX11_hours_98 : decode cX11_hours 98 = .ok (.getfield 35, 3) := by decide +kernel
theorem dX11_hours_101 : decode cX11_hours 101 = .ok (.iload_n 3, 1) := by decide +kernel
theorem dX11_hours_102 : decode cX11_hours 102 = .ok (.invokevirtual 221, 3) := by decide +kernel
theorem dX11_hours_105 : decode cX11_hours 105 = .ok (.i2l, 1) := by decide +kernel
theorem dX11_hours_106 : decode cX11_hours 106 = .ok (.invokevirtual 276, 3) := by decide +kernel
theorem dX11_hours_109 : decode cX11_hours 109 = .ok (.iinc 3 1, 3) := by decide +kernel
theorem dX11_hours_112 : decode cX11_hours 112 = .ok (.goto (-35), 3) := by decide +kernel
theorem dX11_hours_115 : decode cX11_hours 115 = .ok (.iinc 2 1, 3) := by decide +kernel
theorem dX11_hours_118 : decode cX11_hours 118 = .ok (.goto (-59), 3) := by decide +kernel
theorem dX11_hours_121 : decode cX11_hours 121 = .ok (.aload_n 0, 1) := by decide +kernel
theorem dX11_hours_122 : decode cX11_hours 122 = .ok (.getfield 35, 3) := by decide +kernel
theorem dX11_hours_125 : decode cX11_hours 125 = .ok (.getfield 280, 3) := by decide +kernel
theorem dX11_hours_128 : decode cX11_hours 128 = .ok (.ireturn, 1) := by decide +kernel
theorem dX11_day_0 : decode cX11_day 0 = .ok (.aload_n 0, 1) := by decide +kernel
theorem dX11_day_1 : decode cX11_day 1 = .ok (.invokevirtual 283, 3) := by decide +kernel
theorem dX11_day_4 : decode cX11_day 4 = .ok (.istore_n 1, 1) := by decide +kernel
theorem dX11_day_5 : decode cX11_day 5 = .ok (.iload_n 1, 1) := by decide +kernel
theorem dX11_day_6 : decode cX11_day 6 = .ok (.ifCond .ne 8, 3) := by decide +kernel
theorem dX11_day_9 : decode cX11_day 9 = .ok (.aload_n 0, 1) := by decide +kernel
theorem dX11_day_10 : decode cX11_day 10 = .ok (.invokevirtual 286, 3) := by decide +kernel
theorem dX11_day_13 : decode cX11_day 13 = .ok (.istore_n 1, 1) := by decide +kernel
theorem dX11_day_14 : decode cX11_day 14 = .ok (.aload_n 0, 1) := by decide +kernel
theorem dX11_day_15 : decode cX11_day 15 = .ok (.getfield 10, 3) := by decide +kernel
theorem dX11_day_18 : decode cX11_day 18 = .ok (.invokevirtual 115, 3) := by decide +kernel
theorem dX11_day_21 : decode cX11_day 21 = .ok (.iload_n 1, 1) := by decide +kernel
theorem dX11_day_22 : decode cX11_day 22 = .ok (.ireturn, 1) := by decide +kernel
theorem dX11_readDay_0 : decode cX11_readDay 0 = .ok (.aload_n 0, 1) := by decide +kernel
theorem dX11_readDay_1 : decode cX11_readDay 1 = .ok (.getfield 21, 3) := by decide +kernel
theorem dX11_readDay_4 : decode cX11_readDay 4 = .ok (.bipush 60, 2) := by decide +kernel
theorem dX11_readDay_6 : decode cX11_readDay 6 = .ok (.invokevirtual 104, 3) := by decide +kernel
theorem dX11_readDay_9 : decode cX11_readDay 9 = .ok (.iconst 0, 1) := by decide +kernel
theorem dX11_readDay_10 : decode cX11_readDay 10 = .ok (.istore_n 1, 1) := by decide +kernel
theorem dX11_readDay_11 : decode cX11_readDay 11 = .ok (.iload_n 1, 1) := by decide +kernel
theorem dX11_readDay_12 : decode cX11_readDay 12 = .ok (.bipush 60, 2) := by decide +kernel
theorem dX11_readDay_14 : decode cX11_readDay 14 = .ok (.if_icmp .ge 27, 3) := by decide +kernel
theorem dX11_readDay_17 : decode cX11_readDay 17 = .ok (.aload_n 0, 1) := by decide +kernel
theorem dX11_readDay_18 : decode cX11_readDay 18 = .ok (.getfield 21, 3) := by decide +kernel
theorem dX11_readDay_21 : decode cX11_readDay 21 = .ok (.invokevirtual 289, 3) := by decide +kernel
theorem dX11_readDay_24 : decode cX11_readDay 24 = .ok (.iconst (-1), 1) := by decide +kernel
theorem dX11_readDay_25 : decode cX11_readDay 25 = .ok (.if_icmp .eq 16, 3) := by decide +kernel
theorem dX11_readDay_28 : decode cX11_readDay 28 = .ok (.aload_n 0, 1) := by decide +kernel
theorem dX11_readDay_29 : decode cX11_readDay 29 = .ok (.getfield 21, 3) := by decide +kernel
theorem dX11_readDay_32 : decode cX11_readDay 32 = .ok (.invokevirtual 292, 3) := by decide +kernel
theorem dX11_readDay_35 : decode cX11_readDay 35 = .ok (.iinc 1 1, 3) := by decide +kernel
theorem dX11_readDay_38 : decode cX11_readDay 38 = .ok (.goto (-27), 3) := by decide +kernel
theorem dX11_readDay_41 : decode cX11_readDay 41 = .ok (.aload_n 0, 1) := by decide +kernel
theorem dX11_readDay_42 : decode cX11_readDay 42 = .ok (.getfield 21, 3) := by decide +kernel
theorem dX11_readDay_45 : decode cX11_readDay 45 = .ok (.iconst 0, 1) := by decide +kernel
theorem dX11_readDay_46 : decode cX11_readDay 46 = .ok (.invokevirtual 112, 3) := by decide +kernel
theorem dX11_readDay_49 : decode cX11_readDay 49 = .ok (.ireturn, 1) := by decide +kernel
theorem dX11_liveDay_0 : decode cX11_liveDay 0 = .ok (.aload_n 0, 1) := by decide +kernel
theorem dX11_liveDay_1 : decode cX11_liveDay 1 = .ok (.getfield 39, 3) := by decide +kernel
theorem dX11_liveDay_4 : decode cX11_liveDay 4 = .ok (.aload_n 0, 1) := by decide +kernel
theorem dX11_liveDay_5 : decode cX11_liveDay 5 = .ok (.getfield 35, 3) := by decide +kernel
theorem dX11_liveDay_8 : decode cX11_liveDay 8 = .ok (.invokevirtual 231, 3) := by decide +kernel
theorem dX11_liveDay_11 : decode cX11_liveDay 11 = .ok (.aload_n 0, 1) := by decide +kernel
theorem dX11_liveDay_12 : decode cX11_liveDay 12 = .ok (.getfield 21, 3) := by decide +kernel
theorem dX11_liveDay_15 : decode cX11_liveDay 15 = .ok (.bipush 60, 2) := by decide +kernel
theorem dX11_liveDay_17 : decode cX11_liveDay 17 = .ok (.invokevirtual 104, 3) := by decide +kernel
theorem dX11_liveDay_20 : decode cX11_liveDay 20 = .ok (.iconst 0, 1) := by decide +kernel
theorem dX11_liveDay_21 : decode cX11_liveDay 21 = .ok (.istore_n 1, 1) := by decide +kernel
theorem dX11_liveDay_22 : decode cX11_liveDay 22 = .ok (.iconst 0, 1) := by decide +kernel
theorem dX11_liveDay_23 : decode cX11_liveDay 23 = .ok (.istore_n 2, 1) := by decide +kernel
theorem dX11_liveDay_24 : decode cX11_liveDay 24 = .ok (.iconst 0, 1) := by decide +kernel
theorem dX11_liveDay_25 : decode cX11_liveDay 25 = .ok (.istore_n 3, 1) := by decide +kernel
theorem dX11_liveDay_26 : decode cX11_liveDay 26 = .ok (.iload_n 3, 1) := by decide +kernel
theorem dX11_liveDay_27 : decode cX11_liveDay 27 = .ok (.bipush 60, 2) := by decide +kernel
theorem dX11_liveDay_29 : decode cX11_liveDay 29 = .ok (.if_icmp .ge 49, 3) := by decide +kernel
theorem dX11_liveDay_32 : decode cX11_liveDay 32 = .ok (.iload_n 2, 1) := by decide +kernel
theorem dX11_liveDay_33 : decode cX11_liveDay 33 = .ok (.ifCond .ne 45, 3) := by decide +kernel
theorem dX11_liveDay_36 : decode cX11_liveDay 36 = .ok (.aload_n 0, 1) := by decide +kernel
theorem dX11_liveDay_37 : decode cX11_liveDay 37 = .ok (.getfield 21, 3) := by decide +kernel
theorem dX11_liveDay_40 : decode cX11_liveDay 40 = .ok (.invokevirtual 289, 3) := by decide +kernel
theorem dX11_liveDay_43 : decode cX11_liveDay 43 = .ok (.iconst (-1), 1) := by decide +kernel
theorem dX11_liveDay_44 : decode cX11_liveDay 44 = .ok (.if_icmp .eq 34, 3) := by decide +kernel
theorem dX11_liveDay_47 : decode cX11_liveDay 47 = .ok (.aload_n 0, 1) := by decide +kernel
theorem dX11_liveDay_48 : decode cX11_liveDay 48 = .ok (.invokevirtual 295, 3) := by decide +kernel
theorem dX11_liveDay_51 : decode cX11_liveDay 51 = .ok (.ifCond .ge 7, 3) := by decide +kernel
theorem dX11_liveDay_54 : decode cX11_liveDay 54 = .ok (.iconst 1, 1) := by decide +kernel
theorem dX11_liveDay_55 : decode cX11_liveDay 55 = .ok (.goto 4, 3) := by decide +kernel
theorem dX11_liveDay_58 : decode cX11_liveDay 58 = .ok (.iconst 0, 1) := by decide +kernel
theorem dX11_liveDay_59 : decode cX11_liveDay 59 = .ok (.istore_n 2, 1) := by decide +kernel
theorem dX11_liveDay_60 : decode cX11_liveDay 60 = .ok (.iload_n 1, 1) := by decide +kernel
theorem dX11_liveDay_61 : decode cX11_liveDay 61 = .ok (.iload_n 2, 1) := by decide +kernel
theorem dX11_liveDay_62 : decode cX11_liveDay 62 = .ok (.ifCond .eq 7, 3) := by decide +kernel
theorem dX11_liveDay_65 : decode cX11_liveDay 65 = .ok (.iconst 0, 1) := by decide +kernel
theorem dX11_liveDay_66 : decode cX11_liveDay 66 = .ok (.goto 4, 3) := by decide +kernel
theorem dX11_liveDay_69 : decode cX11_liveDay 69 = .ok (.iconst 1, 1) := by decide +kernel
theorem dX11_liveDay_70 : decode cX11_liveDay 70 = .ok (.iadd, 1) := by decide +kernel
theorem dX11_liveDay_71 : decode cX11_liveDay 71 = .ok (.istore_n 1, 1) := by decide +kernel
theorem dX11_liveDay_72 : decode cX11_liveDay 72 = .ok (.iinc 3 1, 3) := by decide +kernel
theorem dX11_liveDay_75 : decode cX11_liveDay 75 = .ok (.goto (-49), 3) := by decide +kernel
theorem dX11_liveDay_78 : decode cX11_liveDay 78 = .ok (.iload_n 1, 1) := by decide +kernel
theorem dX11_liveDay_79 : decode cX11_liveDay 79 = .ok (.ifCond .le 14, 3) := by decide +kernel
theorem dX11_liveDay_82 : decode cX11_liveDay 82 = .ok (.aload_n 0, 1) := by decide +kernel
theorem dX11_liveDay_83 : decode cX11_liveDay 83 = .ok (.getfield 48, 3) := by decide +kernel
theorem dX11_liveDay_86 : decode cX11_liveDay 86 = .ok (.aload_n 0, 1) := by decide +kernel
theorem dX11_liveDay_87 : decode cX11_liveDay 87 = .ok (.getfield 39, 3) := by decide +kernel
theorem dX11_liveDay_90 : decode cX11_liveDay 90 = .ok (.invokevirtual 251, 3) := by decide +kernel
theorem dX11_liveDay_93 : decode cX11_liveDay 93 = .ok (.aload_n 0, 1) := by decide +kernel
theorem dX11_liveDay_94 : decode cX11_liveDay 94 = .ok (.getfield 55, 3) := by decide +kernel
theorem dX11_liveDay_97 : decode cX11_liveDay 97 = .ok (.iload_n 2, 1) := by decide +kernel
theorem dX11_liveDay_98 : decode cX11_liveDay 98 = .ok (.ifCond .eq 7, 3) := by decide +kernel
theorem dX11_liveDay_101 : decode cX11_liveDay 101 = .ok (.lconst 1, 1) := by decide +kernel
theorem dX11_liveDay_102 : decode cX11_liveDay 102 = .ok (.goto 4, 3) := by decide +kernel
theorem dX11_liveDay_105 : decode cX11_liveDay 105 = .ok (.lconst 0, 1) := by decide +kernel
theorem dX11_liveDay_106 : decode cX11_liveDay 106 = .ok (.aload_n 0, 1) := by decide +kernel
theorem dX11_liveDay_107 : decode cX11_liveDay 107 = .ok (.getfield 35, 3) := by decide +kernel
theorem dX11_liveDay_110 : decode cX11_liveDay 110 = .ok (.getfield 280, 3) := by decide +kernel
theorem dX11_liveDay_113 : decode cX11_liveDay 113 = .ok (.i2l, 1) := by decide +kernel
theorem dX11_liveDay_114 : decode cX11_liveDay 114 = .ok (.invokevirtual 298, 3) := by decide +kernel
theorem dX11_liveDay_117 : decode cX11_liveDay 117 = .ok (.iload_n 1, 1) := by decide +kernel
theorem dX11_liveDay_118 : decode cX11_liveDay 118 = .ok (.ireturn, 1) := by decide +kernel
theorem dX11_doAct_0 : decode cX11_doAct 0 = .ok (.aload_n 0, 1) := by decide +kernel
theorem dX11_doAct_1 : decode cX11_doAct 1 = .ok (.getfield 21, 3) := by decide +kernel
theorem dX11_doAct_4 : decode cX11_doAct 4 = .ok (.bipush 104, 2) := by decide +kernel
theorem dX11_doAct_6 : decode cX11_doAct 6 = .ok (.invokevirtual 302, 3) := by decide +kernel
theorem dX11_doAct_9 : decode cX11_doAct 9 = .ok (.ifCond .eq 17, 3) := by decide +kernel
theorem dX11_doAct_12 : decode cX11_doAct 12 = .ok (.aload_n 0, 1) := by decide +kernel
theorem dX11_doAct_13 : decode cX11_doAct 13 = .ok (.aload_n 0, 1) := by decide +kernel
theorem dX11_doAct_14 : decode cX11_doAct 14 = .ok (.getfield 21, 3) := by decide +kernel
theorem dX11_doAct_17 : decode cX11_doAct 17 = .ok (.bipush 10, 2) := by decide +kernel
theorem dX11_doAct_19 : decode cX11_doAct 19 = .ok (.invokevirtual 305, 3) := by decide +kernel
theorem dX11_doAct_22 : decode cX11_doAct 22 = .ok (.invokevirtual 308, 3) := by decide +kernel
theorem dX11_doAct_25 : decode cX11_doAct 25 = .ok (.ireturn, 1) := by decide +kernel
theorem dX11_doAct_26 : decode cX11_doAct 26 = .ok (.aload_n 0, 1) := by decide +kernel
theorem dX11_doAct_27 : decode cX11_doAct 27 = .ok (.getfield 21, 3) := by decide +kernel
theorem dX11_doAct_30 : decode cX11_doAct 30 = .ok (.bipush 112, 2) := by decide +kernel
theorem dX11_doAct_32 : decode cX11_doAct 32 = .ok (.invokevirtual 302, 3) := by decide +kernel
theorem dX11_doAct_35 : decode cX11_doAct 35 = .ok (.ifCond .eq 26, 3) := by decide +kernel
theorem dX11_doAct_38 : decode cX11_doAct 38 = .ok (.aload_n 0, 1) := by decide +kernel
theorem dX11_doAct_39 : decode cX11_doAct 39 = .ok (.aload_n 0, 1) := by decide +kernel
theorem dX11_doAct_40 : decode cX11_doAct 40 = .ok (.getfield 21, 3) := by decide +kernel
theorem dX11_doAct_43 : decode cX11_doAct 43 = .ok (.bipush 10, 2) := by decide +kernel
theorem dX11_doAct_45 : decode cX11_doAct 45 = .ok (.invokevirtual 305, 3) := by decide +kernel
theorem dX11_doAct_48 : decode cX11_doAct 48 = .ok (.aload_n 0, 1) := by decide +kernel
theorem dX11_doAct_49 : decode cX11_doAct 49 = .ok (.getfield 21, 3) := by decide +kernel
theorem dX11_doAct_52 : decode cX11_doAct 52 = .ok (.bipush 10, 2) := by decide +kernel
theorem dX11_doAct_54 : decode cX11_doAct 54 = .ok (.invokevirtual 305, 3) := by decide +kernel
theorem dX11_doAct_57 : decode cX11_doAct 57 = .ok (.invokevirtual 235, 3) := by decide +kernel
theorem dX11_doAct_60 : decode cX11_doAct 60 = .ok (.ireturn, 1) := by decide +kernel
theorem dX11_doAct_61 : decode cX11_doAct 61 = .ok (.aload_n 0, 1) := by decide +kernel
theorem dX11_doAct_62 : decode cX11_doAct 62 = .ok (.getfield 21, 3) := by decide +kernel
theorem dX11_doAct_65 : decode cX11_doAct 65 = .ok (.bipush 111, 2) := by decide +kernel
theorem dX11_doAct_67 : decode cX11_doAct 67 = .ok (.invokevirtual 302, 3) := by decide +kernel
theorem dX11_doAct_70 : decode cX11_doAct 70 = .ok (.ifCond .eq 17, 3) := by decide +kernel
theorem dX11_doAct_73 : decode cX11_doAct 73 = .ok (.aload_n 0, 1) := by decide +kernel
theorem dX11_doAct_74 : decode cX11_doAct 74 = .ok (.aload_n 0, 1) := by decide +kernel
theorem dX11_doAct_75 : decode cX11_doAct 75 = .ok (.getfield 21, 3) := by decide +kernel
theorem dX11_doAct_78 : decode cX11_doAct 78 = .ok (.bipush 10, 2) := by decide +kernel
theorem dX11_doAct_80 : decode cX11_doAct 80 = .ok (.invokevirtual 305, 3) := by decide +kernel
theorem dX11_doAct_83 : decode cX11_doAct 83 = .ok (.invokevirtual 241, 3) := by decide +kernel
theorem dX11_doAct_86 : decode cX11_doAct 86 = .ok (.ireturn, 1) := by decide +kernel
theorem dX11_doAct_87 : decode cX11_doAct 87 = .ok (.aload_n 0, 1) := by decide +kernel
theorem dX11_doAct_88 : decode cX11_doAct 88 = .ok (.getfield 21, 3) := by decide +kernel
theorem dX11_doAct_91 : decode cX11_doAct 91 = .ok (.bipush 98, 2) := by decide +kernel
theorem dX11_doAct_93 : decode cX11_doAct 93 = .ok (.invokevirtual 302, 3) := by decide +kernel
theorem dX11_doAct_96 : decode cX11_doAct 96 = .ok (.ifCond .eq 17, 3) := by decide +kernel
theorem dX11_doAct_99 : decode cX11_doAct 99 = .ok (.aload_n 0, 1) := by decide +kernel
theorem dX11_doAct_100 : decode cX11_doAct 100 = .ok (.aload_n 0, 1) := by decide +kernel
theorem dX11_doAct_101 : decode cX11_doAct 101 = .ok (.getfield 21, 3) := by decide +kernel
theorem dX11_doAct_104 : decode cX11_doAct 104 = .ok (.bipush 10, 2) := by decide +kernel
theorem dX11_doAct_106 : decode cX11_doAct 106 = .ok (.invokevirtual 305, 3) := by decide +kernel
theorem dX11_doAct_109 : decode cX11_doAct 109 = .ok (.invokevirtual 244, 3) := by decide +kernel
theorem dX11_doAct_112 : decode cX11_doAct 112 = .ok (.ireturn, 1) := by decide +kernel
theorem dX11_doAct_113 : decode cX11_doAct 113 = .ok (.aload_n 0, 1) := by decide +kernel
theorem dX11_doAct_114 : decode cX11_doAct 114 = .ok (.getfield 21, 3) := by decide +kernel
theorem dX11_doAct_117 : decode cX11_doAct 117 = .ok (.bipush 99, 2) := by decide +kernel
theorem dX11_doAct_119 : decode cX11_doAct 119 = .ok (.invokevirtual 302, 3) := by decide +kernel
theorem dX11_doAct_122 : decode cX11_doAct 122 = .ok (.ifCond .eq 10, 3) := by decide +kernel
theorem dX11_doAct_125 : decode cX11_doAct 125 = .ok (.aload_n 0, 1) := by decide +kernel
theorem dX11_doAct_126 : decode cX11_doAct 126 = .ok (.invokevirtual 311, 3) := by decide +kernel
theorem dX11_doAct_129 : decode cX11_doAct 129 = .ok (.goto 4, 3) := by decide +kernel
theorem dX11_doAct_132 : decode cX11_doAct 132 = .ok (.iconst (-1), 1) := by decide +kernel
theorem dX11_doAct_133 : decode cX11_doAct 133 = .ok (.ireturn, 1) := by decide +kernel
theorem dX11_passHours_0 : decode cX11_passHours 0 = .ok (.iconst 0, 1) := by decide +kernel
theorem dX11_passHours_1 : decode cX11_passHours 1 = .ok (.istore_n 2, 1) := by decide +kernel
theorem dX11_passHours_2 : decode cX11_passHours 2 = .ok (.iload_n 2, 1) := by decide +kernel
theorem dX11_passHours_3 : decode cX11_passHours 3 = .ok (.iload_n 1, 1) := by decide +kernel
theorem dX11_passHours_4 : decode cX11_passHours 4 = .ok (.if_icmp .ge 20, 3) := by decide +kernel
theorem dX11_passHours_7 : decode cX11_passHours 7 = .ok (.aload_n 0, 1) := by decide +kernel
theorem dX11_passHours_8 : decode cX11_passHours 8 = .ok (.getfield 28, 3) := by decide +kernel
theorem dX11_passHours_11 : decode cX11_passHours 11 = .ok (.aload_n 0, 1) := by decide +kernel
theorem dX11_passHours_12 : decode cX11_passHours 12 = .ok (.getfield 35, 3) := by decide +kernel
theorem dX11_passHours_15 : decode cX11_passHours 15 = .ok (.invokevirtual 273, 3) := by decide +kernel
theorem dX11_passHours_18 : decode cX11_passHours 18 = .ok (.iinc 2 1, 3) := by decide +kernel
theorem dX11_passHours_21 : decode cX11_passHours 21 = .ok (.goto (-19), 3) := by decide +kernel
theorem dX11_passHours_24 : decode cX11_passHours 24 = .ok (.aload_n 0, 1) := by decide +kernel
theorem dX11_passHours_25 : decode cX11_passHours 25 = .ok (.getfield 35, 3) := by decide +kernel
theorem dX11_passHours_28 : decode cX11_passHours 28 = .ok (.getfield 280, 3) := by decide +kernel
theorem dX11_passHours_31 : decode cX11_passHours 31 = .ok (.ireturn, 1) := by decide +kernel
theorem dX11_carryAsTold_0 : decode cX11_carryAsTold 0 = .ok (.aload_n 0, 1) := by decide +kernel
theorem dX11_carryAsTold_1 : decode cX11_carryAsTold 1 = .ok (.getfield 21, 3) := by decide +kernel
theorem dX11_carryAsTold_4 : decode cX11_carryAsTold 4 = .ok (.bipush 10, 2) := by decide +kernel
theorem dX11_carryAsTold_6 : decode cX11_carryAsTold 6 = .ok (.invokevirtual 305, 3) := by decide +kernel
theorem dX11_carryAsTold_9 : decode cX11_carryAsTold 9 = .ok (.istore_n 1, 1) := by decide +kernel
theorem dX11_carryAsTold_10 : decode cX11_carryAsTold 10 = .ok (.aload_n 0, 1) := by decide +kernel
theorem dX11_carryAsTold_11 : decode cX11_carryAsTold 11 = .ok (.getfield 21, 3) := by decide +kernel
theorem dX11_carryAsTold_14 : decode cX11_carryAsTold 14 = .ok (.bipush 10, 2) := by decide +kernel
theorem dX11_carryAsTold_16 : decode cX11_carryAsTold 16 = .ok (.invokevirtual 305, 3) := by decide +kernel
theorem dX11_carryAsTold_19 : decode cX11_carryAsTold 19 = .ok (.istore_n 2, 1) := by decide +kernel
theorem dX11_carryAsTold_20 : decode cX11_carryAsTold 20 = .ok (.aload_n 0, 1) := by decide +kernel
theorem dX11_carryAsTold_21 : decode cX11_carryAsTold 21 = .ok (.getfield 21, 3) := by decide +kernel
theorem dX11_carryAsTold_24 : decode cX11_carryAsTold 24 = .ok (.bipush 10, 2) := by decide +kernel
theorem dX11_carryAsTold_26 : decode cX11_carryAsTold 26 = .ok (.invokevirtual 305, 3) := by decide +kernel
theorem dX11_carryAsTold_29 : decode cX11_carryAsTold 29 = .ok (.istore_n 3, 1) := by decide +kernel
theorem dX11_carryAsTold_30 : decode cX11_carryAsTold 30 = .ok (.aload_n 0, 1) := by decide +kernel
theorem dX11_carryAsTold_31 : decode cX11_carryAsTold 31 = .ok (.getfield 21, 3) := by decide +kernel
theorem dX11_carryAsTold_34 : decode cX11_carryAsTold 34 = .ok (.invokevirtual 314, 3) := by decide +kernel
theorem dX11_carryAsTold_37 : decode cX11_carryAsTold 37 = .ok (.istore 4, 2) := by decide +kernel
theorem dX11_carryAsTold_39 : decode cX11_carryAsTold 39 = .ok (.iload_n 2, 1) := by decide +kernel
theorem dX11_carryAsTold_40 : decode cX11_carryAsTold 40 = .ok (.aload_n 0, 1) := by decide +kernel
theorem dX11_carryAsTold_41 : decode cX11_carryAsTold 41 = .ok (.getfield 28, 3) := by decide +kernel
theorem dX11_carryAsTold_44 : decode cX11_carryAsTold 44 = .ok (.getfield 316, 3) := by decide +kernel
theorem dX11_carryAsTold_47 : decode cX11_carryAsTold 47 = .ok (.if_icmp .ge 14, 3) := by decide +kernel
theorem dX11_carryAsTold_50 : decode cX11_carryAsTold 50 = .ok (.iload_n 3, 1) := by decide +kernel
theorem dX11_carryAsTold_51 : decode cX11_carryAsTold 51 = .ok (.aload_n 0, 1) := by decide +kernel
theorem dX11_carryAsTold_52 : decode cX11_carryAsTold 52 = .ok (.getfield 28, 3) := by decide +kernel
theorem dX11_carryAsTold_55 : decode cX11_carryAsTold 55 = .ok (.getfield 319, 3) := by decide +kernel
theorem dX11_carryAsTold_58 : decode cX11_carryAsTold 58 = .ok (.if_icmp .lt 5, 3) := by decide +kernel
theorem dX11_carryAsTold_61 : decode cX11_carryAsTold 61 = .ok (.iconst (-1), 1) := by decide +kernel
theorem dX11_carryAsTold_62 : decode cX11_carryAsTold 62 = .ok (.ireturn, 1) := by decide +kernel
theorem dX11_carryAsTold_63 : decode cX11_carryAsTold 63 = .ok (.aload_n 0, 1) := by decide +kernel
theorem dX11_carryAsTold_64 : decode cX11_carryAsTold 64 = .ok (.iload_n 1, 1) := by decide +kernel
theorem dX11_carryAsTold_65 : decode cX11_carryAsTold 65 = .ok (.iload_n 2, 1) := by decide +kernel
theorem dX11_carryAsTold_66 : decode cX11_carryAsTold 66 = .ok (.aload_n 0, 1) := by decide +kernel
theorem dX11_carryAsTold_67 : decode cX11_carryAsTold 67 = .ok (.getfield 28, 3) := by decide +kernel
theorem dX11_carryAsTold_70 : decode cX11_carryAsTold 70 = .ok (.getfield 319, 3) := by decide +kernel
theorem dX11_carryAsTold_73 : decode cX11_carryAsTold 73 = .ok (.imul, 1) := by decide +kernel
theorem dX11_carryAsTold_74 : decode cX11_carryAsTold 74 = .ok (.iload_n 3, 1) := by decide +kernel
theorem dX11_carryAsTold_75 : decode cX11_carryAsTold 75 = .ok (.iadd, 1) := by decide +kernel
theorem dX11_carryAsTold_76 : decode cX11_carryAsTold 76 = .ok (.iload 4, 2) := by decide +kernel
theorem dX11_carryAsTold_78 : decode cX11_carryAsTold 78 = .ok (.invokevirtual 247, 3) := by decide +kernel
theorem dX11_carryAsTold_81 : decode cX11_carryAsTold 81 = .ok (.ireturn, 1) := by decide +kernel
theorem dX11_undo_0 : decode cX11_undo 0 = .ok (.aload_n 0, 1) := by decide +kernel
theorem dX11_undo_1 : decode cX11_undo 1 = .ok (.getfield 48, 3) := by decide +kernel
theorem dX11_undo_4 : decode cX11_undo 4 = .ok (.aload_n 0, 1) := by decide +kernel
theorem dX11_undo_5 : decode cX11_undo 5 = .ok (.getfield 35, 3) := by decide +kernel
theorem dX11_undo_8 : decode cX11_undo 8 = .ok (.invokevirtual 322, 3) := by decide +kernel
theorem dX11_undo_11 : decode cX11_undo 11 = .ok (.ireturn, 1) := by decide +kernel
theorem dX11_ahead_0 : decode cX11_ahead 0 = .ok (.aload_n 0, 1) := by decide +kernel
theorem dX11_ahead_1 : decode cX11_ahead 1 = .ok (.getfield 28, 3) := by decide +kernel
theorem dX11_ahead_4 : decode cX11_ahead 4 = .ok (.iload_n 1, 1) := by decide +kernel
theorem dX11_ahead_5 : decode cX11_ahead 5 = .ok (.invokevirtual 209, 3) := by decide +kernel
theorem dX11_ahead_8 : decode cX11_ahead 8 = .ok (.ifCond .eq 13, 3) := by decide +kernel
theorem dX11_ahead_11 : decode cX11_ahead 11 = .ok (.iload_n 2, 1) := by decide +kernel
theorem dX11_ahead_12 : decode cX11_ahead 12 = .ok (.ifCond .lt 9, 3) := by decide +kernel
theorem dX11_ahead_15 : decode cX11_ahead 15 = .ok (.iload_n 2, 1) := by decide +kernel
theorem dX11_ahead_16 : decode cX11_ahead 16 = .ok (.bipush 99, 2) := by decide +kernel
theorem dX11_ahead_18 : decode cX11_ahead 18 = .ok (.if_icmp .le 5, 3) := by decide +kernel
theorem dX11_ahead_21 : decode cX11_ahead 21 = .ok (.iconst (-1), 1) := by decide +kernel
theorem dX11_ahead_22 : decode cX11_ahead 22 = .ok (.ireturn, 1) := by decide +kernel
theorem dX11_ahead_23 : decode cX11_ahead 23 = .ok (.aload_n 0, 1) := by decide +kernel
theorem dX11_ahead_24 : decode cX11_ahead 24 = .ok (.getfield 42, 3) := by decide +kernel
theorem dX11_ahead_27 : decode cX11_ahead 27 = .ok (.aload_n 0, 1) := by decide +kernel
theorem dX11_ahead_28 : decode cX11_ahead 28 = .ok (.getfield 35, 3) := by decide +kernel
theorem dX11_ahead_31 : decode cX11_ahead 31 = .ok (.invokevirtual 231, 3) := by decide +kernel
theorem dX11_ahead_34 : decode cX11_ahead 34 = .ok (.iconst 0, 1) := by decide +kernel
theorem dX11_ahead_35 : decode cX11_ahead 35 = .ok (.istore_n 3, 1) := by decide +kernel
theorem dX11_ahead_36 : decode cX11_ahead 36 = .ok (.iload_n 3, 1) := by decide +kernel
theorem dX11_ahead_37 : decode cX11_ahead 37 = .ok (.iload_n 2, 1) := by decide +kernel
theorem dX11_ahead_38 : decode cX11_ahead 38 = .ok (.if_icmp .ge 20, 3) := by decide +kernel
theorem dX11_ahead_41 : decode cX11_ahead 41 = .ok (.aload_n 0, 1) := by decide +kernel
theorem dX11_ahead_42 : decode cX11_ahead 42 = .ok (.getfield 28, 3) := by decide +kernel
theorem dX11_ahead_45 : decode cX11_ahead 45 = .ok (.aload_n 0, 1) := by decide +kernel
theorem dX11_ahead_46 : decode cX11_ahead 46 = .ok (.getfield 42, 3) := by decide +kernel
theorem dX11_ahead_49 : decode cX11_ahead 49 = .ok (.invokevirtual 273, 3) := by decide +kernel
theorem dX11_ahead_52 : decode cX11_ahead 52 = .ok (.iinc 3 1, 3) := by decide +kernel
theorem dX11_ahead_55 : decode cX11_ahead 55 = .ok (.goto (-19), 3) := by decide +kernel
theorem dX11_ahead_58 : decode cX11_ahead 58 = .ok (.aload_n 0, 1) := by decide +kernel
theorem dX11_ahead_59 : decode cX11_ahead 59 = .ok (.getfield 28, 3) := by decide +kernel
theorem dX11_ahead_62 : decode cX11_ahead 62 = .ok (.aload_n 0, 1) := by decide +kernel
theorem dX11_ahead_63 : decode cX11_ahead 63 = .ok (.getfield 42, 3) := by decide +kernel
theorem dX11_ahead_66 : decode cX11_ahead 66 = .ok (.iload_n 1, 1) := by decide +kernel
theorem dX11_ahead_67 : decode cX11_ahead 67 = .ok (.invokevirtual 221, 3) := by decide +kernel
theorem dX11_ahead_70 : decode cX11_ahead 70 = .ok (.istore_n 3, 1) := by decide +kernel
theorem dX11_ahead_71 : decode cX11_ahead 71 = .ok (.aload_n 0, 1) := by decide +kernel
theorem dX11_ahead_72 : decode cX11_ahead 72 = .ok (.getfield 28, 3) := by decide +kernel
theorem dX11_ahead_75 : decode cX11_ahead 75 = .ok (.aload_n 0, 1) := by decide +kernel
theorem dX11_ahead_76 : decode cX11_ahead 76 = .ok (.getfield 42, 3) := by decide +kernel
theorem dX11_ahead_79 : decode cX11_ahead 79 = .ok (.iload_n 1, 1) := by decide +kernel
theorem dX11_ahead_80 : decode cX11_ahead 80 = .ok (.invokevirtual 218, 3) := by decide +kernel
theorem dX11_ahead_83 : decode cX11_ahead 83 = .ok (.ifCond .eq 7, 3) := by decide +kernel
theorem dX11_ahead_86 : decode cX11_ahead 86 = .ok (.iconst 1, 1) := by decide +kernel
theorem dX11_ahead_87 : decode cX11_ahead 87 = .ok (.goto 4, 3) := by decide +kernel
theorem dX11_ahead_90 : decode cX11_ahead 90 = .ok (.iconst 0, 1) := by decide +kernel
theorem dX11_ahead_91 : decode cX11_ahead 91 = .ok (.istore 4, 2) := by decide +kernel
theorem dX11_ahead_93 : decode cX11_ahead 93 = .ok (.aload_n 0, 1) := by decide +kernel
theorem dX11_ahead_94 : decode cX11_ahead 94 = .ok (.getfield 55, 3) := by decide +kernel
theorem dX11_ahead_97 : decode cX11_ahead 97 = .ok (.iload_n 3, 1) := by decide +kernel
theorem dX11_ahead_98 : decode cX11_ahead 98 = .ok (.invokestatic 254, 3) := by decide +kernel
theorem dX11_ahead_101 : decode cX11_ahead 101 = .ok (.i2l, 1) := by decide +kernel
theorem dX11_ahead_102 : decode cX11_ahead 102 = .ok (.iload 4, 2) := by decide +kernel
theorem dX11_ahead_104 : decode cX11_ahead 104 = .ok (.ifCond .eq 19, 3) := by decide +kernel
theorem dX11_ahead_107 : decode cX11_ahead 107 = .ok (.aload_n 0, 1) := by decide +kernel
theorem dX11_ahead_108 : decode cX11_ahead 108 = .ok (.getfield 28, 3) := by decide +kernel
theorem dX11_ahead_111 : decode cX11_ahead 111 = .ok (.aload_n 0, 1) := by decide +kernel
theorem dX11_ahead_112 : decode cX11_ahead 112 = .ok (.getfield 42, 3) := by decide +kernel
theorem dX11_ahead_115 : decode cX11_ahead 115 = .ok (.iload_n 1, 1) := by decide +kernel
theorem dX11_ahead_116 : decode cX11_ahead 116 = .ok (.invokevirtual 224, 3) := by decide +kernel
theorem dX11_ahead_119 : decode cX11_ahead 119 = .ok (.i2l, 1) := by decide +kernel
theorem dX11_ahead_120 : decode cX11_ahead 120 = .ok (.goto 4, 3) := by decide +kernel
theorem dX11_ahead_123 : decode cX11_ahead 123 = .ok (.lconst 0, 1) := by decide +kernel
theorem dX11_ahead_124 : decode cX11_ahead 124 = .ok (.invokevirtual 298, 3) := by decide +kernel
theorem dX11_ahead_127 : decode cX11_ahead 127 = .ok (.iload_n 3, 1) := by decide +kernel
theorem dX11_ahead_128 : decode cX11_ahead 128 = .ok (.ireturn, 1) := by decide +kernel
theorem dX11_first_0 : decode cX11_first 0 = .ok (.aload_n 0, 1) := by decide +kernel
theorem dX11_first_1 : decode cX11_first 1 = .ok (.getfield 28, 3) := by decide +kernel
theorem dX11_first_4 : decode cX11_first 4 = .ok (.iload_n 1, 1) := by decide +kernel
theorem dX11_first_5 : decode cX11_first 5 = .ok (.invokevirtual 209, 3) := by decide +kernel
theorem dX11_first_8 : decode cX11_first 8 = .ok (.ifCond .eq 14, 3) := by decide +kernel
theorem dX11_first_11 : decode cX11_first 11 = .ok (.aload_n 0, 1) := by decide +kernel
theorem dX11_first_12 : decode cX11_first 12 = .ok (.getfield 28, 3) := by decide +kernel
theorem dX11_first_15 : decode cX11_first 15 = .ok (.iload_n 2, 1) := by decide +kernel
theorem dX11_first_16 : decode cX11_first 16 = .ok (.invokevirtual 164, 3) := by decide +kernel
theorem dX11_first_19 : decode cX11_first 19 = .ok (.ifCond .ne 5, 3) := by decide +kernel
theorem dX11_first_22 : decode cX11_first 22 = .ok (.iconst (-1), 1) := by decide +kernel
theorem dX11_first_23 : decode cX11_first 23 = .ok (.ireturn, 1) := by decide +kernel
theorem dX11_first_24 : decode cX11_first 24 = .ok (.aload_n 0, 1) := by decide +kernel
theorem dX11_first_25 : decode cX11_first 25 = .ok (.getfield 42, 3) := by decide +kernel
theorem dX11_first_28 : decode cX11_first 28 = .ok (.aload_n 0, 1) := by decide +kernel
theorem dX11_first_29 : decode cX11_first 29 = .ok (.getfield 35, 3) := by decide +kernel
theorem dX11_first_32 : decode cX11_first 32 = .ok (.invokevirtual 231, 3) := by decide +kernel
theorem dX11_first_35 : decode cX11_first 35 = .ok (.iconst 0, 1) := by decide +kernel
theorem dX11_first_36 : decode cX11_first 36 = .ok (.istore_n 3, 1) := by decide +kernel
theorem dX11_first_37 : decode cX11_first 37 = .ok (.iload_n 3, 1) := by decide +kernel
theorem dX11_first_38 : decode cX11_first 38 = .ok (.bipush 99, 2) := by decide +kernel
theorem dX11_first_40 : decode cX11_first 40 = .ok (.if_icmp .gt 55, 3) := by decide +kernel
theorem dX11_first_43 : decode cX11_first 43 = .ok (.aload_n 0, 1) := by decide +kernel
theorem dX11_first_44 : decode cX11_first 44 = .ok (.getfield 28, 3) := by decide +kernel
theorem dX11_first_47 : decode cX11_first 47 = .ok (.aload_n 0, 1) := by decide +kernel
theorem dX11_first_48 : decode cX11_first 48 = .ok (.getfield 42, 3) := by decide +kernel
theorem dX11_first_51 : decode cX11_first 51 = .ok (.iload_n 1, 1) := by decide +kernel
theorem dX11_first_52 : decode cX11_first 52 = .ok (.iload_n 2, 1) := by decide +kernel
theorem dX11_first_53 : decode cX11_first 53 = .ok (.invokevirtual 326, 3) := by decide +kernel
theorem dX11_first_56 : decode cX11_first 56 = .ok (.ifCond .eq 22, 3) := by decide +kernel
theorem dX11_first_59 : decode cX11_first 59 = .ok (.aload_n 0, 1) := by decide +kernel
theorem dX11_first_60 : decode cX11_first 60 = .ok (.getfield 55, 3) := by decide +kernel
theorem dX11_first_63 : decode cX11_first 63 = .ok (.aload_n 0, 1) := by decide +kernel
theorem dX11_first_64 : decode cX11_first 64 = .ok (.getfield 42, 3) := by decide +kernel
theorem dX11_first_67 : decode cX11_first 67 = .ok (.getfield 177, 3) := by decide +kernel
theorem dX11_first_70 : decode cX11_first 70 = .ok (.iload_n 2, 1) := by decide +kernel
theorem dX11_first_71 : decode cX11_first 71 = .ok (.iaload, 1) := by decide +kernel
theorem dX11_first_72 : decode cX11_first 72 = .ok (.i2l, 1) := by decide +kernel
theorem dX11_first_73 : decode cX11_first 73 = .ok (.invokevirtual 330, 3) := by decide +kernel
theorem dX11_first_76 : decode cX11_first 76 = .ok (.iload_n 3, 1) := by decide +kernel
theorem dX11_first_77 : decode cX11_first 77 = .ok (.ireturn, 1) := by decide +kernel
theorem dX11_first_78 : decode cX11_first 78 = .ok (.aload_n 0, 1) := by decide +kernel
theorem dX11_first_79 : decode cX11_first 79 = .ok (.getfield 28, 3) := by decide +kernel
theorem dX11_first_82 : decode cX11_first 82 = .ok (.aload_n 0, 1) := by decide +kernel
theorem dX11_first_83 : decode cX11_first 83 = .ok (.getfield 42, 3) := by decide +kernel
theorem dX11_first_86 : decode cX11_first 86 = .ok (.invokevirtual 273, 3) := by decide +kernel
theorem dX11_first_89 : decode cX11_first 89 = .ok (.iinc 3 1, 3) := by decide +kernel
theorem dX11_first_92 : decode cX11_first 92 = .ok (.goto (-55), 3) := by decide +kernel
theorem dX11_first_95 : decode cX11_first 95 = .ok (.bipush (-2), 2) := by decide +kernel
theorem dX11_first_97 : decode cX11_first 97 = .ok (.ireturn, 1) := by decide +kernel
theorem dX11_meets_0 : decode cX11_meets 0 = .ok (.aload_n 0, 1) := by decide +kernel
theorem dX11_meets_1 : decode cX11_meets 1 = .ok (.getfield 28, 3) := by decide +kernel
theorem dX11_meets_4 : decode cX11_meets 4 = .ok (.iload_n 1, 1) := by decide +kernel
theorem dX11_meets_5 : decode cX11_meets 5 = .ok (.invokevirtual 209, 3) := by decide +kernel
theorem dX11_meets_8 : decode cX11_meets 8 = .ok (.ifCond .ne 5, 3) := by decide +kernel
theorem dX11_meets_11 : decode cX11_meets 11 = .ok (.iconst (-1), 1) := by decide +kernel
theorem dX11_meets_12 : decode cX11_meets 12 = .ok (.ireturn, 1) := by decide +kernel
theorem dX11_meets_13 : decode cX11_meets 13 = .ok (.aload_n 0, 1) := by decide +kernel
theorem dX11_meets_14 : decode cX11_meets 14 = .ok (.getfield 42, 3) := by decide +kernel
theorem dX11_meets_17 : decode cX11_meets 17 = .ok (.aload_n 0, 1) := by decide +kernel
theorem dX11_meets_18 : decode cX11_meets 18 = .ok (.getfield 35, 3) := by decide +kernel
theorem dX11_meets_21 : decode cX11_meets 21 = .ok (.invokevirtual 231, 3) := by decide +kernel
theorem dX11_meets_24 : decode cX11_meets 24 = .ok (.iconst 0, 1) := by decide +kernel
theorem dX11_meets_25 : decode cX11_meets 25 = .ok (.istore_n 2, 1) := by decide +kernel
theorem dX11_meets_26 : decode cX11_meets 26 = .ok (.iload_n 2, 1) := by decide +kernel
theorem dX11_meets_27 : decode cX11_meets 27 = .ok (.bipush 99, 2) := by decide +kernel
theorem dX11_meets_29 : decode cX11_meets 29 = .ok (.if_icmp .gt 41, 3) := by decide +kernel
theorem dX11_meets_32 : decode cX11_meets 32 = .ok (.aload_n 0, 1) := by decide +kernel
theorem dX11_meets_33 : decode cX11_meets 33 = .ok (.aload_n 0, 1) := by decide +kernel
theorem dX11_meets_34 : decode cX11_meets 34 = .ok (.getfield 28, 3) := by decide +kernel
theorem dX11_meets_37 : decode cX11_meets 37 = .ok (.aload_n 0, 1) := by decide +kernel
theorem dX11_meets_38 : decode cX11_meets 38 = .ok (.getfield 42, 3) := by decide +kernel
theorem dX11_meets_41 : decode cX11_meets 41 = .ok (.iload_n 1, 1) := by decide +kernel
theorem dX11_meets_42 : decode cX11_meets 42 = .ok (.invokevirtual 221, 3) := by decide +kernel
theorem dX11_meets_45 : decode cX11_meets 45 = .ok (.invokevirtual 333, 3) := by decide +kernel
theorem dX11_meets_48 : decode cX11_meets 48 = .ok (.ifCond .eq 5, 3) := by decide +kernel
theorem dX11_meets_51 : decode cX11_meets 51 = .ok (.iload_n 2, 1) := by decide +kernel
theorem dX11_meets_52 : decode cX11_meets 52 = .ok (.ireturn, 1) := by decide +kernel
theorem dX11_meets_53 : decode cX11_meets 53 = .ok (.aload_n 0, 1) := by decide +kernel
theorem dX11_meets_54 : decode cX11_meets 54 = .ok (.getfield 28, 3) := by decide +kernel
theorem dX11_meets_57 : decode cX11_meets 57 = .ok (.aload_n 0, 1) := by decide +kernel
theorem dX11_meets_58 : decode cX11_meets 58 = .ok (.getfield 42, 3) := by decide +kernel
theorem dX11_meets_61 : decode cX11_meets 61 = .ok (.invokevirtual 273, 3) := by decide +kernel
theorem dX11_meets_64 : decode cX11_meets 64 = .ok (.iinc 2 1, 3) := by decide +kernel
theorem dX11_meets_67 : decode cX11_meets 67 = .ok (.goto (-41), 3) := by decide +kernel
theorem dX11_meets_70 : decode cX11_meets 70 = .ok (.bipush (-2), 2) := by decide +kernel
theorem dX11_meets_72 : decode cX11_meets 72 = .ok (.ireturn, 1) := by decide +kernel
theorem dX11_tellMeeting_0 : decode cX11_tellMeeting 0 = .ok (.iload_n 1, 1) := by decide +kernel
theorem dX11_tellMeeting_1 : decode cX11_tellMeeting 1 = .ok (.invokestatic 254, 3) := by decide +kernel
theorem dX11_tellMeeting_4 : decode cX11_tellMeeting 4 = .ok (.iconst 2, 1) := by decide +kernel
theorem dX11_tellMeeting_5 : decode cX11_tellMeeting 5 = .ok (.if_icmp .ge 5, 3) := by decide +kernel
theorem dX11_tellMeeting_8 : decode cX11_tellMeeting 8 = .ok (.iconst 0, 1) := by decide +kernel
theorem dX11_tellMeeting_9 : decode cX11_tellMeeting 9 = .ok (.ireturn, 1) := by decide +kernel
theorem dX11_tellMeeting_10 : decode cX11_tellMeeting 10 = .ok (.iconst 0, 1) := by decide +kernel
theorem dX11_tellMeeting_11 : decode cX11_tellMeeting 11 = .ok (.istore_n 2, 1) := by decide +kernel
theorem dX11_tellMeeting_12 : decode cX11_tellMeeting 12 = .ok (.iload_n 2, 1) := by decide +kernel
theorem dX11_tellMeeting_13 : decode cX11_tellMeeting 13 = .ok (.aload_n 0, 1) := by decide +kernel
theorem dX11_tellMeeting_14 : decode cX11_tellMeeting 14 = .ok (.getfield 28, 3) := by decide +kernel
theorem dX11_tellMeeting_17 : decode cX11_tellMeeting 17 = .ok (.invokevirtual 336, 3) := by decide +kernel
theorem dX11_tellMeeting_20 : decode cX11_tellMeeting 20 = .ok (.if_icmp .ge 45, 3) := by decide +kernel
theorem dX11_tellMeeting_23 : decode cX11_tellMeeting 23 = .ok (.iload_n 1, 1) := by decide +kernel
theorem dX11_tellMeeting_24 : decode cX11_tellMeeting 24 = .ok (.aload_n 0, 1) := by decide +kernel
theorem dX11_tellMeeting_25 : decode cX11_tellMeeting 25 = .ok (.getfield 28, 3) := by decide +kernel
theorem dX11_tellMeeting_28 : decode cX11_tellMeeting 28 = .ok (.aload_n 0, 1) := by decide +kernel
theorem dX11_tellMeeting_29 : decode cX11_tellMeeting 29 = .ok (.getfield 42, 3) := by decide +kernel
theorem dX11_tellMeeting_32 : decode cX11_tellMeeting 32 = .ok (.iload_n 2, 1) := by decide +kernel
theorem dX11_tellMeeting_33 : decode cX11_tellMeeting 33 = .ok (.invokevirtual 339, 3) := by decide +kernel
theorem dX11_tellMeeting_36 : decode cX11_tellMeeting 36 = .ok (.iand, 1) := by decide +kernel
theorem dX11_tellMeeting_37 : decode cX11_tellMeeting 37 = .ok (.istore_n 3, 1) := by decide +kernel
theorem dX11_tellMeeting_38 : decode cX11_tellMeeting 38 = .ok (.iload_n 3, 1) := by decide +kernel
theorem dX11_tellMeeting_39 : decode cX11_tellMeeting 39 = .ok (.invokestatic 254, 3) := by decide +kernel
theorem dX11_tellMeeting_42 : decode cX11_tellMeeting 42 = .ok (.iconst 2, 1) := by decide +kernel
theorem dX11_tellMeeting_43 : decode cX11_tellMeeting 43 = .ok (.if_icmp .lt 16, 3) := by decide +kernel
theorem dX11_tellMeeting_46 : decode cX11_tellMeeting 46 = .ok (.aload_n 0, 1) := by decide +kernel
theorem dX11_tellMeeting_47 : decode cX11_tellMeeting 47 = .ok (.getfield 55, 3) := by decide +kernel
theorem dX11_tellMeeting_50 : decode cX11_tellMeeting 50 = .ok (.iload_n 2, 1) := by decide +kernel
theorem dX11_tellMeeting_51 : decode cX11_tellMeeting 51 = .ok (.i2l, 1) := by decide +kernel
theorem dX11_tellMeeting_52 : decode cX11_tellMeeting 52 = .ok (.iload_n 3, 1) := by decide +kernel
theorem dX11_tellMeeting_53 : decode cX11_tellMeeting 53 = .ok (.i2l, 1) := by decide +kernel
theorem dX11_tellMeeting_54 : decode cX11_tellMeeting 54 = .ok (.invokevirtual 298, 3) := by decide +kernel
theorem dX11_tellMeeting_57 : decode cX11_tellMeeting 57 = .ok (.iconst 1, 1) := by decide +kernel
theorem dX11_tellMeeting_58 : decode cX11_tellMeeting 58 = .ok (.ireturn, 1) := by decide +kernel
theorem dX11_tellMeeting_59 : decode cX11_tellMeeting 59 = .ok (.iinc 2 1, 3) := by decide +kernel
theorem dX11_tellMeeting_62 : decode cX11_tellMeeting 62 = .ok (.goto (-50), 3) := by decide +kernel
theorem dX11_tellMeeting_65 : decode cX11_tellMeeting 65 = .ok (.iconst 0, 1) := by decide +kernel
theorem dX11_tellMeeting_66 : decode cX11_tellMeeting 66 = .ok (.ireturn, 1) := by decide +kernel
theorem dX11_doubts_0 : decode cX11_doubts 0 = .ok (.aload_n 0, 1) := by decide +kernel
theorem dX11_doubts_1 : decode cX11_doubts 1 = .ok (.getfield 28, 3) := by decide +kernel
theorem dX11_doubts_4 : decode cX11_doubts 4 = .ok (.iload_n 1, 1) := by decide +kernel
theorem dX11_doubts_5 : decode cX11_doubts 5 = .ok (.invokevirtual 209, 3) := by decide +kernel
theorem dX11_doubts_8 : decode cX11_doubts 8 = .ok (.ifCond .eq 19, 3) := by decide +kernel
theorem dX11_doubts_11 : decode cX11_doubts 11 = .ok (.aload_n 0, 1) := by decide +kernel
theorem dX11_doubts_12 : decode cX11_doubts 12 = .ok (.getfield 28, 3) := by decide +kernel
theorem dX11_doubts_15 : decode cX11_doubts 15 = .ok (.iload_n 2, 1) := by decide +kernel
theorem dX11_doubts_16 : decode cX11_doubts 16 = .ok (.invokevirtual 209, 3) := by decide +kernel
theorem dX11_doubts_19 : decode cX11_doubts 19 = .ok (.ifCond .eq 8, 3) := by decide +kernel
theorem dX11_doubts_22 : decode cX11_doubts 22 = .ok (.iload_n 1, 1) := by decide +kernel
theorem dX11_doubts_23 : decode cX11_doubts 23 = .ok (.iload_n 2, 1) := by decide +kernel
theorem dX11_doubts_24 : decode cX11_doubts 24 = .ok (.if_icmp .ne 5, 3) := by decide +kernel
theorem dX11_doubts_27 : decode cX11_doubts 27 = .ok (.iconst (-1), 1) := by decide +kernel
theorem dX11_doubts_28 : decode cX11_doubts 28 = .ok (.ireturn, 1) := by decide +kernel
theorem dX11_doubts_29 : decode cX11_doubts 29 = .ok (.aload_n 0, 1) := by decide +kernel
theorem dX11_doubts_30 : decode cX11_doubts 30 = .ok (.getfield 28, 3) := by decide +kernel
theorem dX11_doubts_33 : decode cX11_doubts 33 = .ok (.aload_n 0, 1) := by decide +kernel
theorem dX11_doubts_34 : decode cX11_doubts 34 = .ok (.getfield 35, 3) := by decide +kernel
theorem dX11_doubts_37 : decode cX11_doubts 37 = .ok (.iload_n 1, 1) := by decide +kernel
theorem dX11_doubts_38 : decode cX11_doubts 38 = .ok (.invokevirtual 224, 3) := by decide +kernel
theorem dX11_doubts_41 : decode cX11_doubts 41 = .ok (.aload_n 0, 1) := by decide +kernel
theorem dX11_doubts_42 : decode cX11_doubts 42 = .ok (.getfield 28, 3) := by decide +kernel
theorem dX11_doubts_45 : decode cX11_doubts 45 = .ok (.aload_n 0, 1) := by decide +kernel
theorem dX11_doubts_46 : decode cX11_doubts 46 = .ok (.getfield 35, 3) := by decide +kernel
theorem dX11_doubts_49 : decode cX11_doubts 49 = .ok (.iload_n 2, 1) := by decide +kernel
theorem dX11_doubts_50 : decode cX11_doubts 50 = .ok (.invokevirtual 224, 3) := by decide +kernel
theorem dX11_doubts_53 : decode cX11_doubts 53 = .ok (.iand, 1) := by decide +kernel
theorem dX11_doubts_54 : decode cX11_doubts 54 = .ok (.istore_n 3, 1) := by decide +kernel
theorem dX11_doubts_55 : decode cX11_doubts 55 = .ok (.aload_n 0, 1) := by decide +kernel
theorem dX11_doubts_56 : decode cX11_doubts 56 = .ok (.getfield 28, 3) := by decide +kernel
theorem dX11_doubts_59 : decode cX11_doubts 59 = .ok (.aload_n 0, 1) := by decide +kernel
theorem dX11_doubts_60 : decode cX11_doubts 60 = .ok (.getfield 35, 3) := by decide +kernel
theorem dX11_doubts_63 : decode cX11_doubts 63 = .ok (.iload_n 1, 1) := by decide +kernel
theorem dX11_doubts_64 : decode cX11_doubts 64 = .ok (.invokevirtual 221, 3) := by decide +kernel
theorem dX11_doubts_67 : decode cX11_doubts 67 = .ok (.istore 4, 2) := by decide +kernel
theorem dX11_doubts_69 : decode cX11_doubts 69 = .ok (.iload 4, 2) := by decide +kernel
theorem dX11_doubts_71 : decode cX11_doubts 71 = .ok (.aload_n 0, 1) := by decide +kernel
theorem dX11_doubts_72 : decode cX11_doubts 72 = .ok (.getfield 28, 3) := by decide +kernel
theorem dX11_doubts_75 : decode cX11_doubts 75 = .ok (.aload_n 0, 1) := by decide +kernel
theorem dX11_doubts_76 : decode cX11_doubts 76 = .ok (.getfield 35, 3) := by decide +kernel
theorem dX11_doubts_79 : decode cX11_doubts 79 = .ok (.iload_n 2, 1) := by decide +kernel
theorem dX11_doubts_80 : decode cX11_doubts 80 = .ok (.invokevirtual 221, 3) := by decide +kernel
theorem dX11_doubts_83 : decode cX11_doubts 83 = .ok (.ixor, 1) := by decide +kernel
theorem dX11_doubts_84 : decode cX11_doubts 84 = .ok (.iload_n 3, 1) := by decide +kernel
theorem dX11_doubts_85 : decode cX11_doubts 85 = .ok (.iand, 1) := by decide +kernel
theorem dX11_doubts_86 : decode cX11_doubts 86 = .ok (.istore 5, 2) := by decide +kernel
theorem dX11_doubts_88 : decode cX11_doubts 88 = .ok (.aload_n 0, 1) := by decide +kernel
theorem dX11_doubts_89 : decode cX11_doubts 89 = .ok (.getfield 55, 3) := by decide +kernel
theorem dX11_doubts_92 : decode cX11_doubts 92 = .ok (.iload 5, 2) := by decide +kernel
theorem dX11_doubts_94 : decode cX11_doubts 94 = .ok (.iload 4, 2) := by decide +kernel
theorem dX11_doubts_96 : decode cX11_doubts 96 = .ok (.iand, 1) := by decide +kernel
theorem dX11_doubts_97 : decode cX11_doubts 97 = .ok (.i2l, 1) := by decide +kernel
theorem dX11_doubts_98 : decode cX11_doubts 98 = .ok (.iload_n 3, 1) := by decide +kernel
theorem dX11_doubts_99 : decode cX11_doubts 99 = .ok (.i2l, 1) := by decide +kernel
theorem dX11_doubts_100 : decode cX11_doubts 100 = .ok (.invokevirtual 298, 3) := by decide +kernel
theorem dX11_doubts_103 : decode cX11_doubts 103 = .ok (.iload 5, 2) := by decide +kernel
theorem dX11_doubts_105 : decode cX11_doubts 105 = .ok (.ireturn, 1) := by decide +kernel
theorem dX11_watch_0 : decode cX11_watch 0 = .ok (.aload_n 0, 1) := by decide +kernel
theorem dX11_watch_1 : decode cX11_watch 1 = .ok (.getfield 28, 3) := by decide +kernel
theorem dX11_watch_4 : decode cX11_watch 4 = .ok (.iload_n 1, 1) := by decide +kernel
theorem dX11_watch_5 : decode cX11_watch 5 = .ok (.invokevirtual 342, 3) := by decide +kernel
theorem dX11_watch_8 : decode cX11_watch 8 = .ok (.ifCond .ne 5, 3) := by decide +kernel
theorem dX11_watch_11 : decode cX11_watch 11 = .ok (.iconst (-1), 1) := by decide +kernel
theorem dX11_watch_12 : decode cX11_watch 12 = .ok (.ireturn, 1) := by decide +kernel
theorem dX11_watch_13 : decode cX11_watch 13 = .ok (.aload_n 0, 1) := by decide +kernel
theorem dX11_watch_14 : decode cX11_watch 14 = .ok (.getfield 62, 3) := by decide +kernel
theorem dX11_watch_17 : decode cX11_watch 17 = .ok (.invokevirtual 345, 3) := by decide +kernel
theorem dX11_watch_20 : decode cX11_watch 20 = .ok (.iconst 0, 1) := by decide +kernel
theorem dX11_watch_21 : decode cX11_watch 21 = .ok (.istore_n 2, 1) := by decide +kernel
theorem dX11_watch_22 : decode cX11_watch 22 = .ok (.iload_n 2, 1) := by decide +kernel
theorem dX11_watch_23 : decode cX11_watch 23 = .ok (.aload_n 0, 1) := by decide +kernel
theorem dX11_watch_24 : decode cX11_watch 24 = .ok (.getfield 28, 3) := by decide +kernel
theorem dX11_watch_27 : decode cX11_watch 27 = .ok (.getfield 267, 3) := by decide +kernel
theorem dX11_watch_30 : decode cX11_watch 30 = .ok (.if_icmp .ge 28, 3) := by decide +kernel
theorem dX11_watch_33 : decode cX11_watch 33 = .ok (.aload_n 0, 1) := by decide +kernel
theorem dX11_watch_34 : decode cX11_watch 34 = .ok (.getfield 62, 3) := by decide +kernel
theorem dX11_watch_37 : decode cX11_watch 37 = .ok (.aload_n 0, 1) := by decide +kernel
theorem dX11_watch_38 : decode cX11_watch 38 = .ok (.getfield 28, 3) := by decide +kernel
theorem dX11_watch_41 : decode cX11_watch 41 = .ok (.aload_n 0, 1) := by decide +kernel
theorem dX11_watch_42 : decode cX11_watch 42 = .ok (.getfield 35, 3) := by decide +kernel
theorem dX11_watch_45 : decode cX11_watch 45 = .ok (.iload_n 2, 1) := by decide +kernel
theorem dX11_watch_46 : decode cX11_watch 46 = .ok (.invokevirtual 221, 3) := by decide +kernel
theorem dX11_watch_49 : decode cX11_watch 49 = .ok (.invokevirtual 346, 3) := by decide +kernel
theorem dX11_watch_52 : decode cX11_watch 52 = .ok (.iinc 2 1, 3) := by decide +kernel
theorem dX11_watch_55 : decode cX11_watch 55 = .ok (.goto (-33), 3) := by decide +kernel
theorem dX11_watch_58 : decode cX11_watch 58 = .ok (.aload_n 0, 1) := by decide +kernel
theorem dX11_watch_59 : decode cX11_watch 59 = .ok (.iload_n 1, 1) := by decide +kernel
theorem dX11_watch_60 : decode cX11_watch 60 = .ok (.iconst 0, 1) := by decide +kernel
theorem dX11_watch_61 : decode cX11_watch 61 = .ok (.invokevirtual 348, 3) := by decide +kernel
theorem dX11_watch_64 : decode cX11_watch 64 = .ok (.ireturn, 1) := by decide +kernel
theorem dX11_tellFewest_0 : decode cX11_tellFewest 0 = .ok (.aload_n 0, 1) := by decide +kernel
theorem dX11_tellFewest_1 : decode cX11_tellFewest 1 = .ok (.getfield 62, 3) := by decide +kernel
theorem dX11_tellFewest_4 : decode cX11_tellFewest 4 = .ok (.iload_n 1, 1) := by decide +kernel
theorem dX11_tellFewest_5 : decode cX11_tellFewest 5 = .ok (.iload_n 2, 1) := by decide +kernel
theorem dX11_tellFewest_6 : decode cX11_tellFewest 6 = .ok (.invokevirtual 351, 3) := by decide +kernel
theorem dX11_tellFewest_9 : decode cX11_tellFewest 9 = .ok (.istore_n 3, 1) := by decide +kernel
theorem dX11_tellFewest_10 : decode cX11_tellFewest 10 = .ok (.iload_n 3, 1) := by decide +kernel
theorem dX11_tellFewest_11 : decode cX11_tellFewest 11 = .ok (.iconst (-1), 1) := by decide +kernel
theorem dX11_tellFewest_12 : decode cX11_tellFewest 12 = .ok (.if_icmp .ne 6, 3) := by decide +kernel
theorem dX11_tellFewest_15 : decode cX11_tellFewest 15 = .ok (.bipush (-2), 2) := by decide +kernel
theorem dX11_tellFewest_17 : decode cX11_tellFewest 17 = .ok (.ireturn, 1) := by decide +kernel
theorem dX11_tellFewest_18 : decode cX11_tellFewest 18 = .ok (.aload_n 0, 1) := by decide +kernel
theorem dX11_tellFewest_19 : decode cX11_tellFewest 19 = .ok (.getfield 55, 3) := by decide +kernel
theorem dX11_tellFewest_22 : decode cX11_tellFewest 22 = .ok (.iload_n 3, 1) := by decide +kernel
theorem dX11_tellFewest_23 : decode cX11_tellFewest 23 = .ok (.i2l, 1) := by decide +kernel
theorem dX11_tellFewest_24 : decode cX11_tellFewest 24 = .ok (.invokevirtual 330, 3) := by decide +kernel
theorem dX11_tellFewest_27 : decode cX11_tellFewest 27 = .ok (.iload_n 3, 1) := by decide +kernel
theorem dX11_tellFewest_28 : decode cX11_tellFewest 28 = .ok (.invokestatic 254, 3) := by decide +kernel
theorem dX11_tellFewest_31 : decode cX11_tellFewest 31 = .ok (.ireturn, 1) := by decide +kernel
theorem dX11_hidden_0 : decode cX11_hidden 0 = .ok (.iconst 0, 1) := by decide +kernel
theorem dX11_hidden_1 : decode cX11_hidden 1 = .ok (.istore_n 1, 1) := by decide +kernel
theorem dX11_hidden_2 : decode cX11_hidden 2 = .ok (.aload_n 0, 1) := by decide +kernel
theorem dX11_hidden_3 : decode cX11_hidden 3 = .ok (.getfield 28, 3) := by decide +kernel
theorem dX11_hidden_6 : decode cX11_hidden 6 = .ok (.invokevirtual 202, 3) := by decide +kernel
theorem dX11_hidden_9 : decode cX11_hidden 9 = .ok (.istore_n 2, 1) := by decide +kernel
theorem dX11_hidden_10 : decode cX11_hidden 10 = .ok (.iconst 0, 1) := by decide +kernel
theorem dX11_hidden_11 : decode cX11_hidden 11 = .ok (.istore_n 3, 1) := by decide +kernel
theorem dX11_hidden_12 : decode cX11_hidden 12 = .ok (.iload_n 3, 1) := by decide +kernel
theorem dX11_hidden_13 : decode cX11_hidden 13 = .ok (.aload_n 0, 1) := by decide +kernel
theorem dX11_hidden_14 : decode cX11_hidden 14 = .ok (.getfield 28, 3) := by decide +kernel
theorem dX11_hidden_17 : decode cX11_hidden 17 = .ok (.getfield 267, 3) := by decide +kernel
theorem dX11_hidden_20 : decode cX11_hidden 20 = .ok (.if_icmp .ge 33, 3) := by decide +kernel
theorem dX11_hidden_23 : decode cX11_hidden 23 = .ok (.aload_n 0, 1) := by decide +kernel
theorem dX11_hidden_24 : decode cX11_hidden 24 = .ok (.getfield 28, 3) := by decide +kernel
theorem dX11_hidden_27 : decode cX11_hidden 27 = .ok (.aload_n 0, 1) := by decide +kernel
theorem dX11_hidden_28 : decode cX11_hidden 28 = .ok (.getfield 35, 3) := by decide +kernel
theorem dX11_hidden_31 : decode cX11_hidden 31 = .ok (.iload_n 3, 1) := by decide +kernel
theorem dX11_hidden_32 : decode cX11_hidden 32 = .ok (.invokevirtual 221, 3) := by decide +kernel
theorem dX11_hidden_35 : decode cX11_hidden 35 = .ok (.istore 4, 2) := by decide +kernel
theorem dX11_hidden_37 : decode cX11_hidden 37 = .ok (.iload_n 1, 1) := by decide +kernel
theorem dX11_hidden_38 : decode cX11_hidden 38 = .ok (.iload 4, 2) := by decide +kernel
theorem dX11_hidden_40 : decode cX11_hidden 40 = .ok (.ior, 1) := by decide +kernel
theorem dX11_hidden_41 : decode cX11_hidden 41 = .ok (.istore_n 1, 1) := by decide +kernel
theorem dX11_hidden_42 : decode cX11_hidden 42 = .ok (.iload_n 2, 1) := by decide +kernel
theorem dX11_hidden_43 : decode cX11_hidden 43 = .ok (.iload 4, 2) := by decide +kernel
theorem dX11_hidden_45 : decode cX11_hidden 45 = .ok (.iand, 1) := by decide +kernel
theorem dX11_hidden_46 : decode cX11_hidden 46 = .ok (.istore_n 2, 1) := by decide +kernel
theorem dX11_hidden_47 : decode cX11_hidden 47 = .ok (.iinc 3 1, 3) := by decide +kernel
theorem dX11_hidden_50 : decode cX11_hidden 50 = .ok (.goto (-38), 3) := by decide +kernel
theorem dX11_hidden_53 : decode cX11_hidden 53 = .ok (.aload_n 0, 1) := by decide +kernel
theorem dX11_hidden_54 : decode cX11_hidden 54 = .ok (.getfield 28, 3) := by decide +kernel
theorem dX11_hidden_57 : decode cX11_hidden 57 = .ok (.invokevirtual 202, 3) := by decide +kernel
theorem dX11_hidden_60 : decode cX11_hidden 60 = .ok (.iload_n 1, 1) := by decide +kernel
theorem dX11_hidden_61 : decode cX11_hidden 61 = .ok (.iconst (-1), 1) := by decide +kernel
theorem dX11_hidden_62 : decode cX11_hidden 62 = .ok (.ixor, 1) := by decide +kernel
theorem dX11_hidden_63 : decode cX11_hidden 63 = .ok (.iand, 1) := by decide +kernel
theorem dX11_hidden_64 : decode cX11_hidden 64 = .ok (.istore_n 3, 1) := by decide +kernel
theorem dX11_hidden_65 : decode cX11_hidden 65 = .ok (.aload_n 0, 1) := by decide +kernel
theorem dX11_hidden_66 : decode cX11_hidden 66 = .ok (.getfield 55, 3) := by decide +kernel
theorem dX11_hidden_69 : decode cX11_hidden 69 = .ok (.iload_n 3, 1) := by decide +kernel
theorem dX11_hidden_70 : decode cX11_hidden 70 = .ok (.invokestatic 254, 3) := by decide +kernel
theorem dX11_hidden_73 : decode cX11_hidden 73 = .ok (.i2l, 1) := by decide +kernel
theorem dX11_hidden_74 : decode cX11_hidden 74 = .ok (.iload_n 2, 1) := by decide +kernel
theorem dX11_hidden_75 : decode cX11_hidden 75 = .ok (.i2l, 1) := by decide +kernel
theorem dX11_hidden_76 : decode cX11_hidden 76 = .ok (.invokevirtual 298, 3) := by decide +kernel
theorem dX11_hidden_79 : decode cX11_hidden 79 = .ok (.iload_n 3, 1) := by decide +kernel
theorem dX11_hidden_80 : decode cX11_hidden 80 = .ok (.ireturn, 1) := by decide +kernel
theorem dX11_glaze_0 : decode cX11_glaze 0 = .ok (.aload_n 0, 1) := by decide +kernel
theorem dX11_glaze_1 : decode cX11_glaze 1 = .ok (.getfield 28, 3) := by decide +kernel
theorem dX11_glaze_4 : decode cX11_glaze 4 = .ok (.iload_n 1, 1) := by decide +kernel
theorem dX11_glaze_5 : decode cX11_glaze 5 = .ok (.invokevirtual 209, 3) := by decide +kernel
theorem dX11_glaze_8 : decode cX11_glaze 8 = .ok (.ifCond .eq 25, 3) := by decide +kernel
theorem dX11_glaze_11 : decode cX11_glaze 11 = .ok (.aload_n 0, 1) := by decide +kernel
theorem dX11_glaze_12 : decode cX11_glaze 12 = .ok (.getfield 28, 3) := by decide +kernel
theorem dX11_glaze_15 : decode cX11_glaze 15 = .ok (.iload_n 2, 1) := by decide +kernel
theorem dX11_glaze_16 : decode cX11_glaze 16 = .ok (.invokevirtual 342, 3) := by decide +kernel
theorem dX11_glaze_19 : decode cX11_glaze 19 = .ok (.ifCond .eq 14, 3) := by decide +kernel
theorem dX11_glaze_22 : decode cX11_glaze 22 = .ok (.aload_n 0, 1) := by decide +kernel
theorem dX11_glaze_23 : decode cX11_glaze 23 = .ok (.getfield 28, 3) := by decide +kernel
theorem dX11_glaze_26 : decode cX11_glaze 26 = .ok (.iload_n 3, 1) := by decide +kernel
theorem dX11_glaze_27 : decode cX11_glaze 27 = .ok (.invokevirtual 342, 3) := by decide +kernel
theorem dX11_glaze_30 : decode cX11_glaze 30 = .ok (.ifCond .ne 5, 3) := by decide +kernel
theorem dX11_glaze_33 : decode cX11_glaze 33 = .ok (.iconst (-1), 1) := by decide +kernel
theorem dX11_glaze_34 : decode cX11_glaze 34 = .ok (.ireturn, 1) := by decide +kernel
theorem dX11_glaze_35 : decode cX11_glaze 35 = .ok (.aload_n 0, 1) := by decide +kernel
theorem dX11_glaze_36 : decode cX11_glaze 36 = .ok (.iload_n 1, 1) := by decide +kernel
theorem dX11_glaze_37 : decode cX11_glaze 37 = .ok (.invokevirtual 354, 3) := by decide +kernel
theorem dX11_glaze_40 : decode cX11_glaze 40 = .ok (.aload_n 0, 1) := by decide +kernel
theorem dX11_glaze_41 : decode cX11_glaze 41 = .ok (.iload_n 2, 1) := by decide +kernel
theorem dX11_glaze_42 : decode cX11_glaze 42 = .ok (.iload_n 3, 1) := by decide +kernel
theorem dX11_glaze_43 : decode cX11_glaze 43 = .ok (.invokevirtual 348, 3) := by decide +kernel
theorem dX11_glaze_46 : decode cX11_glaze 46 = .ok (.ireturn, 1) := by decide +kernel
theorem dX11_partByPanes_0 : decode cX11_partByPanes 0 = .ok (.aload_n 0, 1) := by decide +kernel
theorem dX11_partByPanes_1 : decode cX11_partByPanes 1 = .ok (.getfield 28, 3) := by decide +kernel
theorem dX11_partByPanes_4 : decode cX11_partByPanes 4 = .ok (.aload_n 0, 1) := by decide +kernel
theorem dX11_partByPanes_5 : decode cX11_partByPanes 5 = .ok (.getfield 35, 3) := by decide +kernel
theorem dX11_partByPanes_8 : decode cX11_partByPanes 8 = .ok (.iload_n 1, 1) := by decide +kernel
theorem dX11_partByPanes_9 : decode cX11_partByPanes 9 = .ok (.invokevirtual 224, 3) := by decide +kernel
theorem dX11_partByPanes_12 : decode cX11_partByPanes 12 = .ok (.istore_n 2, 1) := by decide +kernel
theorem dX11_partByPanes_13 : decode cX11_partByPanes 13 = .ok (.aload_n 0, 1) := by decide +kernel
theorem dX11_partByPanes_14 : decode cX11_partByPanes 14 = .ok (.getfield 62, 3) := by decide +kernel
theorem dX11_partByPanes_17 : decode cX11_partByPanes 17 = .ok (.invokevirtual 345, 3) := by decide +kernel
theorem dX11_partByPanes_20 : decode cX11_partByPanes 20 = .ok (.iconst 0, 1) := by decide +kernel
theorem dX11_partByPanes_21 : decode cX11_partByPanes 21 = .ok (.istore_n 3, 1) := by decide +kernel
theorem dX11_partByPanes_22 : decode cX11_partByPanes 22 = .ok (.iload_n 3, 1) := by decide +kernel
theorem dX11_partByPanes_23 : decode cX11_partByPanes 23 = .ok (.aload_n 0, 1) := by decide +kernel
theorem dX11_partByPanes_24 : decode cX11_partByPanes 24 = .ok (.getfield 28, 3) := by decide +kernel
theorem dX11_partByPanes_27 : decode cX11_partByPanes 27 = .ok (.getfield 357, 3) := by decide +kernel
theorem dX11_partByPanes_30 : decode cX11_partByPanes 30 = .ok (.if_icmp .ge 29, 3) := by decide +kernel
theorem dX11_partByPanes_33 : decode cX11_partByPanes 33 = .ok (.aload_n 0, 1) := by decide +kernel
theorem dX11_partByPanes_34 : decode cX11_partByPanes 34 = .ok (.getfield 62, 3) := by decide +kernel
theorem dX11_partByPanes_37 : decode cX11_partByPanes 37 = .ok (.aload_n 0, 1) := by decide +kernel
theorem dX11_partByPanes_38 : decode cX11_partByPanes 38 = .ok (.getfield 28, 3) := by decide +kernel
theorem dX11_partByPanes_41 : decode cX11_partByPanes 41 = .ok (.aload_n 0, 1) := by decide +kernel
theorem dX11_partByPanes_42 : decode cX11_partByPanes 42 = .ok (.getfield 35, 3) := by decide +kernel
theorem dX11_partByPanes_45 : decode cX11_partByPanes 45 = .ok (.iload_n 3, 1) := by decide +kernel
theorem dX11_partByPanes_46 : decode cX11_partByPanes 46 = .ok (.iload_n 2, 1) := by decide +kernel
theorem dX11_partByPanes_47 : decode cX11_partByPanes 47 = .ok (.invokevirtual 205, 3) := by decide +kernel
theorem dX11_partByPanes_50 : decode cX11_partByPanes 50 = .ok (.invokevirtual 346, 3) := by decide +kernel
theorem dX11_partByPanes_53 : decode cX11_partByPanes 53 = .ok (.iinc 3 1, 3) := by decide +kernel
theorem dX11_partByPanes_56 : decode cX11_partByPanes 56 = .ok (.goto (-34), 3) := by decide +kernel
theorem dX11_partByPanes_59 : decode cX11_partByPanes 59 = .ok (.return_, 1) := by decide +kernel
theorem dX11_best_0 : decode cX11_best 0 = .ok (.aload_n 0, 1) := by decide +kernel
theorem dX11_best_1 : decode cX11_best 1 = .ok (.getfield 28, 3) := by decide +kernel
theorem dX11_best_4 : decode cX11_best 4 = .ok (.iload_n 1, 1) := by decide +kernel
theorem dX11_best_5 : decode cX11_best 5 = .ok (.invokevirtual 209, 3) := by decide +kernel
theorem dX11_best_8 : decode cX11_best 8 = .ok (.ifCond .ne 5, 3) := by decide +kernel
theorem dX11_best_11 : decode cX11_best 11 = .ok (.iconst (-1), 1) := by decide +kernel
theorem dX11_best_12 : decode cX11_best 12 = .ok (.ireturn, 1) := by decide +kernel
theorem dX11_best_13 : decode cX11_best 13 = .ok (.aload_n 0, 1) := by decide +kernel
theorem dX11_best_14 : decode cX11_best 14 = .ok (.getfield 28, 3) := by decide +kernel
theorem dX11_best_17 : decode cX11_best 17 = .ok (.aload_n 0, 1) := by decide +kernel
theorem dX11_best_18 : decode cX11_best 18 = .ok (.getfield 35, 3) := by decide +kernel
theorem dX11_best_21 : decode cX11_best 21 = .ok (.iload_n 1, 1) := by decide +kernel
theorem dX11_best_22 : decode cX11_best 22 = .ok (.invokevirtual 218, 3) := by decide +kernel
theorem dX11_best_25 : decode cX11_best 25 = .ok (.istore_n 2, 1) := by decide +kernel
theorem dX11_best_26 : decode cX11_best 26 = .ok (.iload_n 2, 1) := by decide +kernel
theorem dX11_best_27 : decode cX11_best 27 = .ok (.ifCond .ne 6, 3) := by decide +kernel
theorem dX11_best_30 : decode cX11_best 30 = .ok (.bipush (-2), 2) := by decide +kernel
theorem dX11_best_32 : decode cX11_best 32 = .ok (.ireturn, 1) := by decide +kernel
theorem dX11_best_33 : decode cX11_best 33 = .ok (.aload_n 0, 1) := by decide +kernel
theorem dX11_best_34 : decode cX11_best 34 = .ok (.iload_n 1, 1) := by decide +kernel
theorem dX11_best_35 : decode cX11_best 35 = .ok (.invokevirtual 354, 3) := by decide +kernel
theorem dX11_best_38 : decode cX11_best 38 = .ok (.iconst (-1), 1) := by decide +kernel
theorem dX11_best_39 : decode cX11_best 39 = .ok (.istore_n 3, 1) := by decide +kernel
theorem dX11_best_40 : decode cX11_best 40 = .ok (.bipush 9, 2) := by decide +kernel
theorem dX11_best_42 : decode cX11_best 42 = .ok (.istore 4, 2) := by decide +kernel
theorem dX11_best_44 : decode cX11_best 44 = .ok (.iconst 0, 1) := by decide +kernel
theorem dX11_best_45 : decode cX11_best 45 = .ok (.istore 5, 2) := by decide +kernel
theorem dX11_best_47 : decode cX11_best 47 = .ok (.iload 5, 2) := by decide +kernel
theorem dX11_best_49 : decode cX11_best 49 = .ok (.aload_n 0, 1) := by decide +kernel
theorem dX11_best_50 : decode cX11_best 50 = .ok (.getfield 28, 3) := by decide +kernel
theorem dX11_best_53 : decode cX11_best 53 = .ok (.getfield 357, 3) := by decide +kernel
theorem dX11_best_56 : decode cX11_best 56 = .ok (.if_icmp .ge 52, 3) := by decide +kernel
theorem dX11_best_59 : decode cX11_best 59 = .ok (.aload_n 0, 1) := by decide +kernel
theorem dX11_best_60 : decode cX11_best 60 = .ok (.getfield 62, 3) := by decide +kernel
theorem dX11_best_63 : decode cX11_best 63 = .ok (.iload_n 2, 1) := by decide +kernel
theorem dX11_best_64 : decode cX11_best 64 = .ok (.iconst 1, 1) := by decide +kernel
theorem dX11_best_65 : decode cX11_best 65 = .ok (.iload 5, 2) := by decide +kernel
theorem dX11_best_67 : decode cX11_best 67 = .ok (.ishl, 1) := by decide +kernel
theorem dX11_best_68 : decode cX11_best 68 = .ok (.iconst (-1), 1) := by decide +kernel
theorem dX11_best_69 : decode cX11_best 69 = .ok (.ixor, 1) := by decide +kernel
theorem dX11_best_70 : decode cX11_best 70 = .ok (.iand, 1) := by decide +kernel
theorem dX11_best_71 : decode cX11_best 71 = .ok (.invokevirtual 360, 3) := by decide +kernel
theorem dX11_best_74 : decode cX11_best 74 = .ok (.invokestatic 254, 3) := by decide +kernel
theorem dX11_best_77 : decode cX11_best 77 = .ok (.istore 6, 2) := by decide +kernel
theorem dX11_best_79 : decode cX11_best 79 = .ok (.iload_n 2, 1) := by decide +kernel
theorem dX11_best_80 : decode cX11_best 80 = .ok (.iload 5, 2) := by decide +kernel
theorem dX11_best_82 : decode cX11_best 82 = .ok (.invokestatic 363, 3) := by decide +kernel
theorem dX11_best_85 : decode cX11_best 85 = .ok (.ifCond .eq 17, 3) := by decide +kernel
theorem dX11_best_88 : decode cX11_best 88 = .ok (.iload 6, 2) := by decide +kernel
theorem dX11_best_90 : decode cX11_best 90 = .ok (.iload 4, 2) := by decide +kernel
theorem dX11_best_92 : decode cX11_best 92 = .ok (.if_icmp .ge 10, 3) := by decide +kernel
theorem dX11_best_95 : decode cX11_best 95 = .ok (.iload 5, 2) := by decide +kernel
theorem dX11_best_97 : decode cX11_best 97 = .ok (.istore_n 3, 1) := by decide +kernel
theorem dX11_best_98 : decode cX11_best 98 = .ok (.iload 6, 2) := by decide +kernel
theorem dX11_best_100 : decode cX11_best 100 = .ok (.istore 4, 2) := by decide +kernel
theorem dX11_best_102 : decode cX11_best 102 = .ok (.iinc 5 1, 3) := by decide +kernel
theorem dX11_best_105 : decode cX11_best 105 = .ok (.goto (-58), 3) := by decide +kernel
theorem dX11_best_108 : decode cX11_best 108 = .ok (.aload_n 0, 1) := by decide +kernel
theorem dX11_best_109 : decode cX11_best 109 = .ok (.getfield 55, 3) := by decide +kernel
theorem dX11_best_112 : decode cX11_best 112 = .ok (.iload 4, 2) := by decide +kernel
theorem dX11_best_114 : decode cX11_best 114 = .ok (.i2l, 1) := by decide +kernel
theorem dX11_best_115 : decode cX11_best 115 = .ok (.aload_n 0, 1) := by decide +kernel
theorem dX11_best_116 : decode cX11_best 116 = .ok (.getfield 62, 3) := by decide +kernel
theorem dX11_best_119 : decode cX11_best 119 = .ok (.iload_n 2, 1) := by decide +kernel
theorem dX11_best_120 : decode cX11_best 120 = .ok (.invokevirtual 360, 3) := by decide +kernel
theorem dX11_best_123 : decode cX11_best 123 = .ok (.invokestatic 254, 3) := by decide +kernel
theorem dX11_best_126 : decode cX11_best 126 = .ok (.i2l, 1) := by decide +kernel
theorem dX11_best_127 : decode cX11_best 127 = .ok (.invokevirtual 298, 3) := by decide +kernel
theorem dX11_best_130 : decode cX11_best 130 = .ok (.iload_n 3, 1) := by decide +kernel
theorem dX11_best_131 : decode cX11_best 131 = .ok (.ireturn, 1) := by decide +kernel
theorem dX11_adds_0 : decode cX11_adds 0 = .ok (.aload_n 0, 1) := by decide +kernel
theorem dX11_adds_1 : decode cX11_adds 1 = .ok (.getfield 28, 3) := by decide +kernel
theorem dX11_adds_4 : decode cX11_adds 4 = .ok (.iload_n 1, 1) := by decide +kernel
theorem dX11_adds_5 : decode cX11_adds 5 = .ok (.invokevirtual 187, 3) := by decide +kernel
theorem dX11_adds_8 : decode cX11_adds 8 = .ok (.ifCond .ne 5, 3) := by decide +kernel
theorem dX11_adds_11 : decode cX11_adds 11 = .ok (.iconst (-1), 1) := by decide +kernel
theorem dX11_adds_12 : decode cX11_adds 12 = .ok (.ireturn, 1) := by decide +kernel
theorem dX11_adds_13 : decode cX11_adds 13 = .ok (.aload_n 0, 1) := by decide +kernel
theorem dX11_adds_14 : decode cX11_adds 14 = .ok (.getfield 35, 3) := by decide +kernel
theorem dX11_adds_17 : decode cX11_adds 17 = .ok (.getfield 196, 3) := by decide +kernel
theorem dX11_adds_20 : decode cX11_adds 20 = .ok (.iload_n 1, 1) := by decide +kernel
theorem dX11_adds_21 : decode cX11_adds 21 = .ok (.iaload, 1) := by decide +kernel
theorem dX11_adds_22 : decode cX11_adds 22 = .ok (.istore_n 2, 1) := by decide +kernel
theorem dX11_adds_23 : decode cX11_adds 23 = .ok (.iload_n 2, 1) := by decide +kernel
theorem dX11_adds_24 : decode cX11_adds 24 = .ok (.iconst (-1), 1) := by decide +kernel
theorem dX11_adds_25 : decode cX11_adds 25 = .ok (.if_icmp .ne 6, 3) := by decide +kernel
theorem dX11_adds_28 : decode cX11_adds 28 = .ok (.bipush (-2), 2) := by decide +kernel
theorem dX11_adds_30 : decode cX11_adds 30 = .ok (.ireturn, 1) := by decide +kernel
theorem dX11_adds_31 : decode cX11_adds 31 = .ok (.aload_n 0, 1) := by decide +kernel
theorem dX11_adds_32 : decode cX11_adds 32 = .ok (.iload_n 2, 1) := by decide +kernel
theorem dX11_adds_33 : decode cX11_adds 33 = .ok (.invokevirtual 354, 3) := by decide +kernel
theorem dX11_adds_36 : decode cX11_adds 36 = .ok (.aload_n 0, 1) := by decide +kernel
theorem dX11_adds_37 : decode cX11_adds 37 = .ok (.getfield 62, 3) := by decide +kernel
theorem dX11_adds_40 : decode cX11_adds 40 = .ok (.iconst 1, 1) := by decide +kernel
theorem dX11_adds_41 : decode cX11_adds 41 = .ok (.iload_n 1, 1) := by decide +kernel
theorem dX11_adds_42 : decode cX11_adds 42 = .ok (.ishl, 1) := by decide +kernel
theorem dX11_adds_43 : decode cX11_adds 43 = .ok (.invokevirtual 360, 3) := by decide +kernel
theorem dX11_adds_46 : decode cX11_adds 46 = .ok (.istore_n 3, 1) := by decide +kernel
theorem dX11_adds_47 : decode cX11_adds 47 = .ok (.aload_n 0, 1) := by decide +kernel
theorem dX11_adds_48 : decode cX11_adds 48 = .ok (.getfield 28, 3) := by decide +kernel
theorem dX11_adds_51 : decode cX11_adds 51 = .ok (.aload_n 0, 1) := by decide +kernel
theorem dX11_adds_52 : decode cX11_adds 52 = .ok (.getfield 35, 3) := by decide +kernel
theorem dX11_adds_55 : decode cX11_adds 55 = .ok (.iload_n 2, 1) := by decide +kernel
theorem dX11_adds_56 : decode cX11_adds 56 = .ok (.invokevirtual 218, 3) := by decide +kernel
theorem dX11_adds_59 : decode cX11_adds 59 = .ok (.iconst 1, 1) := by decide +kernel
theorem dX11_adds_60 : decode cX11_adds 60 = .ok (.iload_n 1, 1) := by decide +kernel
theorem dX11_adds_61 : decode cX11_adds 61 = .ok (.ishl, 1) := by decide +kernel
theorem dX11_adds_62 : decode cX11_adds 62 = .ok (.iconst (-1), 1) := by decide +kernel
theorem dX11_adds_63 : decode cX11_adds 63 = .ok (.ixor, 1) := by decide +kernel
theorem dX11_adds_64 : decode cX11_adds 64 = .ok (.iand, 1) := by decide +kernel
theorem dX11_adds_65 : decode cX11_adds 65 = .ok (.istore 4, 2) := by decide +kernel
theorem dX11_adds_67 : decode cX11_adds 67 = .ok (.iconst 0, 1) := by decide +kernel
theorem dX11_adds_68 : decode cX11_adds 68 = .ok (.istore 5, 2) := by decide +kernel
theorem dX11_adds_70 : decode cX11_adds 70 = .ok (.iconst 0, 1) := by decide +kernel
theorem dX11_adds_71 : decode cX11_adds 71 = .ok (.istore 6, 2) := by decide +kernel
theorem dX11_adds_73 : decode cX11_adds 73 = .ok (.iload 6, 2) := by decide +kernel
theorem dX11_adds_75 : decode cX11_adds 75 = .ok (.iload 4, 2) := by decide +kernel
theorem dX11_adds_77 : decode cX11_adds 77 = .ok (.if_icmp .gt 50, 3) := by decide +kernel
theorem dX11_adds_80 : decode cX11_adds 80 = .ok (.iload 6, 2) := by decide +kernel
theorem dX11_adds_82 : decode cX11_adds 82 = .ok (.iload 4, 2) := by decide +kernel
theorem dX11_adds_84 : decode cX11_adds 84 = .ok (.iconst (-1), 1) := by decide +kernel
theorem dX11_adds_85 : decode cX11_adds 85 = .ok (.ixor, 1) := by decide +kernel
theorem dX11_adds_86 : decode cX11_adds 86 = .ok (.iand, 1) := by decide +kernel
theorem dX11_adds_87 : decode cX11_adds 87 = .ok (.ifCond .ne 7, 3) := by decide +kernel
theorem dX11_adds_90 : decode cX11_adds 90 = .ok (.iconst 1, 1) := by decide +kernel
theorem dX11_adds_91 : decode cX11_adds 91 = .ok (.goto 4, 3) := by decide +kernel
theorem dX11_adds_94 : decode cX11_adds 94 = .ok (.iconst 0, 1) := by decide +kernel
theorem dX11_adds_95 : decode cX11_adds 95 = .ok (.istore 7, 2) := by decide +kernel
theorem dX11_adds_97 : decode cX11_adds 97 = .ok (.iload 7, 2) := by decide +kernel
theorem dX11_adds_99 : decode cX11_adds 99 = .ok (.ifCond .eq 22, 3) := by decide +kernel
theorem dX11_adds_102 : decode cX11_adds 102 = .ok (.iload_n 3, 1) := by decide +kernel
theorem dX11_adds_103 : decode cX11_adds 103 = .ok (.aload_n 0, 1) := by decide +kernel
theorem dX11_adds_104 : decode cX11_adds 104 = .ok (.getfield 62, 3) := by decide +kernel
theorem dX11_adds_107 : decode cX11_adds 107 = .ok (.iload 6, 2) := by decide +kernel
theorem dX11_adds_109 : decode cX11_adds 109 = .ok (.invokevirtual 360, 3) := by decide +kernel
theorem dX11_adds_112 : decode cX11_adds 112 = .ok (.iconst (-1), 1) := by decide +kernel
theorem dX11_adds_113 : decode cX11_adds 113 = .ok (.ixor, 1) := by decide +kernel
theorem dX11_adds_114 : decode cX11_adds 114 = .ok (.iand, 1) := by decide +kernel
theorem dX11_adds_115 : decode cX11_adds 115 = .ok (.ifCond .eq 6, 3) := by decide +kernel
theorem dX11_adds_118 : decode cX11_adds 118 = .ok (.iinc 5 1, 3) := by decide +kernel
theorem dX11_adds_121 : decode cX11_adds 121 = .ok (.iinc 6 1, 3) := by decide +kernel
theorem dX11_adds_124 : decode cX11_adds 124 = .ok (.goto (-51), 3) := by decide +kernel
theorem dX11_adds_127 : decode cX11_adds 127 = .ok (.aload_n 0, 1) := by decide +kernel
theorem dX11_adds_128 : decode cX11_adds 128 = .ok (.getfield 55, 3) := by decide +kernel
theorem dX11_adds_131 : decode cX11_adds 131 = .ok (.iconst 1, 1) := by decide +kernel
theorem dX11_adds_132 : decode cX11_adds 132 = .ok (.iload 4, 2) := by decide +kernel
theorem dX11_adds_134 : decode cX11_adds 134 = .ok (.invokestatic 254, 3) := by decide +kernel
theorem dX11_adds_137 : decode cX11_adds 137 = .ok (.ishl, 1) := by decide +kernel
theorem dX11_adds_138 : decode cX11_adds 138 = .ok (.i2l, 1) := by decide +kernel
theorem dX11_adds_139 : decode cX11_adds 139 = .ok (.invokevirtual 330, 3) := by decide +kernel
theorem dX11_adds_142 : decode cX11_adds 142 = .ok (.iload 5, 2) := by decide +kernel
theorem dX11_adds_144 : decode cX11_adds 144 = .ok (.ireturn, 1) := by decide +kernel
theorem dX11_steals_0 : decode cX11_steals 0 = .ok (.aload_n 0, 1) := by decide +kernel
theorem dX11_steals_1 : decode cX11_steals 1 = .ok (.getfield 28, 3) := by decide +kernel
theorem dX11_steals_4 : decode cX11_steals 4 = .ok (.iload_n 1, 1) := by decide +kernel
theorem dX11_steals_5 : decode cX11_steals 5 = .ok (.invokevirtual 263, 3) := by decide +kernel
theorem dX11_steals_8 : decode cX11_steals 8 = .ok (.ifCond .eq 23, 3) := by decide +kernel
theorem dX11_steals_11 : decode cX11_steals 11 = .ok (.aload_n 0, 1) := by decide +kernel
theorem dX11_steals_12 : decode cX11_steals 12 = .ok (.getfield 28, 3) := by decide +kernel
theorem dX11_steals_15 : decode cX11_steals 15 = .ok (.iload_n 2, 1) := by decide +kernel
theorem dX11_steals_16 : decode cX11_steals 16 = .ok (.invokevirtual 263, 3) := by decide +kernel
theorem dX11_steals_19 : decode cX11_steals 19 = .ok (.ifCond .eq 12, 3) := by decide +kernel
theorem dX11_steals_22 : decode cX11_steals 22 = .ok (.iload_n 3, 1) := by decide +kernel
theorem dX11_steals_23 : decode cX11_steals 23 = .ok (.iload 4, 2) := by decide +kernel
theorem dX11_steals_25 : decode cX11_steals 25 = .ok (.invokestatic 367, 3) := by decide +kernel
theorem dX11_steals_28 : decode cX11_steals 28 = .ok (.ifCond .ne 5, 3) := by decide +kernel
theorem dX11_steals_31 : decode cX11_steals 31 = .ok (.iconst (-1), 1) := by decide +kernel
theorem dX11_steals_32 : decode cX11_steals 32 = .ok (.ireturn, 1) := by decide +kernel
theorem dX11_steals_33 : decode cX11_steals 33 = .ok (.aload_n 0, 1) := by decide +kernel
theorem dX11_steals_34 : decode cX11_steals 34 = .ok (.getfield 71, 3) := by decide +kernel
theorem dX11_steals_37 : decode cX11_steals 37 = .ok (.aload_n 0, 1) := by decide +kernel
theorem dX11_steals_38 : decode cX11_steals 38 = .ok (.getfield 71, 3) := by decide +kernel
theorem dX11_steals_41 : decode cX11_steals 41 = .ok (.aload_n 0, 1) := by decide +kernel
theorem dX11_steals_42 : decode cX11_steals 42 = .ok (.getfield 35, 3) := by decide +kernel
theorem dX11_steals_45 : decode cX11_steals 45 = .ok (.aload_n 0, 1) := by decide +kernel
theorem dX11_steals_46 : decode cX11_steals 46 = .ok (.getfield 35, 3) := by decide +kernel
theorem dX11_steals_49 : decode cX11_steals 49 = .ok (.getfield 280, 3) := by decide +kernel
theorem dX11_steals_52 : decode cX11_steals 52 = .ok (.iload_n 3, 1) := by decide +kernel
theorem dX11_steals_53 : decode cX11_steals 53 = .ok (.iload 4, 2) := by decide +kernel
theorem dX11_steals_55 : decode cX11_steals 55 = .ok (.invokevirtual 370, 3) := by decide +kernel
theorem dX11_steals_58 : decode cX11_steals 58 = .ok (.iload_n 1, 1) := by decide +kernel
theorem dX11_steals_59 : decode cX11_steals 59 = .ok (.iload_n 2, 1) := by decide +kernel
theorem dX11_steals_60 : decode cX11_steals 60 = .ok (.aload_n 0, 1) := by decide +kernel
theorem dX11_steals_61 : decode cX11_steals 61 = .ok (.getfield 55, 3) := by decide +kernel
theorem dX11_steals_64 : decode cX11_steals 64 = .ok (.invokevirtual 374, 3) := by decide +kernel
theorem dX11_steals_67 : decode cX11_steals 67 = .ok (.ireturn, 1) := by decide +kernel
theorem dX11_slips_0 : decode cX11_slips 0 = .ok (.aload_n 0, 1) := by decide +kernel
theorem dX11_slips_1 : decode cX11_slips 1 = .ok (.getfield 28, 3) := by decide +kernel
theorem dX11_slips_4 : decode cX11_slips 4 = .ok (.iload_n 1, 1) := by decide +kernel
theorem dX11_slips_5 : decode cX11_slips 5 = .ok (.invokevirtual 263, 3) := by decide +kernel
theorem dX11_slips_8 : decode cX11_slips 8 = .ok (.ifCond .eq 23, 3) := by decide +kernel
theorem dX11_slips_11 : decode cX11_slips 11 = .ok (.aload_n 0, 1) := by decide +kernel
theorem dX11_slips_12 : decode cX11_slips 12 = .ok (.getfield 28, 3) := by decide +kernel
theorem dX11_slips_15 : decode cX11_slips 15 = .ok (.iload_n 2, 1) := by decide +kernel
theorem dX11_slips_16 : decode cX11_slips 16 = .ok (.invokevirtual 263, 3) := by decide +kernel
theorem dX11_slips_19 : decode cX11_slips 19 = .ok (.ifCond .eq 12, 3) := by decide +kernel
theorem dX11_slips_22 : decode cX11_slips 22 = .ok (.iload_n 3, 1) := by decide +kernel
theorem dX11_slips_23 : decode cX11_slips 23 = .ok (.iload 4, 2) := by decide +kernel
theorem dX11_slips_25 : decode cX11_slips 25 = .ok (.invokestatic 367, 3) := by decide +kernel
theorem dX11_slips_28 : decode cX11_slips 28 = .ok (.ifCond .ne 5, 3) := by decide +kernel
theorem dX11_slips_31 : decode cX11_slips 31 = .ok (.iconst (-1), 1) := by decide +kernel
theorem dX11_slips_32 : decode cX11_slips 32 = .ok (.ireturn, 1) := by decide +kernel
theorem dX11_slips_33 : decode cX11_slips 33 = .ok (.lconst 1, 1) := by decide +kernel
theorem dX11_slips_34 : decode cX11_slips 34 = .ok (.iload_n 1, 1) := by decide +kernel
theorem dX11_slips_35 : decode cX11_slips 35 = .ok (.lshl, 1) := by decide +kernel
theorem dX11_slips_36 : decode cX11_slips 36 = .ok (.aload_n 0, 1) := by decide +kernel
theorem dX11_slips_37 : decode cX11_slips 37 = .ok (.getfield 71, 3) := by decide +kernel
theorem dX11_slips_40 : decode cX11_slips 40 = .ok (.aload_n 0, 1) := by decide +kernel
theorem dX11_slips_41 : decode cX11_slips 41 = .ok (.getfield 35, 3) := by decide +kernel
theorem dX11_slips_44 : decode cX11_slips 44 = .ok (.aload_n 0, 1) := by decide +kernel
theorem dX11_slips_45 : decode cX11_slips 45 = .ok (.getfield 35, 3) := by decide +kernel
theorem dX11_slips_48 : decode cX11_slips 48 = .ok (.getfield 280, 3) := by decide +kernel
theorem dX11_slips_51 : decode cX11_slips 51 = .ok (.iload_n 3, 1) := by decide +kernel
theorem dX11_slips_52 : decode cX11_slips 52 = .ok (.iload 4, 2) := by decide +kernel
theorem dX11_slips_54 : decode cX11_slips 54 = .ok (.invokevirtual 370, 3) := by decide +kernel
theorem dX11_slips_57 : decode cX11_slips 57 = .ok (.land, 1) := by decide +kernel
theorem dX11_slips_58 : decode cX11_slips 58 = .ok (.lstore 5, 2) := by decide +kernel
theorem dX11_slips_60 : decode cX11_slips 60 = .ok (.iconst 0, 1) := by decide +kernel
theorem dX11_slips_61 : decode cX11_slips 61 = .ok (.istore 7, 2) := by decide +kernel
theorem dX11_slips_63 : decode cX11_slips 63 = .ok (.iload 7, 2) := by decide +kernel
theorem dX11_slips_65 : decode cX11_slips 65 = .ok (.bipush 60, 2) := by decide +kernel
theorem dX11_slips_67 : decode cX11_slips 67 = .ok (.if_icmp .gt 71, 3) := by decide +kernel
theorem dX11_slips_70 : decode cX11_slips 70 = .ok (.lload 5, 2) := by decide +kernel
theorem dX11_slips_72 : decode cX11_slips 72 = .ok (.lconst 0, 1) := by decide +kernel
theorem dX11_slips_73 : decode cX11_slips 73 = .ok (.lcmp, 1) := by decide +kernel
theorem dX11_slips_74 : decode cX11_slips 74 = .ok (.ifCond .eq 64, 3) := by decide +kernel
theorem dX11_slips_77 : decode cX11_slips 77 = .ok (.lload 5, 2) := by decide +kernel
theorem dX11_slips_79 : decode cX11_slips 79 = .ok (.iload_n 2, 1) := by decide +kernel
theorem dX11_slips_80 : decode cX11_slips 80 = .ok (.lushr, 1) := by decide +kernel
theorem dX11_slips_81 : decode cX11_slips 81 = .ok (.lconst 1, 1) := by decide +kernel
theorem dX11_slips_82 : decode cX11_slips 82 = .ok (.land, 1) := by decide +kernel
theorem dX11_slips_83 : decode cX11_slips 83 = .ok (.lconst 0, 1) := by decide +kernel
theorem dX11_slips_84 : decode cX11_slips 84 = .ok (.lcmp, 1) := by decide +kernel
theorem dX11_slips_85 : decode cX11_slips 85 = .ok (.ifCond .eq 6, 3) := by decide +kernel
theorem dX11_slips_88 : decode cX11_slips 88 = .ok (.iload 7, 2) := by decide +kernel
theorem dX11_slips_90 : decode cX11_slips 90 = .ok (.ireturn, 1) := by decide +kernel
theorem dX11_slips_91 : decode cX11_slips 91 = .ok (.lload 5, 2) := by decide +kernel
theorem dX11_slips_93 : decode cX11_slips 93 = .ok (.aload_n 0, 1) := by decide +kernel
theorem dX11_slips_94 : decode cX11_slips 94 = .ok (.getfield 71, 3) := by decide +kernel
theorem dX11_slips_97 : decode cX11_slips 97 = .ok (.lload 5, 2) := by decide +kernel
theorem dX11_slips_99 : decode cX11_slips 99 = .ok (.invokevirtual 378, 3) := by decide +kernel
theorem dX11_slips_102 : decode cX11_slips 102 = .ok (.lor, 1) := by decide +kernel
theorem dX11_slips_103 : decode cX11_slips 103 = .ok (.aload_n 0, 1) := by decide +kernel
theorem dX11_slips_104 : decode cX11_slips 104 = .ok (.getfield 71, 3) := by decide +kernel
theorem dX11_slips_107 : decode cX11_slips 107 = .ok (.aload_n 0, 1) := by decide +kernel
theorem dX11_slips_108 : decode cX11_slips 108 = .ok (.getfield 35, 3) := by decide +kernel
theorem dX11_slips_111 : decode cX11_slips 111 = .ok (.aload_n 0, 1) := by decide +kernel
theorem dX11_slips_112 : decode cX11_slips 112 = .ok (.getfield 35, 3) := by decide +kernel
theorem dX11_slips_115 : decode cX11_slips 115 = .ok (.getfield 280, 3) := by decide +kernel
theorem dX11_slips_118 : decode cX11_slips 118 = .ok (.iload 7, 2) := by decide +kernel
theorem dX11_slips_120 : decode cX11_slips 120 = .ok (.iadd, 1) := by decide +kernel
theorem dX11_slips_121 : decode cX11_slips 121 = .ok (.iconst 1, 1) := by decide +kernel
theorem dX11_slips_122 : decode cX11_slips 122 = .ok (.iadd, 1) := by decide +kernel
theorem dX11_slips_123 : decode cX11_slips 123 = .ok (.iload_n 3, 1) := by decide +kernel
theorem dX11_slips_124 : decode cX11_slips 124 = .ok (.iload 4, 2) := by decide +kernel
theorem dX11_slips_126 : decode cX11_slips 126 = .ok (.invokevirtual 370, 3) := by decide +kernel
theorem dX11_slips_129 : decode cX11_slips 129 = .ok (.land, 1) := by decide +kernel
theorem dX11_slips_130 : decode cX11_slips 130 = .ok (.lstore 5, 2) := by decide +kernel
theorem dX11_slips_132 : decode cX11_slips 132 = .ok (.iinc 7 1, 3) := by decide +kernel
theorem dX11_slips_135 : decode cX11_slips 135 = .ok (.goto (-72), 3) := by decide +kernel
theorem dX11_slips_138 : decode cX11_slips 138 = .ok (.bipush (-2), 2) := by decide +kernel
theorem dX11_slips_140 : decode cX11_slips 140 = .ok (.ireturn, 1) := by decide +kernel
theorem dX11_dark_0 : decode cX11_dark 0 = .ok (.iload_n 1, 1) := by decide +kernel
theorem dX11_dark_1 : decode cX11_dark 1 = .ok (.iload_n 2, 1) := by decide +kernel
theorem dX11_dark_2 : decode cX11_dark 2 = .ok (.invokestatic 367, 3) := by decide +kernel
theorem dX11_dark_5 : decode cX11_dark 5 = .ok (.ifCond .ne 7, 3) := by decide +kernel
theorem dX11_dark_8 : decode cX11_dark 8 = .ok (.ldc2_w 382, 3) := by decide +kernel
theorem dX11_dark_11 : decode cX11_dark 11 = .ok (.lreturn, 1) := by decide +kernel
theorem dX11_dark_12 : decode cX11_dark 12 = .ok (.aload_n 0, 1) := by decide +kernel
theorem dX11_dark_13 : decode cX11_dark 13 = .ok (.getfield 71, 3) := by decide +kernel
theorem dX11_dark_16 : decode cX11_dark 16 = .ok (.aload_n 0, 1) := by decide +kernel
theorem dX11_dark_17 : decode cX11_dark 17 = .ok (.getfield 35, 3) := by decide +kernel
theorem dX11_dark_20 : decode cX11_dark 20 = .ok (.aload_n 0, 1) := by decide +kernel
theorem dX11_dark_21 : decode cX11_dark 21 = .ok (.getfield 35, 3) := by decide +kernel
theorem dX11_dark_24 : decode cX11_dark 24 = .ok (.getfield 280, 3) := by decide +kernel
theorem dX11_dark_27 : decode cX11_dark 27 = .ok (.iload_n 1, 1) := by decide +kernel
theorem dX11_dark_28 : decode cX11_dark 28 = .ok (.iload_n 2, 1) := by decide +kernel
theorem dX11_dark_29 : decode cX11_dark 29 = .ok (.invokevirtual 370, 3) := by decide +kernel
theorem dX11_dark_32 : decode cX11_dark 32 = .ok (.lstore_n 3, 1) := by decide +kernel
theorem dX11_dark_33 : decode cX11_dark 33 = .ok (.aload_n 0, 1) := by decide +kernel
theorem dX11_dark_34 : decode cX11_dark 34 = .ok (.getfield 55, 3) := by decide +kernel
theorem dX11_dark_37 : decode cX11_dark 37 = .ok (.lload_n 3, 1) := by decide +kernel
theorem dX11_dark_38 : decode cX11_dark 38 = .ok (.invokestatic 384, 3) := by decide +kernel
theorem dX11_dark_41 : decode cX11_dark 41 = .ok (.i2l, 1) := by decide +kernel
theorem dX11_dark_42 : decode cX11_dark 42 = .ok (.invokevirtual 330, 3) := by decide +kernel
theorem dX11_dark_45 : decode cX11_dark 45 = .ok (.lload_n 3, 1) := by decide +kernel
theorem dX11_dark_46 : decode cX11_dark 46 = .ok (.lreturn, 1) := by decide +kernel
theorem dX11_watched_0 : decode cX11_watched 0 = .ok (.iload_n 1, 1) := by decide +kernel
theorem dX11_watched_1 : decode cX11_watched 1 = .ok (.iload_n 2, 1) := by decide +kernel
theorem dX11_watched_2 : decode cX11_watched 2 = .ok (.invokestatic 367, 3) := by decide +kernel
theorem dX11_watched_5 : decode cX11_watched 5 = .ok (.ifCond .eq 12, 3) := by decide +kernel
theorem dX11_watched_8 : decode cX11_watched 8 = .ok (.iload_n 3, 1) := by decide +kernel
theorem dX11_watched_9 : decode cX11_watched 9 = .ok (.ifCond .lt 8, 3) := by decide +kernel
theorem dX11_watched_12 : decode cX11_watched 12 = .ok (.iload_n 3, 1) := by decide +kernel
theorem dX11_watched_13 : decode cX11_watched 13 = .ok (.iconst 1, 1) := by decide +kernel
theorem dX11_watched_14 : decode cX11_watched 14 = .ok (.if_icmp .le 5, 3) := by decide +kernel
theorem dX11_watched_17 : decode cX11_watched 17 = .ok (.iconst (-1), 1) := by decide +kernel
theorem dX11_watched_18 : decode cX11_watched 18 = .ok (.ireturn, 1) := by decide +kernel
theorem dX11_watched_19 : decode cX11_watched 19 = .ok (.aload_n 0, 1) := by decide +kernel
theorem dX11_watched_20 : decode cX11_watched 20 = .ok (.getfield 78, 3) := by decide +kernel
theorem dX11_watched_23 : decode cX11_watched 23 = .ok (.iload_n 1, 1) := by decide +kernel
theorem dX11_watched_24 : decode cX11_watched 24 = .ok (.iload_n 2, 1) := by decide +kernel
theorem dX11_watched_25 : decode cX11_watched 25 = .ok (.iload_n 3, 1) := by decide +kernel
theorem dX11_watched_26 : decode cX11_watched 26 = .ok (.iconst 1, 1) := by decide +kernel
theorem dX11_watched_27 : decode cX11_watched 27 = .ok (.if_icmp .ne 7, 3) := by decide +kernel
theorem dX11_watched_30 : decode cX11_watched 30 = .ok (.iconst 1, 1) := by decide +kernel
theorem dX11_watched_31 : decode cX11_watched 31 = .ok (.goto 4, 3) := by decide +kernel
theorem dX11_watched_34 : decode cX11_watched 34 = .ok (.iconst 0, 1) := by decide +kernel
theorem dX11_watched_35 : decode cX11_watched 35 = .ok (.invokevirtual 389, 3) := by decide +kernel
theorem dX11_watched_38 : decode cX11_watched 38 = .ok (.ireturn, 1) := by decide +kernel
theorem dX11_forget_0 : decode cX11_forget 0 = .ok (.aload_n 0, 1) := by decide +kernel
theorem dX11_forget_1 : decode cX11_forget 1 = .ok (.getfield 78, 3) := by decide +kernel
theorem dX11_forget_4 : decode cX11_forget 4 = .ok (.invokevirtual 126, 3) := by decide +kernel
theorem dX11_forget_7 : decode cX11_forget 7 = .ok (.ireturn, 1) := by decide +kernel
theorem dX11_laws_0 : decode cX11_laws 0 = .ok (.aload_n 0, 1) := by decide +kernel
theorem dX11_laws_1 : decode cX11_laws 1 = .ok (.getfield 78, 3) := by decide +kernel
theorem dX11_laws_4 : decode cX11_laws 4 = .ok (.invokevirtual 392, 3) := by decide +kernel
theorem dX11_laws_7 : decode cX11_laws 7 = .ok (.istore_n 1, 1) := by decide +kernel
theorem dX11_laws_8 : decode cX11_laws 8 = .ok (.aload_n 0, 1) := by decide +kernel
theorem dX11_laws_9 : decode cX11_laws 9 = .ok (.getfield 55, 3) := by decide +kernel
theorem dX11_laws_12 : decode cX11_laws 12 = .ok (.invokevirtual 266, 3) := by decide +kernel
theorem dX11_laws_15 : decode cX11_laws 15 = .ok (.aload_n 0, 1) := by decide +kernel
theorem dX11_laws_16 : decode cX11_laws 16 = .ok (.getfield 78, 3) := by decide +kernel
theorem dX11_laws_19 : decode cX11_laws 19 = .ok (.invokevirtual 395, 3) := by decide +kernel
theorem dX11_laws_22 : decode cX11_laws 22 = .ok (.istore_n 2, 1) := by decide +kernel
theorem dX11_laws_23 : decode cX11_laws 23 = .ok (.iload_n 2, 1) := by decide +kernel
theorem dX11_laws_24 : decode cX11_laws 24 = .ok (.iconst (-1), 1) := by decide +kernel
theorem dX11_laws_25 : decode cX11_laws 25 = .ok (.if_icmp .eq 21, 3) := by decide +kernel
theorem dX11_laws_28 : decode cX11_laws 28 = .ok (.aload_n 0, 1) := by decide +kernel
theorem dX11_laws_29 : decode cX11_laws 29 = .ok (.getfield 55, 3) := by decide +kernel
theorem dX11_laws_32 : decode cX11_laws 32 = .ok (.aload_n 0, 1) := by decide +kernel
theorem dX11_laws_33 : decode cX11_laws 33 = .ok (.getfield 78, 3) := by decide +kernel
theorem dX11_laws_36 : decode cX11_laws 36 = .ok (.iload_n 2, 1) := by decide +kernel
theorem dX11_laws_37 : decode cX11_laws 37 = .ok (.invokevirtual 398, 3) := by decide +kernel
theorem dX11_laws_40 : decode cX11_laws 40 = .ok (.i2l, 1) := by decide +kernel
theorem dX11_laws_41 : decode cX11_laws 41 = .ok (.iload_n 2, 1) := by decide +kernel
theorem dX11_laws_42 : decode cX11_laws 42 = .ok (.i2l, 1) := by decide +kernel
theorem dX11_laws_43 : decode cX11_laws 43 = .ok (.invokevirtual 298, 3) := by decide +kernel
theorem dX11_laws_46 : decode cX11_laws 46 = .ok (.iload_n 1, 1) := by decide +kernel
theorem dX11_laws_47 : decode cX11_laws 47 = .ok (.ireturn, 1) := by decide +kernel
theorem dX11_next_0 : decode cX11_next 0 = .ok (.aload_n 0, 1) := by decide +kernel
theorem dX11_next_1 : decode cX11_next 1 = .ok (.getfield 78, 3) := by decide +kernel
theorem dX11_next_4 : decode cX11_next 4 = .ok (.invokevirtual 392, 3) := by decide +kernel
theorem dX11_next_7 : decode cX11_next 7 = .ok (.istore_n 1, 1) := by decide +kernel
theorem dX11_next_8 : decode cX11_next 8 = .ok (.iload_n 1, 1) := by decide +kernel
theorem dX11_next_9 : decode cX11_next 9 = .ok (.ifCond .ne 6, 3) := by decide +kernel
theorem dX11_next_12 : decode cX11_next 12 = .ok (.bipush (-2), 2) := by decide +kernel
theorem dX11_next_14 : decode cX11_next 14 = .ok (.ireturn, 1) := by decide +kernel
theorem dX11_next_15 : decode cX11_next 15 = .ok (.iconst 0, 1) := by decide +kernel
theorem dX11_next_16 : decode cX11_next 16 = .ok (.istore_n 2, 1) := by decide +kernel
theorem dX11_next_17 : decode cX11_next 17 = .ok (.iload_n 1, 1) := by decide +kernel
theorem dX11_next_18 : decode cX11_next 18 = .ok (.iconst 1, 1) := by decide +kernel
theorem dX11_next_19 : decode cX11_next 19 = .ok (.iadd, 1) := by decide +kernel
theorem dX11_next_20 : decode cX11_next 20 = .ok (.istore_n 3, 1) := by decide +kernel
theorem dX11_next_21 : decode cX11_next 21 = .ok (.iconst 0, 1) := by decide +kernel
theorem dX11_next_22 : decode cX11_next 22 = .ok (.istore 4, 2) := by decide +kernel
theorem dX11_next_24 : decode cX11_next 24 = .ok (.iload 4, 2) := by decide +kernel
theorem dX11_next_26 : decode cX11_next 26 = .ok (.bipush 80, 2) := by decide +kernel
theorem dX11_next_28 : decode cX11_next 28 = .ok (.if_icmp .ge 51, 3) := by decide +kernel
theorem dX11_next_31 : decode cX11_next 31 = .ok (.aload_n 0, 1) := by decide +kernel
theorem dX11_next_32 : decode cX11_next 32 = .ok (.getfield 78, 3) := by decide +kernel
theorem dX11_next_35 : decode cX11_next 35 = .ok (.iload 4, 2) := by decide +kernel
theorem dX11_next_37 : decode cX11_next 37 = .ok (.bipush 10, 2) := by decide +kernel
theorem dX11_next_39 : decode cX11_next 39 = .ok (.idiv, 1) := by decide +kernel
theorem dX11_next_40 : decode cX11_next 40 = .ok (.iload 4, 2) := by decide +kernel
theorem dX11_next_42 : decode cX11_next 42 = .ok (.bipush 10, 2) := by decide +kernel
theorem dX11_next_44 : decode cX11_next 44 = .ok (.irem, 1) := by decide +kernel
theorem dX11_next_45 : decode cX11_next 45 = .ok (.invokevirtual 401, 3) := by decide +kernel
theorem dX11_next_48 : decode cX11_next 48 = .ok (.istore 5, 2) := by decide +kernel
theorem dX11_next_50 : decode cX11_next 50 = .ok (.iload 5, 2) := by decide +kernel
theorem dX11_next_52 : decode cX11_next 52 = .ok (.iload_n 1, 1) := by decide +kernel
theorem dX11_next_53 : decode cX11_next 53 = .ok (.iload 5, 2) := by decide +kernel
theorem dX11_next_55 : decode cX11_next 55 = .ok (.isub, 1) := by decide +kernel
theorem dX11_next_56 : decode cX11_next 56 = .ok (.invokestatic 404, 3) := by decide +kernel
theorem dX11_next_59 : decode cX11_next 59 = .ok (.istore 6, 2) := by decide +kernel
theorem dX11_next_61 : decode cX11_next 61 = .ok (.iload 6, 2) := by decide +kernel
theorem dX11_next_63 : decode cX11_next 63 = .ok (.iload_n 3, 1) := by decide +kernel
theorem dX11_next_64 : decode cX11_next 64 = .ok (.if_icmp .ge 9, 3) := by decide +kernel
theorem dX11_next_67 : decode cX11_next 67 = .ok (.iload 4, 2) := by decide +kernel
theorem dX11_next_69 : decode cX11_next 69 = .ok (.istore_n 2, 1) := by decide +kernel
theorem dX11_next_70 : decode cX11_next 70 = .ok (.iload 6, 2) := by decide +kernel
theorem dX11_next_72 : decode cX11_next 72 = .ok (.istore_n 3, 1) := by decide +kernel
theorem dX11_next_73 : decode cX11_next 73 = .ok (.iinc 4 1, 3) := by decide +kernel
theorem dX11_next_76 : decode cX11_next 76 = .ok (.goto (-52), 3) := by decide +kernel
theorem dX11_next_79 : decode cX11_next 79 = .ok (.aload_n 0, 1) := by decide +kernel
theorem dX11_next_80 : decode cX11_next 80 = .ok (.getfield 55, 3) := by decide +kernel
theorem dX11_next_83 : decode cX11_next 83 = .ok (.iload_n 3, 1) := by decide +kernel
theorem dX11_next_84 : decode cX11_next 84 = .ok (.i2l, 1) := by decide +kernel
theorem dX11_next_85 : decode cX11_next 85 = .ok (.invokevirtual 330, 3) := by decide +kernel
theorem dX11_next_88 : decode cX11_next 88 = .ok (.iload_n 2, 1) := by decide +kernel
theorem dX11_next_89 : decode cX11_next 89 = .ok (.ireturn, 1) := by decide +kernel
theorem dX11_fits_0 : decode cX11_fits 0 = .ok (.iconst 0, 1) := by decide +kernel
theorem dX11_fits_1 : decode cX11_fits 1 = .ok (.istore_n 1, 1) := by decide +kernel
theorem dX11_fits_2 : decode cX11_fits 2 = .ok (.iconst 0, 1) := by decide +kernel
theorem dX11_fits_3 : decode cX11_fits 3 = .ok (.istore_n 2, 1) := by decide +kernel
theorem dX11_fits_4 : decode cX11_fits 4 = .ok (.iload_n 2, 1) := by decide +kernel
theorem dX11_fits_5 : decode cX11_fits 5 = .ok (.aload_n 0, 1) := by decide +kernel
theorem dX11_fits_6 : decode cX11_fits 6 = .ok (.getfield 28, 3) := by decide +kernel
theorem dX11_fits_9 : decode cX11_fits 9 = .ok (.getfield 357, 3) := by decide +kernel
theorem dX11_fits_12 : decode cX11_fits 12 = .ok (.if_icmp .ge 43, 3) := by decide +kernel
theorem dX11_fits_15 : decode cX11_fits 15 = .ok (.aload_n 0, 1) := by decide +kernel
theorem dX11_fits_16 : decode cX11_fits 16 = .ok (.getfield 78, 3) := by decide +kernel
theorem dX11_fits_19 : decode cX11_fits 19 = .ok (.aload_n 0, 1) := by decide +kernel
theorem dX11_fits_20 : decode cX11_fits 20 = .ok (.getfield 28, 3) := by decide +kernel
theorem dX11_fits_23 : decode cX11_fits 23 = .ok (.getfield 190, 3) := by decide +kernel
theorem dX11_fits_26 : decode cX11_fits 26 = .ok (.iload_n 2, 1) := by decide +kernel
theorem dX11_fits_27 : decode cX11_fits 27 = .ok (.iaload, 1) := by decide +kernel
theorem dX11_fits_28 : decode cX11_fits 28 = .ok (.aload_n 0, 1) := by decide +kernel
theorem dX11_fits_29 : decode cX11_fits 29 = .ok (.getfield 28, 3) := by decide +kernel
theorem dX11_fits_32 : decode cX11_fits 32 = .ok (.getfield 193, 3) := by decide +kernel
theorem dX11_fits_35 : decode cX11_fits 35 = .ok (.iload_n 2, 1) := by decide +kernel
theorem dX11_fits_36 : decode cX11_fits 36 = .ok (.iaload, 1) := by decide +kernel
theorem dX11_fits_37 : decode cX11_fits 37 = .ok (.invokevirtual 409, 3) := by decide +kernel
theorem dX11_fits_40 : decode cX11_fits 40 = .ok (.ifCond .eq 9, 3) := by decide +kernel
theorem dX11_fits_43 : decode cX11_fits 43 = .ok (.iload_n 1, 1) := by decide +kernel
theorem dX11_fits_44 : decode cX11_fits 44 = .ok (.iconst 1, 1) := by decide +kernel
theorem dX11_fits_45 : decode cX11_fits 45 = .ok (.iload_n 2, 1) := by decide +kernel
theorem dX11_fits_46 : decode cX11_fits 46 = .ok (.ishl, 1) := by decide +kernel
theorem dX11_fits_47 : decode cX11_fits 47 = .ok (.ior, 1) := by decide +kernel
theorem dX11_fits_48 : decode cX11_fits 48 = .ok (.istore_n 1, 1) := by decide +kernel
theorem dX11_fits_49 : decode cX11_fits 49 = .ok (.iinc 2 1, 3) := by decide +kernel
theorem dX11_fits_52 : decode cX11_fits 52 = .ok (.goto (-48), 3) := by decide +kernel
theorem dX11_fits_55 : decode cX11_fits 55 = .ok (.aload_n 0, 1) := by decide +kernel
theorem dX11_fits_56 : decode cX11_fits 56 = .ok (.getfield 55, 3) := by decide +kernel
theorem dX11_fits_59 : decode cX11_fits 59 = .ok (.iload_n 1, 1) := by decide +kernel
theorem dX11_fits_60 : decode cX11_fits 60 = .ok (.invokestatic 254, 3) := by decide +kernel
theorem dX11_fits_63 : decode cX11_fits 63 = .ok (.i2l, 1) := by decide +kernel
theorem dX11_fits_64 : decode cX11_fits 64 = .ok (.invokevirtual 330, 3) := by decide +kernel
theorem dX11_fits_67 : decode cX11_fits 67 = .ok (.iload_n 1, 1) := by decide +kernel
theorem dX11_fits_68 : decode cX11_fits 68 = .ok (.ireturn, 1) := by decide +kernel
theorem dX11_claims_0 : decode cX11_claims 0 = .ok (.aload_n 0, 1) := by decide +kernel
theorem dX11_claims_1 : decode cX11_claims 1 = .ok (.getfield 85, 3) := by decide +kernel
theorem dX11_claims_4 : decode cX11_claims 4 = .ok (.invokevirtual 412, 3) := by decide +kernel
theorem dX11_claims_7 : decode cX11_claims 7 = .ok (.aload_n 0, 1) := by decide +kernel
theorem dX11_claims_8 : decode cX11_claims 8 = .ok (.invokevirtual 413, 3) := by decide +kernel
theorem dX11_claims_11 : decode cX11_claims 11 = .ok (.istore_n 1, 1) := by decide +kernel
theorem dX11_claims_12 : decode cX11_claims 12 = .ok (.aload_n 0, 1) := by decide +kernel
theorem dX11_claims_13 : decode cX11_claims 13 = .ok (.getfield 10, 3) := by decide +kernel
theorem dX11_claims_16 : decode cX11_claims 16 = .ok (.invokevirtual 115, 3) := by decide +kernel
theorem dX11_claims_19 : decode cX11_claims 19 = .ok (.iload_n 1, 1) := by decide +kernel
theorem dX11_claims_20 : decode cX11_claims 20 = .ok (.ifCond .ne 17, 3) := by decide +kernel
theorem dX11_claims_23 : decode cX11_claims 23 = .ok (.aload_n 0, 1) := by decide +kernel
theorem dX11_claims_24 : decode cX11_claims 24 = .ok (.getfield 85, 3) := by decide +kernel
theorem dX11_claims_27 : decode cX11_claims 27 = .ok (.aload_n 0, 1) := by decide +kernel
theorem dX11_claims_28 : decode cX11_claims 28 = .ok (.getfield 55, 3) := by decide +kernel
theorem dX11_claims_31 : decode cX11_claims 31 = .ok (.invokevirtual 416, 3) := by decide +kernel
theorem dX11_claims_34 : decode cX11_claims 34 = .ok (.goto 4, 3) := by decide +kernel
theorem dX11_claims_37 : decode cX11_claims 37 = .ok (.iload_n 1, 1) := by decide +kernel
theorem dX11_claims_38 : decode cX11_claims 38 = .ok (.ireturn, 1) := by decide +kernel
theorem dX11_readClaims_0 : decode cX11_readClaims 0 = .ok (.aload_n 0, 1) := by decide +kernel
theorem dX11_readClaims_1 : decode cX11_readClaims 1 = .ok (.getfield 21, 3) := by decide +kernel
theorem dX11_readClaims_4 : decode cX11_readClaims 4 = .ok (.bipush 80, 2) := by decide +kernel
theorem dX11_readClaims_6 : decode cX11_readClaims 6 = .ok (.invokevirtual 104, 3) := by decide +kernel
theorem dX11_readClaims_9 : decode cX11_readClaims 9 = .ok (.aload_n 0, 1) := by decide +kernel
theorem dX11_readClaims_10 : decode cX11_readClaims 10 = .ok (.getfield 10, 3) := by decide +kernel
theorem dX11_readClaims_13 : decode cX11_readClaims 13 = .ok (.invokevirtual 129, 3) := by decide +kernel
theorem dX11_readClaims_16 : decode cX11_readClaims 16 = .ok (.ifCond .ne 7, 3) := by decide +kernel
theorem dX11_readClaims_19 : decode cX11_readClaims 19 = .ok (.iconst 1, 1) := by decide +kernel
theorem dX11_readClaims_20 : decode cX11_readClaims 20 = .ok (.goto 4, 3) := by decide +kernel
theorem dX11_readClaims_23 : decode cX11_readClaims 23 = .ok (.iconst 0, 1) := by decide +kernel
theorem dX11_readClaims_24 : decode cX11_readClaims 24 = .ok (.istore_n 1, 1) := by decide +kernel
theorem dX11_readClaims_25 : decode cX11_readClaims 25 = .ok (.iconst 0, 1) := by decide +kernel
theorem dX11_readClaims_26 : decode cX11_readClaims 26 = .ok (.istore_n 2, 1) := by decide +kernel
theorem dX11_readClaims_27 : decode cX11_readClaims 27 = .ok (.iload_n 1, 1) := by decide +kernel
theorem dX11_readClaims_28 : decode cX11_readClaims 28 = .ok (.ifCond .eq 63, 3) := by decide +kernel
theorem dX11_readClaims_31 : decode cX11_readClaims 31 = .ok (.iload_n 2, 1) := by decide +kernel
theorem dX11_readClaims_32 : decode cX11_readClaims 32 = .ok (.bipush 8, 2) := by decide +kernel
theorem dX11_readClaims_34 : decode cX11_readClaims 34 = .ok (.if_icmp .ge 57, 3) := by decide +kernel
theorem dX11_readClaims_37 : decode cX11_readClaims 37 = .ok (.aload_n 0, 1) := by decide +kernel
theorem dX11_readClaims_38 : decode cX11_readClaims 38 = .ok (.getfield 21, 3) := by decide +kernel
theorem dX11_readClaims_41 : decode cX11_readClaims 41 = .ok (.invokevirtual 420, 3) := by decide +kernel
theorem dX11_readClaims_44 : decode cX11_readClaims 44 = .ok (.istore_n 3, 1) := by decide +kernel
theorem dX11_readClaims_45 : decode cX11_readClaims 45 = .ok (.aload_n 0, 1) := by decide +kernel
theorem dX11_readClaims_46 : decode cX11_readClaims 46 = .ok (.getfield 21, 3) := by decide +kernel
theorem dX11_readClaims_49 : decode cX11_readClaims 49 = .ok (.iload_n 3, 1) := by decide +kernel
theorem dX11_readClaims_50 : decode cX11_readClaims 50 = .ok (.ifCond .eq 7, 3) := by decide +kernel
theorem dX11_readClaims_53 : decode cX11_readClaims 53 = .ok (.iconst 1, 1) := by decide +kernel
theorem dX11_readClaims_54 : decode cX11_readClaims 54 = .ok (.goto 4, 3) := by decide +kernel
theorem dX11_readClaims_57 : decode cX11_readClaims 57 = .ok (.iconst 0, 1) := by decide +kernel
theorem dX11_readClaims_58 : decode cX11_readClaims 58 = .ok (.invokevirtual 423, 3) := by decide +kernel
theorem dX11_readClaims_61 : decode cX11_readClaims 61 = .ok (.pop, 1) := by decide +kernel
theorem dX11_readClaims_62 : decode cX11_readClaims 62 = .ok (.aload_n 0, 1) := by decide +kernel
theorem dX11_readClaims_63 : decode cX11_readClaims 63 = .ok (.getfield 85, 3) := by decide +kernel
theorem dX11_readClaims_66 : decode cX11_readClaims 66 = .ok (.aload_n 0, 1) := by decide +kernel
theorem dX11_readClaims_67 : decode cX11_readClaims 67 = .ok (.getfield 28, 3) := by decide +kernel
theorem dX11_readClaims_70 : decode cX11_readClaims 70 = .ok (.iload_n 3, 1) := by decide +kernel
theorem dX11_readClaims_71 : decode cX11_readClaims 71 = .ok (.invokevirtual 427, 3) := by decide +kernel
theorem dX11_readClaims_74 : decode cX11_readClaims 74 = .ok (.invokevirtual 430, 3) := by decide +kernel
theorem dX11_readClaims_77 : decode cX11_readClaims 77 = .ok (.aload_n 0, 1) := by decide +kernel
theorem dX11_readClaims_78 : decode cX11_readClaims 78 = .ok (.getfield 21, 3) := by decide +kernel
theorem dX11_readClaims_81 : decode cX11_readClaims 81 = .ok (.invokevirtual 431, 3) := by decide +kernel
theorem dX11_readClaims_84 : decode cX11_readClaims 84 = .ok (.istore_n 1, 1) := by decide +kernel
theorem dX11_readClaims_85 : decode cX11_readClaims 85 = .ok (.iinc 2 1, 3) := by decide +kernel
theorem dX11_readClaims_88 : decode cX11_readClaims 88 = .ok (.goto (-61), 3) := by decide +kernel
theorem dX11_readClaims_91 : decode cX11_readClaims 91 = .ok (.aload_n 0, 1) := by decide +kernel
theorem dX11_readClaims_92 : decode cX11_readClaims 92 = .ok (.getfield 21, 3) := by decide +kernel
theorem dX11_readClaims_95 : decode cX11_readClaims 95 = .ok (.iload_n 1, 1) := by decide +kernel
theorem dX11_readClaims_96 : decode cX11_readClaims 96 = .ok (.ifCond .ne 7, 3) := by decide +kernel
theorem dX11_readClaims_99 : decode cX11_readClaims 99 = .ok (.iconst 1, 1) := by decide +kernel
theorem dX11_readClaims_100 : decode cX11_readClaims 100 = .ok (.goto 4, 3) := by decide +kernel
theorem dX11_readClaims_103 : decode cX11_readClaims 103 = .ok (.iconst 0, 1) := by decide +kernel
theorem dX11_readClaims_104 : decode cX11_readClaims 104 = .ok (.invokevirtual 423, 3) := by decide +kernel
theorem dX11_readClaims_107 : decode cX11_readClaims 107 = .ok (.pop, 1) := by decide +kernel
theorem dX11_readClaims_108 : decode cX11_readClaims 108 = .ok (.aload_n 0, 1) := by decide +kernel
theorem dX11_readClaims_109 : decode cX11_readClaims 109 = .ok (.getfield 21, 3) := by decide +kernel
theorem dX11_readClaims_112 : decode cX11_readClaims 112 = .ok (.iconst 0, 1) := by decide +kernel
theorem dX11_readClaims_113 : decode cX11_readClaims 113 = .ok (.invokevirtual 112, 3) := by decide +kernel
theorem dX11_readClaims_116 : decode cX11_readClaims 116 = .ok (.ireturn, 1) := by decide +kernel
theorem dX11_balls_0 : decode cX11_balls 0 = .ok (.aload_n 0, 1) := by decide +kernel
theorem dX11_balls_1 : decode cX11_balls 1 = .ok (.getfield 28, 3) := by decide +kernel
theorem dX11_balls_4 : decode cX11_balls 4 = .ok (.iload_n 1, 1) := by decide +kernel
theorem dX11_balls_5 : decode cX11_balls 5 = .ok (.invokevirtual 209, 3) := by decide +kernel
theorem dX11_balls_8 : decode cX11_balls 8 = .ok (.ifCond .eq 24, 3) := by decide +kernel
theorem dX11_balls_11 : decode cX11_balls 11 = .ok (.aload_n 0, 1) := by decide +kernel
theorem dX11_balls_12 : decode cX11_balls 12 = .ok (.getfield 28, 3) := by decide +kernel
theorem dX11_balls_15 : decode cX11_balls 15 = .ok (.iload_n 2, 1) := by decide +kernel
theorem dX11_balls_16 : decode cX11_balls 16 = .ok (.invokevirtual 164, 3) := by decide +kernel
theorem dX11_balls_19 : decode cX11_balls 19 = .ok (.ifCond .eq 13, 3) := by decide +kernel
theorem dX11_balls_22 : decode cX11_balls 22 = .ok (.iload_n 3, 1) := by decide +kernel
theorem dX11_balls_23 : decode cX11_balls 23 = .ok (.ifCond .lt 9, 3) := by decide +kernel
theorem dX11_balls_26 : decode cX11_balls 26 = .ok (.iload_n 3, 1) := by decide +kernel
theorem dX11_balls_27 : decode cX11_balls 27 = .ok (.bipush 10, 2) := by decide +kernel
theorem dX11_balls_29 : decode cX11_balls 29 = .ok (.if_icmp .le 5, 3) := by decide +kernel
theorem dX11_balls_32 : decode cX11_balls 32 = .ok (.iconst (-1), 1) := by decide +kernel
theorem dX11_balls_33 : decode cX11_balls 33 = .ok (.ireturn, 1) := by decide +kernel
theorem dX11_balls_34 : decode cX11_balls 34 = .ok (.aload_n 0, 1) := by decide +kernel
theorem dX11_balls_35 : decode cX11_balls 35 = .ok (.getfield 28, 3) := by decide +kernel
theorem dX11_balls_38 : decode cX11_balls 38 = .ok (.aload_n 0, 1) := by decide +kernel
theorem dX11_balls_39 : decode cX11_balls 39 = .ok (.getfield 35, 3) := by decide +kernel
theorem dX11_balls_42 : decode cX11_balls 42 = .ok (.iload_n 1, 1) := by decide +kernel
theorem dX11_balls_43 : decode cX11_balls 43 = .ok (.iload_n 2, 1) := by decide +kernel
theorem dX11_balls_44 : decode cX11_balls 44 = .ok (.invokevirtual 326, 3) := by decide +kernel
theorem dX11_balls_47 : decode cX11_balls 47 = .ok (.ifCond .eq 14, 3) := by decide +kernel
theorem dX11_balls_50 : decode cX11_balls 50 = .ok (.aload_n 0, 1) := by decide +kernel
theorem dX11_balls_51 : decode cX11_balls 51 = .ok (.getfield 55, 3) := by decide +kernel
theorem dX11_balls_54 : decode cX11_balls 54 = .ok (.lconst 1, 1) := by decide +kernel
theorem dX11_balls_55 : decode cX11_balls 55 = .ok (.lconst 1, 1) := by decide +kernel
theorem dX11_balls_56 : decode cX11_balls 56 = .ok (.invokevirtual 298, 3) := by decide +kernel
theorem dX11_balls_59 : decode cX11_balls 59 = .ok (.iconst 0, 1) := by decide +kernel
theorem dX11_balls_60 : decode cX11_balls 60 = .ok (.ireturn, 1) := by decide +kernel
theorem dX11_balls_61 : decode cX11_balls 61 = .ok (.aload_n 0, 1) := by decide +kernel
theorem dX11_balls_62 : decode cX11_balls 62 = .ok (.getfield 28, 3) := by decide +kernel
theorem dX11_balls_65 : decode cX11_balls 65 = .ok (.aload_n 0, 1) := by decide +kernel
theorem dX11_balls_66 : decode cX11_balls 66 = .ok (.getfield 35, 3) := by decide +kernel
theorem dX11_balls_69 : decode cX11_balls 69 = .ok (.iload_n 1, 1) := by decide +kernel
theorem dX11_balls_70 : decode cX11_balls 70 = .ok (.invokevirtual 224, 3) := by decide +kernel
theorem dX11_balls_73 : decode cX11_balls 73 = .ok (.iload_n 2, 1) := by decide +kernel
theorem dX11_balls_74 : decode cX11_balls 74 = .ok (.invokestatic 363, 3) := by decide +kernel
theorem dX11_balls_77 : decode cX11_balls 77 = .ok (.istore 4, 2) := by decide +kernel
theorem dX11_balls_79 : decode cX11_balls 79 = .ok (.iload 4, 2) := by decide +kernel
theorem dX11_balls_81 : decode cX11_balls 81 = .ok (.ifCond .eq 21, 3) := by decide +kernel
theorem dX11_balls_84 : decode cX11_balls 84 = .ok (.aload_n 0, 1) := by decide +kernel
theorem dX11_balls_85 : decode cX11_balls 85 = .ok (.getfield 28, 3) := by decide +kernel
theorem dX11_balls_88 : decode cX11_balls 88 = .ok (.aload_n 0, 1) := by decide +kernel
theorem dX11_balls_89 : decode cX11_balls 89 = .ok (.getfield 35, 3) := by decide +kernel
theorem dX11_balls_92 : decode cX11_balls 92 = .ok (.iload_n 1, 1) := by decide +kernel
theorem dX11_balls_93 : decode cX11_balls 93 = .ok (.invokevirtual 218, 3) := by decide +kernel
theorem dX11_balls_96 : decode cX11_balls 96 = .ok (.invokestatic 254, 3) := by decide +kernel
theorem dX11_balls_99 : decode cX11_balls 99 = .ok (.goto 4, 3) := by decide +kernel
theorem dX11_balls_102 : decode cX11_balls 102 = .ok (.iconst 0, 1) := by decide +kernel
theorem dX11_balls_103 : decode cX11_balls 103 = .ok (.istore 5, 2) := by decide +kernel
theorem dX11_balls_105 : decode cX11_balls 105 = .ok (.lconst 1, 1) := by decide +kernel
theorem dX11_balls_106 : decode cX11_balls 106 = .ok (.lstore 6, 2) := by decide +kernel
theorem dX11_balls_108 : decode cX11_balls 108 = .ok (.lconst 1, 1) := by decide +kernel
theorem dX11_balls_109 : decode cX11_balls 109 = .ok (.lstore 8, 2) := by decide +kernel
theorem dX11_balls_111 : decode cX11_balls 111 = .ok (.iconst 0, 1) := by decide +kernel
theorem dX11_balls_112 : decode cX11_balls 112 = .ok (.istore 10, 2) := by decide +kernel
theorem dX11_balls_114 : decode cX11_balls 114 = .ok (.iload 10, 2) := by decide +kernel
theorem dX11_balls_116 : decode cX11_balls 116 = .ok (.iload 5, 2) := by decide +kernel
theorem dX11_balls_118 : decode cX11_balls 118 = .ok (.if_icmp .ge 27, 3) := by decide +kernel
theorem dX11_balls_121 : decode cX11_balls 121 = .ok (.lload 6, 2) := by decide +kernel
theorem dX11_balls_123 : decode cX11_balls 123 = .ok (.ldc2_w 434, 3) := by decide +kernel
theorem dX11_balls_126 : decode cX11_balls 126 = .ok (.lmul, 1) := by decide +kernel
theorem dX11_balls_127 : decode cX11_balls 127 = .ok (.lstore 6, 2) := by decide +kernel
theorem dX11_balls_129 : decode cX11_balls 129 = .ok (.lload 8, 2) := by decide +kernel
theorem dX11_balls_131 : decode cX11_balls 131 = .ok (.bipush 10, 2) := by decide +kernel
theorem dX11_balls_133 : decode cX11_balls 133 = .ok (.iload_n 3, 1) := by decide +kernel
theorem dX11_balls_134 : decode cX11_balls 134 = .ok (.isub, 1) := by decide +kernel
theorem dX11_balls_135 : decode cX11_balls 135 = .ok (.i2l, 1) := by decide +kernel
theorem dX11_balls_136 : decode cX11_balls 136 = .ok (.lmul, 1) := by decide +kernel
theorem dX11_balls_137 : decode cX11_balls 137 = .ok (.lstore 8, 2) := by decide +kernel
theorem dX11_balls_139 : decode cX11_balls 139 = .ok (.iinc 10 1, 3) := by decide +kernel
theorem dX11_balls_142 : decode cX11_balls 142 = .ok (.goto (-28), 3) := by decide +kernel
theorem dX11_balls_145 : decode cX11_balls 145 = .ok (.aload_n 0, 1) := by decide +kernel
theorem dX11_balls_146 : decode cX11_balls 146 = .ok (.lload 6, 2) := by decide +kernel
theorem dX11_balls_148 : decode cX11_balls 148 = .ok (.lload 8, 2) := by decide +kernel
theorem dX11_balls_150 : decode cX11_balls 150 = .ok (.lsub, 1) := by decide +kernel
theorem dX11_balls_151 : decode cX11_balls 151 = .ok (.lload 6, 2) := by decide +kernel
theorem dX11_balls_153 : decode cX11_balls 153 = .ok (.invokevirtual 436, 3) := by decide +kernel
theorem dX11_balls_156 : decode cX11_balls 156 = .ok (.iconst 0, 1) := by decide +kernel
theorem dX11_balls_157 : decode cX11_balls 157 = .ok (.ireturn, 1) := by decide +kernel
theorem dX11_tellFraction_0 : decode cX11_tellFraction 0 = .ok (.lload_n 1, 1) := by decide +kernel
theorem dX11_tellFraction_1 : decode cX11_tellFraction 1 = .ok (.lload_n 3, 1) := by decide +kernel
theorem dX11_tellFraction_2 : decode cX11_tellFraction 2 = .ok (.invokestatic 439, 3) := by decide +kernel
theorem dX11_tellFraction_5 : decode cX11_tellFraction 5 = .ok (.lstore 5, 2) := by decide +kernel
theorem dX11_tellFraction_7 : decode cX11_tellFraction 7 = .ok (.lload 5, 2) := by decide +kernel
theorem dX11_tellFraction_9 : decode cX11_tellFraction 9 = .ok (.lconst 0, 1) := by decide +kernel
theorem dX11_tellFraction_10 : decode cX11_tellFraction 10 = .ok (.lcmp, 1) := by decide +kernel
theorem dX11_tellFraction_11 : decode cX11_tellFraction 11 = .ok (.ifCond .le 18, 3) := by decide +kernel
theorem dX11_tellFraction_14 : decode cX11_tellFraction 14 = .ok (.aload_n 0, 1) := by decide +kernel
theorem dX11_tellFraction_15 : decode cX11_tellFraction 15 = .ok (.getfield 55, 3) := by decide +kernel
theorem dX11_tellFraction_18 : decode cX11_tellFraction 18 = .ok (.lload_n 1, 1) := by decide +kernel
theorem dX11_tellFraction_19 : decode cX11_tellFraction 19 = .ok (.lload 5, 2) := by decide +kernel
theorem dX11_tellFraction_21 : decode cX11_tellFraction 21 = .ok (.ldiv, 1) := by decide +kernel
theorem dX11_tellFraction_22 : decode cX11_tellFraction 22 = .ok (.lload_n 3, 1) := by decide +kernel
theorem dX11_tellFraction_23 : decode cX11_tellFraction 23 = .ok (.lload 5, 2) := by decide +kernel
theorem dX11_tellFraction_25 : decode cX11_tellFraction 25 = .ok (.ldiv, 1) := by decide +kernel
theorem dX11_tellFraction_26 : decode cX11_tellFraction 26 = .ok (.invokevirtual 298, 3) := by decide +kernel
theorem dX11_tellFraction_29 : decode cX11_tellFraction 29 = .ok (.return_, 1) := by decide +kernel
theorem dX11_commonDivisor_0 : decode cX11_commonDivisor 0 = .ok (.lload_n 0, 1) := by decide +kernel
theorem dX11_commonDivisor_1 : decode cX11_commonDivisor 1 = .ok (.lstore 4, 2) := by decide +kernel
theorem dX11_commonDivisor_3 : decode cX11_commonDivisor 3 = .ok (.lload_n 2, 1) := by decide +kernel
theorem dX11_commonDivisor_4 : decode cX11_commonDivisor 4 = .ok (.lstore 6, 2) := by decide +kernel
theorem dX11_commonDivisor_6 : decode cX11_commonDivisor 6 = .ok (.iconst 0, 1) := by decide +kernel
theorem dX11_commonDivisor_7 : decode cX11_commonDivisor 7 = .ok (.istore 8, 2) := by decide +kernel
theorem dX11_commonDivisor_9 : decode cX11_commonDivisor 9 = .ok (.iload 8, 2) := by decide +kernel
theorem dX11_commonDivisor_11 : decode cX11_commonDivisor 11 = .ok (.bipush 100, 2) := by decide +kernel
theorem dX11_commonDivisor_13 : decode cX11_commonDivisor 13 = .ok (.if_icmp .ge 31, 3) := by decide +kernel
theorem dX11_commonDivisor_16 : decode cX11_commonDivisor 16 = .ok (.lload 6, 2) := by decide +kernel
theorem dX11_commonDivisor_18 : decode cX11_commonDivisor 18 = .ok (.lconst 0, 1) := by decide +kernel
theorem dX11_commonDivisor_19 : decode cX11_commonDivisor 19 = .ok (.lcmp, 1) := by decide +kernel
theorem dX11_commonDivisor_20 : decode cX11_commonDivisor 20 = .ok (.ifCond .eq 24, 3) := by decide +kernel
theorem dX11_commonDivisor_23 : decode cX11_commonDivisor 23 = .ok (.lload 4, 2) := by decide +kernel
theorem dX11_commonDivisor_25 : decode cX11_commonDivisor 25 = .ok (.lload 6, 2) := by decide +kernel
theorem dX11_commonDivisor_27 : decode cX11_commonDivisor 27 = .ok (.lrem, 1) := by decide +kernel
theorem dX11_commonDivisor_28 : decode cX11_commonDivisor 28 = .ok (.lstore 9, 2) := by decide +kernel
theorem dX11_commonDivisor_30 : decode cX11_commonDivisor 30 = .ok (.lload 6, 2) := by decide +kernel
theorem dX11_commonDivisor_32 : decode cX11_commonDivisor 32 = .ok (.lstore 4, 2) := by decide +kernel
theorem dX11_commonDivisor_34 : decode cX11_commonDivisor 34 = .ok (.lload 9, 2) := by decide +kernel
theorem dX11_commonDivisor_36 : decode cX11_commonDivisor 36 = .ok (.lstore 6, 2) := by decide +kernel
theorem dX11_commonDivisor_38 : decode cX11_commonDivisor 38 = .ok (.iinc 8 1, 3) := by decide +kernel
theorem dX11_commonDivisor_41 : decode cX11_commonDivisor 41 = .ok (.goto (-32), 3) := by decide +kernel
theorem dX11_commonDivisor_44 : decode cX11_commonDivisor 44 = .ok (.lload 4, 2) := by decide +kernel
theorem dX11_commonDivisor_46 : decode cX11_commonDivisor 46 = .ok (.lreturn, 1) := by decide +kernel
theorem dX11_law_0 : decode cX11_law 0 = .ok (.aload_n 0, 1) := by decide +kernel
theorem dX11_law_1 : decode cX11_law 1 = .ok (.invokevirtual 147, 3) := by decide +kernel
theorem dX11_law_4 : decode cX11_law 4 = .ok (.istore_n 1, 1) := by decide +kernel
theorem dX11_law_5 : decode cX11_law 5 = .ok (.iload_n 1, 1) := by decide +kernel
theorem dX11_law_6 : decode cX11_law 6 = .ok (.iconst (-1), 1) := by decide +kernel
theorem dX11_law_7 : decode cX11_law 7 = .ok (.if_icmp .eq 9, 3) := by decide +kernel
theorem dX11_law_10 : decode cX11_law 10 = .ok (.sipush (-10000), 3) := by decide +kernel
theorem dX11_law_13 : decode cX11_law 13 = .ok (.iload_n 1, 1) := by decide +kernel
theorem dX11_law_14 : decode cX11_law 14 = .ok (.isub, 1) := by decide +kernel
theorem dX11_law_15 : decode cX11_law 15 = .ok (.ireturn, 1) := by decide +kernel
theorem dX11_law_16 : decode cX11_law 16 = .ok (.aload_n 0, 1) := by decide +kernel
theorem dX11_law_17 : decode cX11_law 17 = .ok (.getfield 28, 3) := by decide +kernel
theorem dX11_law_20 : decode cX11_law 20 = .ok (.aload_n 0, 1) := by decide +kernel
theorem dX11_law_21 : decode cX11_law 21 = .ok (.getfield 35, 3) := by decide +kernel
theorem dX11_law_24 : decode cX11_law 24 = .ok (.invokevirtual 443, 3) := by decide +kernel
theorem dX11_law_27 : decode cX11_law 27 = .ok (.istore_n 2, 1) := by decide +kernel
theorem dX11_law_28 : decode cX11_law 28 = .ok (.aload_n 0, 1) := by decide +kernel
theorem dX11_law_29 : decode cX11_law 29 = .ok (.invokevirtual 150, 3) := by decide +kernel
theorem dX11_law_32 : decode cX11_law 32 = .ok (.aload_n 0, 1) := by decide +kernel
theorem dX11_law_33 : decode cX11_law 33 = .ok (.getfield 28, 3) := by decide +kernel
theorem dX11_law_36 : decode cX11_law 36 = .ok (.aload_n 0, 1) := by decide +kernel
theorem dX11_law_37 : decode cX11_law 37 = .ok (.getfield 35, 3) := by decide +kernel
theorem dX11_law_40 : decode cX11_law 40 = .ok (.invokevirtual 443, 3) := by decide +kernel
theorem dX11_law_43 : decode cX11_law 43 = .ok (.istore_n 3, 1) := by decide +kernel
theorem dX11_law_44 : decode cX11_law 44 = .ok (.aload_n 0, 1) := by decide +kernel
theorem dX11_law_45 : decode cX11_law 45 = .ok (.invokevirtual 150, 3) := by decide +kernel
theorem dX11_law_48 : decode cX11_law 48 = .ok (.aload_n 0, 1) := by decide +kernel
theorem dX11_law_49 : decode cX11_law 49 = .ok (.getfield 55, 3) := by decide +kernel
theorem dX11_law_52 : decode cX11_law 52 = .ok (.iload_n 3, 1) := by decide +kernel
theorem dX11_law_53 : decode cX11_law 53 = .ok (.i2l, 1) := by decide +kernel
theorem dX11_law_54 : decode cX11_law 54 = .ok (.iload_n 2, 1) := by decide +kernel
theorem dX11_law_55 : decode cX11_law 55 = .ok (.i2l, 1) := by decide +kernel
theorem dX11_law_56 : decode cX11_law 56 = .ok (.invokevirtual 298, 3) := by decide +kernel
theorem dX11_law_59 : decode cX11_law 59 = .ok (.iload_n 3, 1) := by decide +kernel
theorem dX11_law_60 : decode cX11_law 60 = .ok (.iload_n 2, 1) := by decide +kernel
theorem dX11_law_61 : decode cX11_law 61 = .ok (.isub, 1) := by decide +kernel
theorem dX11_law_62 : decode cX11_law 62 = .ok (.ireturn, 1) := by decide +kernel
theorem dX11_rests_0 : decode cX11_rests 0 = .ok (.iload_n 1, 1) := by decide +kernel
theorem dX11_rests_1 : decode cX11_rests 1 = .ok (.ifCond .lt 9, 3) := by decide +kernel
theorem dX11_rests_4 : decode cX11_rests 4 = .ok (.iload_n 1, 1) := by decide +kernel
theorem dX11_rests_5 : decode cX11_rests 5 = .ok (.bipush 10, 2) := by decide +kernel
theorem dX11_rests_7 : decode cX11_rests 7 = .ok (.if_icmp .lt 5, 3) := by decide +kernel
theorem dX11_rests_10 : decode cX11_rests 10 = .ok (.iconst (-1), 1) := by decide +kernel
theorem dX11_rests_11 : decode cX11_rests 11 = .ok (.ireturn, 1) := by decide +kernel
theorem dX11_rests_12 : decode cX11_rests 12 = .ok (.aload_n 0, 1) := by decide +kernel
theorem dX11_rests_13 : decode cX11_rests 13 = .ok (.getfield 55, 3) := by decide +kernel
theorem dX11_rests_16 : decode cX11_rests 16 = .ok (.invokevirtual 266, 3) := by decide +kernel
theorem dX11_rests_19 : decode cX11_rests 19 = .ok (.iconst 0, 1) := by decide +kernel
theorem dX11_rests_20 : decode cX11_rests 20 = .ok (.istore_n 2, 1) := by decide +kernel
theorem dX11_rests_21 : decode cX11_rests 21 = .ok (.iconst 0, 1) := by decide +kernel
theorem dX11_rests_22 : decode cX11_rests 22 = .ok (.istore_n 3, 1) := by decide +kernel
theorem dX11_rests_23 : decode cX11_rests 23 = .ok (.iload_n 3, 1) := by decide +kernel
theorem dX11_rests_24 : decode cX11_rests 24 = .ok (.bipush 10, 2) := by decide +kernel
theorem dX11_rests_26 : decode cX11_rests 26 = .ok (.if_icmp .ge 64, 3) := by decide +kernel
theorem dX11_rests_29 : decode cX11_rests 29 = .ok (.iconst 0, 1) := by decide +kernel
theorem dX11_rests_30 : decode cX11_rests 30 = .ok (.istore 4, 2) := by decide +kernel
theorem dX11_rests_32 : decode cX11_rests 32 = .ok (.iload 4, 2) := by decide +kernel
theorem dX11_rests_34 : decode cX11_rests 34 = .ok (.bipush 10, 2) := by decide +kernel
theorem dX11_rests_36 : decode cX11_rests 36 = .ok (.if_icmp .ge 48, 3) := by decide +kernel
theorem dX11_rests_39 : decode cX11_rests 39 = .ok (.iload_n 1, 1) := by decide +kernel
theorem dX11_rests_40 : decode cX11_rests 40 = .ok (.iload_n 3, 1) := by decide +kernel
theorem dX11_rests_41 : decode cX11_rests 41 = .ok (.iload 4, 2) := by decide +kernel
theorem dX11_rests_43 : decode cX11_rests 43 = .ok (.invokestatic 446, 3) := by decide +kernel
theorem dX11_rests_46 : decode cX11_rests 46 = .ok (.ifCond .eq 32, 3) := by decide +kernel
theorem dX11_rests_49 : decode cX11_rests 49 = .ok (.iload_n 1, 1) := by decide +kernel
theorem dX11_rests_50 : decode cX11_rests 50 = .ok (.iload 4, 2) := by decide +kernel
theorem dX11_rests_52 : decode cX11_rests 52 = .ok (.iload_n 3, 1) := by decide +kernel
theorem dX11_rests_53 : decode cX11_rests 53 = .ok (.invokestatic 446, 3) := by decide +kernel
theorem dX11_rests_56 : decode cX11_rests 56 = .ok (.ifCond .eq 22, 3) := by decide +kernel
theorem dX11_rests_59 : decode cX11_rests 59 = .ok (.iload_n 2, 1) := by decide +kernel
theorem dX11_rests_60 : decode cX11_rests 60 = .ok (.ifCond .ne 15, 3) := by decide +kernel
theorem dX11_rests_63 : decode cX11_rests 63 = .ok (.aload_n 0, 1) := by decide +kernel
theorem dX11_rests_64 : decode cX11_rests 64 = .ok (.getfield 55, 3) := by decide +kernel
theorem dX11_rests_67 : decode cX11_rests 67 = .ok (.iload_n 3, 1) := by decide +kernel
theorem dX11_rests_68 : decode cX11_rests 68 = .ok (.i2l, 1) := by decide +kernel
theorem dX11_rests_69 : decode cX11_rests 69 = .ok (.iload 4, 2) := by decide +kernel
theorem dX11_rests_71 : decode cX11_rests 71 = .ok (.i2l, 1) := by decide +kernel
theorem dX11_rests_72 : decode cX11_rests 72 = .ok (.invokevirtual 298, 3) := by decide +kernel
theorem dX11_rests_75 : decode cX11_rests 75 = .ok (.iinc 2 1, 3) := by decide +kernel
theorem dX11_rests_78 : decode cX11_rests 78 = .ok (.iinc 4 1, 3) := by decide +kernel
theorem dX11_rests_81 : decode cX11_rests 81 = .ok (.goto (-49), 3) := by decide +kernel
theorem dX11_rests_84 : decode cX11_rests 84 = .ok (.iinc 3 1, 3) := by decide +kernel
theorem dX11_rests_87 : decode cX11_rests 87 = .ok (.goto (-64), 3) := by decide +kernel
theorem dX11_rests_90 : decode cX11_rests 90 = .ok (.iload_n 2, 1) := by decide +kernel
theorem dX11_rests_91 : decode cX11_rests 91 = .ok (.ireturn, 1) := by decide +kernel
theorem dX11_isContent_0 : decode cX11_isContent 0 = .ok (.iload_n 0, 1) := by decide +kernel
theorem dX11_isContent_1 : decode cX11_isContent 1 = .ok (.iload_n 1, 1) := by decide +kernel
theorem dX11_isContent_2 : decode cX11_isContent 2 = .ok (.iload_n 2, 1) := by decide +kernel
theorem dX11_isContent_3 : decode cX11_isContent 3 = .ok (.invokestatic 450, 3) := by decide +kernel
theorem dX11_isContent_6 : decode cX11_isContent 6 = .ok (.istore_n 3, 1) := by decide +kernel
theorem dX11_isContent_7 : decode cX11_isContent 7 = .ok (.iconst 0, 1) := by decide +kernel
theorem dX11_isContent_8 : decode cX11_isContent 8 = .ok (.istore 4, 2) := by decide +kernel
theorem dX11_isContent_10 : decode cX11_isContent 10 = .ok (.iload 4, 2) := by decide +kernel
theorem dX11_isContent_12 : decode cX11_isContent 12 = .ok (.bipush 10, 2) := by decide +kernel
theorem dX11_isContent_14 : decode cX11_isContent 14 = .ok (.if_icmp .ge 22, 3) := by decide +kernel
theorem dX11_isContent_17 : decode cX11_isContent 17 = .ok (.iload_n 0, 1) := by decide +kernel
theorem dX11_isContent_18 : decode cX11_isContent 18 = .ok (.iload 4, 2) := by decide +kernel
theorem dX11_isContent_20 : decode cX11_isContent 20 = .ok (.iload_n 2, 1) := by decide +kernel
theorem dX11_isContent_21 : decode cX11_isContent 21 = .ok (.invokestatic 450, 3) := by decide +kernel
theorem dX11_isContent_24 : decode cX11_isContent 24 = .ok (.iload_n 3, 1) := by decide +kernel
theorem dX11_isContent_25 : decode cX11_isContent 25 = .ok (.if_icmp .le 5, 3) := by decide +kernel
theorem dX11_isContent_28 : decode cX11_isContent 28 = .ok (.iconst 0, 1) := by decide +kernel
theorem dX11_isContent_29 : decode cX11_isContent 29 = .ok (.ireturn, 1) := by decide +kernel
theorem dX11_isContent_30 : decode cX11_isContent 30 = .ok (.iinc 4 1, 3) := by decide +kernel
theorem dX11_isContent_33 : decode cX11_isContent 33 = .ok (.goto (-23), 3) := by decide +kernel
theorem dX11_isContent_36 : decode cX11_isContent 36 = .ok (.iconst 1, 1) := by decide +kernel
theorem dX11_isContent_37 : decode cX11_isContent 37 = .ok (.ireturn, 1) := by decide +kernel
theorem dX11_gain_0 : decode cX11_gain 0 = .ok (.iload_n 0, 1) := by decide +kernel
theorem dX11_gain_1 : decode cX11_gain 1 = .ok (.iload_n 1, 1) := by decide +kernel
theorem dX11_gain_2 : decode cX11_gain 2 = .ok (.imul, 1) := by decide +kernel
theorem dX11_gain_3 : decode cX11_gain 3 = .ok (.iload_n 1, 1) := by decide +kernel
theorem dX11_gain_4 : decode cX11_gain 4 = .ok (.iload_n 2, 1) := by decide +kernel
theorem dX11_gain_5 : decode cX11_gain 5 = .ok (.imul, 1) := by decide +kernel
theorem dX11_gain_6 : decode cX11_gain 6 = .ok (.iconst 3, 1) := by decide +kernel
theorem dX11_gain_7 : decode cX11_gain 7 = .ok (.idiv, 1) := by decide +kernel
theorem dX11_gain_8 : decode cX11_gain 8 = .ok (.isub, 1) := by decide +kernel
theorem dX11_gain_9 : decode cX11_gain 9 = .ok (.ireturn, 1) := by decide +kernel
theorem dX11_years_0 : decode cX11_years 0 = .ok (.iload_n 2, 1) := by decide +kernel
theorem dX11_years_1 : decode cX11_years 1 = .ok (.iconst 1, 1) := by decide +kernel
theorem dX11_years_2 : decode cX11_years 2 = .ok (.if_icmp .lt 9, 3) := by decide +kernel
theorem dX11_years_5 : decode cX11_years 5 = .ok (.iload_n 2, 1) := by decide +kernel
theorem dX11_years_6 : decode cX11_years 6 = .ok (.bipush 60, 2) := by decide +kernel
theorem dX11_years_8 : decode cX11_years 8 = .ok (.if_icmp .le 5, 3) := by decide +kernel
theorem dX11_years_11 : decode cX11_years 11 = .ok (.iconst (-1), 1) := by decide +kernel
theorem dX11_years_12 : decode cX11_years 12 = .ok (.ireturn, 1) := by decide +kernel
theorem dX11_years_13 : decode cX11_years 13 = .ok (.aload_n 0, 1) := by decide +kernel
theorem dX11_years_14 : decode cX11_years 14 = .ok (.iload_n 1, 1) := by decide +kernel
theorem dX11_years_15 : decode cX11_years 15 = .ok (.putfield 453, 3) := by decide +kernel
theorem dX11_years_18 : decode cX11_years 18 = .ok (.aload_n 0, 1) := by decide +kernel
theorem dX11_years_19 : decode cX11_years 19 = .ok (.getfield 42, 3) := by decide +kernel
theorem dX11_years_22 : decode cX11_years 22 = .ok (.aload_n 0, 1) := by decide +kernel
theorem dX11_years_23 : decode cX11_years 23 = .ok (.getfield 35, 3) := by decide +kernel
theorem dX11_years_26 : decode cX11_years 26 = .ok (.invokevirtual 231, 3) := by decide +kernel
theorem dX11_years_29 : decode cX11_years 29 = .ok (.iconst 0, 1) := by decide +kernel
theorem dX11_years_30 : decode cX11_years 30 = .ok (.istore_n 3, 1) := by decide +kernel
theorem dX11_years_31 : decode cX11_years 31 = .ok (.iconst 0, 1) := by decide +kernel
theorem dX11_years_32 : decode cX11_years 32 = .ok (.istore 4, 2) := by decide +kernel
theorem dX11_years_34 : decode cX11_years 34 = .ok (.iload 4, 2) := by decide +kernel
theorem dX11_years_36 : decode cX11_years 36 = .ok (.iload_n 2, 1) := by decide +kernel
theorem dX11_years_37 : decode cX11_years 37 = .ok (.if_icmp .ge 53, 3) := by decide +kernel
theorem dX11_years_40 : decode cX11_years 40 = .ok (.aload_n 0, 1) := by decide +kernel
theorem dX11_years_41 : decode cX11_years 41 = .ok (.invokevirtual 456, 3) := by decide +kernel
theorem dX11_years_44 : decode cX11_years 44 = .ok (.iconst 0, 1) := by decide +kernel
theorem dX11_years_45 : decode cX11_years 45 = .ok (.istore 5, 2) := by decide +kernel
theorem dX11_years_47 : decode cX11_years 47 = .ok (.iload 5, 2) := by decide +kernel
theorem dX11_years_49 : decode cX11_years 49 = .ok (.aload_n 0, 1) := by decide +kernel
theorem dX11_years_50 : decode cX11_years 50 = .ok (.getfield 28, 3) := by decide +kernel
theorem dX11_years_53 : decode cX11_years 53 = .ok (.getfield 267, 3) := by decide +kernel
theorem dX11_years_56 : decode cX11_years 56 = .ok (.if_icmp .ge 28, 3) := by decide +kernel
theorem dX11_years_59 : decode cX11_years 59 = .ok (.iload_n 3, 1) := by decide +kernel
theorem dX11_years_60 : decode cX11_years 60 = .ok (.aload_n 0, 1) := by decide +kernel
theorem dX11_years_61 : decode cX11_years 61 = .ok (.getfield 28, 3) := by decide +kernel
theorem dX11_years_64 : decode cX11_years 64 = .ok (.aload_n 0, 1) := by decide +kernel
theorem dX11_years_65 : decode cX11_years 65 = .ok (.getfield 42, 3) := by decide +kernel
theorem dX11_years_68 : decode cX11_years 68 = .ok (.iload 5, 2) := by decide +kernel
theorem dX11_years_70 : decode cX11_years 70 = .ok (.invokevirtual 221, 3) := by decide +kernel
theorem dX11_years_73 : decode cX11_years 73 = .ok (.invokestatic 254, 3) := by decide +kernel
theorem dX11_years_76 : decode cX11_years 76 = .ok (.iadd, 1) := by decide +kernel
theorem dX11_years_77 : decode cX11_years 77 = .ok (.istore_n 3, 1) := by decide +kernel
theorem dX11_years_78 : decode cX11_years 78 = .ok (.iinc 5 1, 3) := by decide +kernel
theorem dX11_years_81 : decode cX11_years 81 = .ok (.goto (-34), 3) := by decide +kernel
theorem dX11_years_84 : decode cX11_years 84 = .ok (.iinc 4 1, 3) := by decide +kernel
theorem dX11_years_87 : decode cX11_years 87 = .ok (.goto (-53), 3) := by decide +kernel
theorem dX11_years_90 : decode cX11_years 90 = .ok (.aload_n 0, 1) := by decide +kernel
theorem dX11_years_91 : decode cX11_years 91 = .ok (.getfield 55, 3) := by decide +kernel
theorem dX11_years_94 : decode cX11_years 94 = .ok (.aload_n 0, 1) := by decide +kernel
theorem dX11_years_95 : decode cX11_years 95 = .ok (.getfield 42, 3) := by decide +kernel
theorem dX11_years_98 : decode cX11_years 98 = .ok (.getfield 280, 3) := by decide +kernel
theorem dX11_years_101 : decode cX11_years 101 = .ok (.i2l, 1) := by decide +kernel
theorem dX11_years_102 : decode cX11_years 102 = .ok (.aload_n 0, 1) := by decide +kernel
theorem dX11_years_103 : decode cX11_years 103 = .ok (.getfield 42, 3) := by decide +kernel
theorem dX11_years_106 : decode cX11_years 106 = .ok (.getfield 259, 3) := by decide +kernel
theorem dX11_years_109 : decode cX11_years 109 = .ok (.invokestatic 254, 3) := by decide +kernel
theorem dX11_years_112 : decode cX11_years 112 = .ok (.i2l, 1) := by decide +kernel
theorem dX11_years_113 : decode cX11_years 113 = .ok (.invokevirtual 298, 3) := by decide +kernel
theorem dX11_years_116 : decode cX11_years 116 = .ok (.iload_n 3, 1) := by decide +kernel
theorem dX11_years_117 : decode cX11_years 117 = .ok (.ireturn, 1) := by decide +kernel
theorem dX11_liveYear_0 : decode cX11_liveYear 0 = .ok (.aload_n 0, 1) := by decide +kernel
theorem dX11_liveYear_1 : decode cX11_liveYear 1 = .ok (.iconst 4, 1) := by decide +kernel
theorem dX11_liveYear_2 : decode cX11_liveYear 2 = .ok (.invokevirtual 459, 3) := by decide +kernel
theorem dX11_liveYear_5 : decode cX11_liveYear 5 = .ok (.istore_n 1, 1) := by decide +kernel
theorem dX11_liveYear_6 : decode cX11_liveYear 6 = .ok (.iload_n 1, 1) := by decide +kernel
theorem dX11_liveYear_7 : decode cX11_liveYear 7 = .ok (.iconst 2, 1) := by decide +kernel
theorem dX11_liveYear_8 : decode cX11_liveYear 8 = .ok (.if_icmp .ge 17, 3) := by decide +kernel
theorem dX11_liveYear_11 : decode cX11_liveYear 11 = .ok (.aload_n 0, 1) := by decide +kernel
theorem dX11_liveYear_12 : decode cX11_liveYear 12 = .ok (.getfield 28, 3) := by decide +kernel
theorem dX11_liveYear_15 : decode cX11_liveYear 15 = .ok (.aload_n 0, 1) := by decide +kernel
theorem dX11_liveYear_16 : decode cX11_liveYear 16 = .ok (.getfield 42, 3) := by decide +kernel
theorem dX11_liveYear_19 : decode cX11_liveYear 19 = .ok (.invokevirtual 273, 3) := by decide +kernel
theorem dX11_liveYear_22 : decode cX11_liveYear 22 = .ok (.goto 103, 3) := by decide +kernel
theorem dX11_liveYear_25 : decode cX11_liveYear 25 = .ok (.iload_n 1, 1) := by decide +kernel
theorem dX11_liveYear_26 : decode cX11_liveYear 26 = .ok (.iconst 2, 1) := by decide +kernel
theorem dX11_liveYear_27 : decode cX11_liveYear 27 = .ok (.if_icmp .ne 58, 3) := by decide +kernel
theorem dX11_liveYear_30 : decode cX11_liveYear 30 = .ok (.aload_n 0, 1) := by decide +kernel
theorem dX11_liveYear_31 : decode cX11_liveYear 31 = .ok (.getfield 28, 3) := by decide +kernel
theorem dX11_liveYear_34 : decode cX11_liveYear 34 = .ok (.getfield 357, 3) := by decide +kernel
theorem dX11_liveYear_37 : decode cX11_liveYear 37 = .ok (.ifCond .le 48, 3) := by decide +kernel
theorem dX11_liveYear_40 : decode cX11_liveYear 40 = .ok (.aload_n 0, 1) := by decide +kernel
theorem dX11_liveYear_41 : decode cX11_liveYear 41 = .ok (.getfield 28, 3) := by decide +kernel
theorem dX11_liveYear_44 : decode cX11_liveYear 44 = .ok (.getfield 267, 3) := by decide +kernel
theorem dX11_liveYear_47 : decode cX11_liveYear 47 = .ok (.ifCond .le 38, 3) := by decide +kernel
theorem dX11_liveYear_50 : decode cX11_liveYear 50 = .ok (.aload_n 0, 1) := by decide +kernel
theorem dX11_liveYear_51 : decode cX11_liveYear 51 = .ok (.aload_n 0, 1) := by decide +kernel
theorem dX11_liveYear_52 : decode cX11_liveYear 52 = .ok (.getfield 28, 3) := by decide +kernel
theorem dX11_liveYear_55 : decode cX11_liveYear 55 = .ok (.getfield 357, 3) := by decide +kernel
theorem dX11_liveYear_58 : decode cX11_liveYear 58 = .ok (.invokevirtual 459, 3) := by decide +kernel
theorem dX11_liveYear_61 : decode cX11_liveYear 61 = .ok (.istore_n 2, 1) := by decide +kernel
theorem dX11_liveYear_62 : decode cX11_liveYear 62 = .ok (.aload_n 0, 1) := by decide +kernel
theorem dX11_liveYear_63 : decode cX11_liveYear 63 = .ok (.getfield 42, 3) := by decide +kernel
theorem dX11_liveYear_66 : decode cX11_liveYear 66 = .ok (.getfield 196, 3) := by decide +kernel
theorem dX11_liveYear_69 : decode cX11_liveYear 69 = .ok (.iload_n 2, 1) := by decide +kernel
theorem dX11_liveYear_70 : decode cX11_liveYear 70 = .ok (.aload_n 0, 1) := by decide +kernel
theorem dX11_liveYear_71 : decode cX11_liveYear 71 = .ok (.aload_n 0, 1) := by decide +kernel
theorem dX11_liveYear_72 : decode cX11_liveYear 72 = .ok (.getfield 28, 3) := by decide +kernel
theorem dX11_liveYear_75 : decode cX11_liveYear 75 = .ok (.getfield 267, 3) := by decide +kernel
theorem dX11_liveYear_78 : decode cX11_liveYear 78 = .ok (.invokevirtual 459, 3) := by decide +kernel
theorem dX11_liveYear_81 : decode cX11_liveYear 81 = .ok (.iastore, 1) := by decide +kernel
theorem dX11_liveYear_82 : decode cX11_liveYear 82 = .ok (.goto 43, 3) := by decide +kernel
theorem dX11_liveYear_85 : decode cX11_liveYear 85 = .ok (.iload_n 1, 1) := by decide +kernel
theorem dX11_liveYear_86 : decode cX11_liveYear 86 = .ok (.iconst 3, 1) := by decide +kernel
theorem dX11_liveYear_87 : decode cX11_liveYear 87 = .ok (.if_icmp .ne 38, 3) := by decide +kernel
theorem dX11_liveYear_90 : decode cX11_liveYear 90 = .ok (.aload_n 0, 1) := by decide +kernel
theorem dX11_liveYear_91 : decode cX11_liveYear 91 = .ok (.getfield 28, 3) := by decide +kernel
theorem dX11_liveYear_94 : decode cX11_liveYear 94 = .ok (.getfield 357, 3) := by decide +kernel
theorem dX11_liveYear_97 : decode cX11_liveYear 97 = .ok (.ifCond .le 28, 3) := by decide +kernel
theorem dX11_liveYear_100 : decode cX11_liveYear 100 = .ok (.aload_n 0, 1) := by decide +kernel
theorem dX11_liveYear_101 : decode cX11_liveYear 101 = .ok (.getfield 42, 3) := by decide +kernel
theorem dX11_liveYear_104 : decode cX11_liveYear 104 = .ok (.dup, 1) := by decide +kernel
theorem dX11_liveYear_105 : decode cX11_liveYear 105 = .ok (.getfield 259, 3) := by decide +kernel
theorem dX11_liveYear_108 : decode cX11_liveYear 108 = .ok (.iconst 1, 1) := by decide +kernel
theorem dX11_liveYear_109 : decode cX11_liveYear 109 = .ok (.aload_n 0, 1) := by decide +kernel
theorem dX11_liveYear_110 : decode cX11_liveYear 110 = .ok (.aload_n 0, 1) := by decide +kernel
theorem dX11_liveYear_111 : decode cX11_liveYear 111 = .ok (.getfield 28, 3) := by decide +kernel
theorem dX11_liveYear_114 : decode cX11_liveYear 114 = .ok (.getfield 357, 3) := by decide +kernel
theorem dX11_liveYear_117 : decode cX11_liveYear 117 = .ok (.invokevirtual 459, 3) := by decide +kernel
theorem dX11_liveYear_120 : decode cX11_liveYear 120 = .ok (.ishl, 1) := by decide +kernel
theorem dX11_liveYear_121 : decode cX11_liveYear 121 = .ok (.ior, 1) := by decide +kernel
theorem dX11_liveYear_122 : decode cX11_liveYear 122 = .ok (.putfield 259, 3) := by decide +kernel
theorem dX11_liveYear_125 : decode cX11_liveYear 125 = .ok (.return_, 1) := by decide +kernel
theorem dX11_draw_0 : decode cX11_draw 0 = .ok (.aload_n 0, 1) := by decide +kernel
theorem dX11_draw_1 : decode cX11_draw 1 = .ok (.aload_n 0, 1) := by decide +kernel
theorem dX11_draw_2 : decode cX11_draw 2 = .ok (.getfield 453, 3) := by decide +kernel
theorem dX11_draw_5 : decode cX11_draw 5 = .ok (.ldc_w 462, 3) := by decide +kernel
theorem dX11_draw_8 : decode cX11_draw 8 = .ok (.imul, 1) := by decide +kernel
theorem dX11_draw_9 : decode cX11_draw 9 = .ok (.sipush 12345, 3) := by decide +kernel
theorem dX11_draw_12 : decode cX11_draw 12 = .ok (.iadd, 1) := by decide +kernel
theorem dX11_draw_13 : decode cX11_draw 13 = .ok (.putfield 453, 3) := by decide +kernel
theorem dX11_draw_16 : decode cX11_draw 16 = .ok (.iload_n 1, 1) := by decide +kernel
theorem dX11_draw_17 : decode cX11_draw 17 = .ok (.ifCond .le 15, 3) := by decide +kernel
theorem dX11_draw_20 : decode cX11_draw 20 = .ok (.aload_n 0, 1) := by decide +kernel
theorem dX11_draw_21 : decode cX11_draw 21 = .ok (.getfield 453, 3) := by decide +kernel
theorem dX11_draw_24 : decode cX11_draw 24 = .ok (.bipush 16, 2) := by decide +kernel
theorem dX11_draw_26 : decode cX11_draw 26 = .ok (.iushr, 1) := by decide +kernel
theorem dX11_draw_27 : decode cX11_draw 27 = .ok (.iload_n 1, 1) := by decide +kernel
theorem dX11_draw_28 : decode cX11_draw 28 = .ok (.irem, 1) := by decide +kernel
theorem dX11_draw_29 : decode cX11_draw 29 = .ok (.goto 4, 3) := by decide +kernel
theorem dX11_draw_32 : decode cX11_draw 32 = .ok (.iconst 0, 1) := by decide +kernel
theorem dX11_draw_33 : decode cX11_draw 33 = .ok (.ireturn, 1) := by decide +kernel
theorem dX11_keep_0 : decode cX11_keep 0 = .ok (.aload_n 0, 1) := by decide +kernel
theorem dX11_keep_1 : decode cX11_keep 1 = .ok (.getfield 48, 3) := by decide +kernel
theorem dX11_keep_4 : decode cX11_keep 4 = .ok (.iload_n 1, 1) := by decide +kernel
theorem dX11_keep_5 : decode cX11_keep 5 = .ok (.aload_n 0, 1) := by decide +kernel
theorem dX11_keep_6 : decode cX11_keep 6 = .ok (.getfield 35, 3) := by decide +kernel
theorem dX11_keep_9 : decode cX11_keep 9 = .ok (.invokevirtual 463, 3) := by decide +kernel
theorem dX11_keep_12 : decode cX11_keep 12 = .ok (.ireturn, 1) := by decide +kernel
theorem dX11_again_0 : decode cX11_again 0 = .ok (.aload_n 0, 1) := by decide +kernel
theorem dX11_again_1 : decode cX11_again 1 = .ok (.getfield 48, 3) := by decide +kernel
theorem dX11_again_4 : decode cX11_again 4 = .ok (.iload_n 1, 1) := by decide +kernel
theorem dX11_again_5 : decode cX11_again 5 = .ok (.aload_n 0, 1) := by decide +kernel
theorem dX11_again_6 : decode cX11_again 6 = .ok (.getfield 35, 3) := by decide +kernel
theorem dX11_again_9 : decode cX11_again 9 = .ok (.invokevirtual 467, 3) := by decide +kernel
theorem dX11_again_12 : decode cX11_again 12 = .ok (.ireturn, 1) := by decide +kernel
theorem dX11_count_0 : decode cX11_count 0 = .ok (.iload_n 1, 1) := by decide +kernel
theorem dX11_count_1 : decode cX11_count 1 = .ok (.tableswitch 163 0 11 #[63, 71, 79, 87, 95, 103, 111, 119, 131, 139, 147, 155], 63) := by decide +kernel
theorem dX11_count_64 : decode cX11_count 64 = .ok (.aload_n 0, 1) := by decide +kernel
theorem dX11_count_65 : decode cX11_count 65 = .ok (.getfield 28, 3) := by decide +kernel
theorem dX11_count_68 : decode cX11_count 68 = .ok (.getfield 316, 3) := by decide +kernel
theorem dX11_count_71 : decode cX11_count 71 = .ok (.ireturn, 1) := by decide +kernel
theorem dX11_count_72 : decode cX11_count 72 = .ok (.aload_n 0, 1) := by decide +kernel
theorem dX11_count_73 : decode cX11_count 73 = .ok (.getfield 28, 3) := by decide +kernel
theorem dX11_count_76 : decode cX11_count 76 = .ok (.getfield 319, 3) := by decide +kernel
theorem dX11_count_79 : decode cX11_count 79 = .ok (.ireturn, 1) := by decide +kernel
theorem dX11_count_80 : decode cX11_count 80 = .ok (.aload_n 0, 1) := by decide +kernel
theorem dX11_count_81 : decode cX11_count 81 = .ok (.getfield 28, 3) := by decide +kernel
theorem dX11_count_84 : decode cX11_count 84 = .ok (.getfield 470, 3) := by decide +kernel
theorem dX11_count_87 : decode cX11_count 87 = .ok (.ireturn, 1) := by decide +kernel
theorem dX11_count_88 : decode cX11_count 88 = .ok (.aload_n 0, 1) := by decide +kernel
theorem dX11_count_89 : decode cX11_count 89 = .ok (.getfield 28, 3) := by decide +kernel
theorem dX11_count_92 : decode cX11_count 92 = .ok (.getfield 357, 3) := by decide +kernel
theorem dX11_count_95 : decode cX11_count 95 = .ok (.ireturn, 1) := by decide +kernel
theorem dX11_count_96 : decode cX11_count 96 = .ok (.aload_n 0, 1) := by decide +kernel
theorem dX11_count_97 : decode cX11_count 97 = .ok (.getfield 28, 3) := by decide +kernel
theorem dX11_count_100 : decode cX11_count 100 = .ok (.getfield 267, 3) := by decide +kernel
theorem dX11_count_103 : decode cX11_count 103 = .ok (.ireturn, 1) := by decide +kernel
theorem dX11_count_104 : decode cX11_count 104 = .ok (.aload_n 0, 1) := by decide +kernel
theorem dX11_count_105 : decode cX11_count 105 = .ok (.getfield 35, 3) := by decide +kernel
theorem dX11_count_108 : decode cX11_count 108 = .ok (.getfield 280, 3) := by decide +kernel
theorem dX11_count_111 : decode cX11_count 111 = .ok (.ireturn, 1) := by decide +kernel
theorem dX11_count_112 : decode cX11_count 112 = .ok (.aload_n 0, 1) := by decide +kernel
theorem dX11_count_113 : decode cX11_count 113 = .ok (.getfield 35, 3) := by decide +kernel
theorem dX11_count_116 : decode cX11_count 116 = .ok (.getfield 259, 3) := by decide +kernel
theorem dX11_count_119 : decode cX11_count 119 = .ok (.ireturn, 1) := by decide +kernel
theorem dX11_count_120 : decode cX11_count 120 = .ok (.aload_n 0, 1) := by decide +kernel
theorem dX11_count_121 : decode cX11_count 121 = .ok (.getfield 28, 3) := by decide +kernel
theorem dX11_count_124 : decode cX11_count 124 = .ok (.aload_n 0, 1) := by decide +kernel
theorem dX11_count_125 : decode cX11_count 125 = .ok (.getfield 35, 3) := by decide +kernel
theorem dX11_count_128 : decode cX11_count 128 = .ok (.invokevirtual 473, 3) := by decide +kernel
theorem dX11_count_131 : decode cX11_count 131 = .ok (.ireturn, 1) := by decide +kernel
theorem dX11_count_132 : decode cX11_count 132 = .ok (.aload_n 0, 1) := by decide +kernel
theorem dX11_count_133 : decode cX11_count 133 = .ok (.getfield 78, 3) := by decide +kernel
theorem dX11_count_136 : decode cX11_count 136 = .ok (.getfield 476, 3) := by decide +kernel
theorem dX11_count_139 : decode cX11_count 139 = .ok (.ireturn, 1) := by decide +kernel
theorem dX11_count_140 : decode cX11_count 140 = .ok (.aload_n 0, 1) := by decide +kernel
theorem dX11_count_141 : decode cX11_count 141 = .ok (.getfield 48, 3) := by decide +kernel
theorem dX11_count_144 : decode cX11_count 144 = .ok (.getfield 479, 3) := by decide +kernel
theorem dX11_count_147 : decode cX11_count 147 = .ok (.ireturn, 1) := by decide +kernel
theorem dX11_count_148 : decode cX11_count 148 = .ok (.aload_n 0, 1) := by decide +kernel
theorem dX11_count_149 : decode cX11_count 149 = .ok (.getfield 55, 3) := by decide +kernel
theorem dX11_count_152 : decode cX11_count 152 = .ok (.getfield 482, 3) := by decide +kernel
theorem dX11_count_155 : decode cX11_count 155 = .ok (.ireturn, 1) := by decide +kernel
theorem dX11_count_156 : decode cX11_count 156 = .ok (.aload_n 0, 1) := by decide +kernel
theorem dX11_count_157 : decode cX11_count 157 = .ok (.getfield 10, 3) := by decide +kernel
theorem dX11_count_160 : decode cX11_count 160 = .ok (.getfield 483, 3) := by decide +kernel
theorem dX11_count_163 : decode cX11_count 163 = .ok (.ireturn, 1) := by decide +kernel
theorem dX11_count_164 : decode cX11_count 164 = .ok (.bipush (-100), 2) := by decide +kernel
theorem dX11_count_166 : decode cX11_count 166 = .ok (.ireturn, 1) := by decide +kernel
theorem dX11_row_0 : decode cX11_row 0 = .ok (.iload_n 1, 1) := by decide +kernel
theorem dX11_row_1 : decode cX11_row 1 = .ok (.ifCond .lt 14, 3) := by decide +kernel
theorem dX11_row_4 : decode cX11_row 4 = .ok (.iload_n 1, 1) := by decide +kernel
theorem dX11_row_5 : decode cX11_row 5 = .ok (.aload_n 0, 1) := by decide +kernel
theorem dX11_row_6 : decode cX11_row 6 = .ok (.getfield 55, 3) := by decide +kernel
theorem dX11_row_9 : decode cX11_row 9 = .ok (.getfield 482, 3) := by decide +kernel
theorem dX11_row_12 : decode cX11_row 12 = .ok (.if_icmp .lt 11, 3) := by decide +kernel
theorem dX11_row_15 : decode cX11_row 15 = .ok (.new 167, 3) := by decide +kernel
theorem dX11_row_18 : decode cX11_row 18 = .ok (.dup, 1) := by decide +kernel
theorem dX11_row_19 : decode cX11_row 19 = .ok (.invokespecial 169, 3) := by decide +kernel
theorem dX11_row_22 : decode cX11_row 22 = .ok (.athrow, 1) := by decide +kernel
theorem dX11_row_23 : decode cX11_row 23 = .ok (.aload_n 0, 1) := by decide +kernel
theorem dX11_row_24 : decode cX11_row 24 = .ok (.getfield 55, 3) := by decide +kernel
theorem dX11_row_27 : decode cX11_row 27 = .ok (.getfield 486, 3) := by decide +kernel
theorem dX11_row_30 : decode cX11_row 30 = .ok (.iload_n 1, 1) := by decide +kernel
theorem dX11_row_31 : decode cX11_row 31 = .ok (.laload, 1) := by decide +kernel
theorem dX11_row_32 : decode cX11_row 32 = .ok (.lreturn, 1) := by decide +kernel
theorem dX11_isSort_0 : decode cX11_isSort 0 = .ok (.iload_n 0, 1) := by decide +kernel
theorem dX11_isSort_1 : decode cX11_isSort 1 = .ok (.ifCond .lt 23, 3) := by decide +kernel
theorem dX11_isSort_4 : decode cX11_isSort 4 = .ok (.iload_n 0, 1) := by decide +kernel
theorem dX11_isSort_5 : decode cX11_isSort 5 = .ok (.bipush 8, 2) := by decide +kernel
theorem dX11_isSort_7 : decode cX11_isSort 7 = .ok (.if_icmp .ge 17, 3) := by decide +kernel
theorem dX11_isSort_10 : decode cX11_isSort 10 = .ok (.iload_n 1, 1) := by decide +kernel
theorem dX11_isSort_11 : decode cX11_isSort 11 = .ok (.ifCond .lt 13, 3) := by decide +kernel
theorem dX11_isSort_14 : decode cX11_isSort 14 = .ok (.iload_n 1, 1) := by decide +kernel
theorem dX11_isSort_15 : decode cX11_isSort 15 = .ok (.bipush 10, 2) := by decide +kernel
theorem dX11_isSort_17 : decode cX11_isSort 17 = .ok (.if_icmp .ge 7, 3) := by decide +kernel
theorem dX11_isSort_20 : decode cX11_isSort 20 = .ok (.iconst 1, 1) := by decide +kernel
theorem dX11_isSort_21 : decode cX11_isSort 21 = .ok (.goto 4, 3) := by decide +kernel
theorem dX11_isSort_24 : decode cX11_isSort 24 = .ok (.iconst 0, 1) := by decide +kernel
theorem dX11_isSort_25 : decode cX11_isSort 25 = .ok (.ireturn, 1) := by decide +kernel
theorem dX11_has_0 : decode cX11_has 0 = .ok (.iload_n 0, 1) := by decide +kernel
theorem dX11_has_1 : decode cX11_has 1 = .ok (.iload_n 1, 1) := by decide +kernel
theorem dX11_has_2 : decode cX11_has 2 = .ok (.iushr, 1) := by decide +kernel
theorem dX11_has_3 : decode cX11_has 3 = .ok (.iconst 1, 1) := by decide +kernel
theorem dX11_has_4 : decode cX11_has 4 = .ok (.iand, 1) := by decide +kernel
theorem dX11_has_5 : decode cX11_has 5 = .ok (.ifCond .eq 7, 3) := by decide +kernel
theorem dX11_has_8 : decode cX11_has 8 = .ok (.iconst 1, 1) := by decide +kernel
theorem dX11_has_9 : decode cX11_has 9 = .ok (.goto 4, 3) := by decide +kernel
theorem dX11_has_12 : decode cX11_has 12 = .ok (.iconst 0, 1) := by decide +kernel
theorem dX11_has_13 : decode cX11_has 13 = .ok (.ireturn, 1) := by decide +kernel
theorem dX11_allOf_0 : decode cX11_allOf 0 = .ok (.iconst 1, 1) := by decide +kernel
theorem dX11_allOf_1 : decode cX11_allOf 1 = .ok (.iload_n 0, 1) := by decide +kernel
theorem dX11_allOf_2 : decode cX11_allOf 2 = .ok (.ishl, 1) := by decide +kernel
theorem dX11_allOf_3 : decode cX11_allOf 3 = .ok (.iconst 1, 1) := by decide +kernel
theorem dX11_allOf_4 : decode cX11_allOf 4 = .ok (.isub, 1) := by decide +kernel
theorem dX11_allOf_5 : decode cX11_allOf 5 = .ok (.ireturn, 1) := by decide +kernel
theorem dX11_bears_0 : decode cX11_bears 0 = .ok (.iload_n 1, 1) := by decide +kernel
theorem dX11_bears_1 : decode cX11_bears 1 = .ok (.iload_n 2, 1) := by decide +kernel
theorem dX11_bears_2 : decode cX11_bears 2 = .ok (.iushr, 1) := by decide +kernel
theorem dX11_bears_3 : decode cX11_bears 3 = .ok (.iconst 1, 1) := by decide +kernel
theorem dX11_bears_4 : decode cX11_bears 4 = .ok (.iand, 1) := by decide +kernel
theorem dX11_bears_5 : decode cX11_bears 5 = .ok (.ifCond .ne 12, 3) := by decide +kernel
theorem dX11_bears_8 : decode cX11_bears 8 = .ok (.iload_n 3, 1) := by decide +kernel
theorem dX11_bears_9 : decode cX11_bears 9 = .ok (.iload_n 0, 1) := by decide +kernel
theorem dX11_bears_10 : decode cX11_bears 10 = .ok (.if_icmp .gt 7, 3) := by decide +kernel
theorem dX11_bears_13 : decode cX11_bears 13 = .ok (.iconst 1, 1) := by decide +kernel
theorem dX11_bears_14 : decode cX11_bears 14 = .ok (.goto 4, 3) := by decide +kernel
theorem dX11_bears_17 : decode cX11_bears 17 = .ok (.iconst 0, 1) := by decide +kernel
theorem dX11_bears_18 : decode cX11_bears 18 = .ok (.ireturn, 1) := by decide +kernel
theorem dJ6_bitCount_0f7a4_0 : decode cJ6_bitCount_0f7a4 0 = .ok (.iload_n 0, 1) := by decide +kernel
theorem dJ6_bitCount_0f7a4_1 : decode cJ6_bitCount_0f7a4 1 = .ok (.iload_n 0, 1) := by decide +kernel
theorem dJ6_bitCount_0f7a4_2 : decode cJ6_bitCount_0f7a4 2 = .ok (.iconst 1, 1) := by decide +kernel
theorem dJ6_bitCount_0f7a4_3 : decode cJ6_bitCount_0f7a4 3 = .ok (.iushr, 1) := by decide +kernel
theorem dJ6_bitCount_0f7a4_4 : decode cJ6_bitCount_0f7a4 4 = .ok (.ldc_w 265, 3) := by decide +kernel
theorem dJ6_bitCount_0f7a4_7 : decode cJ6_bitCount_0f7a4 7 = .ok (.iand, 1) := by decide +kernel
theorem dJ6_bitCount_0f7a4_8 : decode cJ6_bitCount_0f7a4 8 = .ok (.isub, 1) := by decide +kernel
theorem dJ6_bitCount_0f7a4_9 : decode cJ6_bitCount_0f7a4 9 = .ok (.istore_n 0, 1) := by decide +kernel
theorem dJ6_bitCount_0f7a4_10 : decode cJ6_bitCount_0f7a4 10 = .ok (.iload_n 0, 1) := by decide +kernel
theorem dJ6_bitCount_0f7a4_11 : decode cJ6_bitCount_0f7a4 11 = .ok (.ldc_w 266, 3) := by decide +kernel
theorem dJ6_bitCount_0f7a4_14 : decode cJ6_bitCount_0f7a4 14 = .ok (.iand, 1) := by decide +kernel
theorem dJ6_bitCount_0f7a4_15 : decode cJ6_bitCount_0f7a4 15 = .ok (.iload_n 0, 1) := by decide +kernel
theorem dJ6_bitCount_0f7a4_16 : decode cJ6_bitCount_0f7a4 16 = .ok (.iconst 2, 1) := by decide +kernel
theorem dJ6_bitCount_0f7a4_17 : decode cJ6_bitCount_0f7a4 17 = .ok (.iushr, 1) := by decide +kernel
theorem dJ6_bitCount_0f7a4_18 : decode cJ6_bitCount_0f7a4 18 = .ok (.ldc_w 266, 3) := by decide +kernel
theorem dJ6_bitCount_0f7a4_21 : decode cJ6_bitCount_0f7a4 21 = .ok (.iand, 1) := by decide +kernel
theorem dJ6_bitCount_0f7a4_22 : decode cJ6_bitCount_0f7a4 22 = .ok (.iadd, 1) := by decide +kernel
theorem dJ6_bitCount_0f7a4_23 : decode cJ6_bitCount_0f7a4 23 = .ok (.istore_n 0, 1) := by decide +kernel
theorem dJ6_bitCount_0f7a4_24 : decode cJ6_bitCount_0f7a4 24 = .ok (.iload_n 0, 1) := by decide +kernel
theorem dJ6_bitCount_0f7a4_25 : decode cJ6_bitCount_0f7a4 25 = .ok (.iload_n 0, 1) := by decide +kernel
theorem dJ6_bitCount_0f7a4_26 : decode cJ6_bitCount_0f7a4 26 = .ok (.iconst 4, 1) := by decide +kernel
theorem dJ6_bitCount_0f7a4_27 : decode cJ6_bitCount_0f7a4 27 = .ok (.iushr, 1) := by decide +kernel
theorem dJ6_bitCount_0f7a4_28 : decode cJ6_bitCount_0f7a4 28 = .ok (.iadd, 1) := by decide +kernel
theorem dJ6_bitCount_0f7a4_29 : decode cJ6_bitCount_0f7a4 29 = .ok (.ldc_w 267, 3) := by decide +kernel
theorem dJ6_bitCount_0f7a4_32 : decode cJ6_bitCount_0f7a4 32 = .ok (.iand, 1) := by decide +kernel
theorem dJ6_bitCount_0f7a4_33 : decode cJ6_bitCount_0f7a4 33 = .ok (.istore_n 0, 1) := by decide +kernel
theorem dJ6_bitCount_0f7a4_34 : decode cJ6_bitCount_0f7a4 34 = .ok (.iload_n 0, 1) := by decide +kernel
theorem dJ6_bitCount_0f7a4_35 : decode cJ6_bitCount_0f7a4 35 = .ok (.iload_n 0, 1) := by decide +kernel
theorem dJ6_bitCount_0f7a4_36 : decode cJ6_bitCount_0f7a4 36 = .ok (.bipush 8, 2) := by decide +kernel
theorem dJ6_bitCount_0f7a4_38 : decode cJ6_bitCount_0f7a4 38 = .ok (.iushr, 1) := by decide +kernel
theorem dJ6_bitCount_0f7a4_39 : decode cJ6_bitCount_0f7a4 39 = .ok (.iadd, 1) := by decide +kernel
theorem dJ6_bitCount_0f7a4_40 : decode cJ6_bitCount_0f7a4 40 = .ok (.istore_n 0, 1) := by decide +kernel
theorem dJ6_bitCount_0f7a4_41 : decode cJ6_bitCount_0f7a4 41 = .ok (.iload_n 0, 1) := by decide +kernel
theorem dJ6_bitCount_0f7a4_42 : decode cJ6_bitCount_0f7a4 42 = .ok (.iload_n 0, 1) := by decide +kernel
theorem dJ6_bitCount_0f7a4_43 : decode cJ6_bitCount_0f7a4 43 = .ok (.bipush 16, 2) := by decide +kernel
theorem dJ6_bitCount_0f7a4_45 : decode cJ6_bitCount_0f7a4 45 = .ok (.iushr, 1) := by decide +kernel
theorem dJ6_bitCount_0f7a4_46 : decode cJ6_bitCount_0f7a4 46 = .ok (.iadd, 1) := by decide +kernel
theorem dJ6_bitCount_0f7a4_47 : decode cJ6_bitCount_0f7a4 47 = .ok (.istore_n 0, 1) := by decide +kernel
theorem dJ6_bitCount_0f7a4_48 : decode cJ6_bitCount_0f7a4 48 = .ok (.iload_n 0, 1) := by decide +kernel
theorem dJ6_bitCount_0f7a4_49 : decode cJ6_bitCount_0f7a4 49 = .ok (.bipush 63, 2) := by decide +kernel
theorem dJ6_bitCount_0f7a4_51 : decode cJ6_bitCount_0f7a4 51 = .ok (.iand, 1) := by decide +kernel
theorem dJ6_bitCount_0f7a4_52 : decode cJ6_bitCount_0f7a4 52 = .ok (.ireturn, 1) := by decide +kernel
theorem dJ13_bitCount_95d88_0 : decode cJ13_bitCount_95d88 0 = .ok (.lload_n 0, 1) := by decide +kernel
theorem dJ13_bitCount_95d88_1 : decode cJ13_bitCount_95d88 1 = .ok (.lload_n 0, 1) := by decide +kernel
theorem dJ13_bitCount_95d88_2 : decode cJ13_bitCount_95d88 2 = .ok (.iconst 1, 1) := by decide +kernel
theorem dJ13_bitCount_95d88_3 : decode cJ13_bitCount_95d88 3 = .ok (.lushr, 1) := by decide +kernel
theorem dJ13_bitCount_95d88_4 : decode cJ13_bitCount_95d88 4 = .ok (.ldc2_w 314, 3) := by decide +kernel
theorem dJ13_bitCount_95d88_7 : decode cJ13_bitCount_95d88 7 = .ok (.land, 1) := by decide +kernel
theorem dJ13_bitCount_95d88_8 : decode cJ13_bitCount_95d88 8 = .ok (.lsub, 1) := by decide +kernel
theorem dJ13_bitCount_95d88_9 : decode cJ13_bitCount_95d88 9 = .ok (.lstore_n 0, 1) := by decide +kernel
theorem dJ13_bitCount_95d88_10 : decode cJ13_bitCount_95d88 10 = .ok (.lload_n 0, 1) := by decide +kernel
theorem dJ13_bitCount_95d88_11 : decode cJ13_bitCount_95d88 11 = .ok (.ldc2_w 316, 3) := by decide +kernel
theorem dJ13_bitCount_95d88_14 : decode cJ13_bitCount_95d88 14 = .ok (.land, 1) := by decide +kernel
theorem dJ13_bitCount_95d88_15 : decode cJ13_bitCount_95d88 15 = .ok (.lload_n 0, 1) := by decide +kernel
theorem dJ13_bitCount_95d88_16 : decode cJ13_bitCount_95d88 16 = .ok (.iconst 2, 1) := by decide +kernel
theorem dJ13_bitCount_95d88_17 : decode cJ13_bitCount_95d88 17 = .ok (.lushr, 1) := by decide +kernel
theorem dJ13_bitCount_95d88_18 : decode cJ13_bitCount_95d88 18 = .ok (.ldc2_w 316, 3) := by decide +kernel
theorem dJ13_bitCount_95d88_21 : decode cJ13_bitCount_95d88 21 = .ok (.land, 1) := by decide +kernel
theorem dJ13_bitCount_95d88_22 : decode cJ13_bitCount_95d88 22 = .ok (.ladd, 1) := by decide +kernel
theorem dJ13_bitCount_95d88_23 : decode cJ13_bitCount_95d88 23 = .ok (.lstore_n 0, 1) := by decide +kernel
theorem dJ13_bitCount_95d88_24 : decode cJ13_bitCount_95d88 24 = .ok (.lload_n 0, 1) := by decide +kernel
theorem dJ13_bitCount_95d88_25 : decode cJ13_bitCount_95d88 25 = .ok (.lload_n 0, 1) := by decide +kernel
theorem dJ13_bitCount_95d88_26 : decode cJ13_bitCount_95d88 26 = .ok (.iconst 4, 1) := by decide +kernel
theorem dJ13_bitCount_95d88_27 : decode cJ13_bitCount_95d88 27 = .ok (.lushr, 1) := by decide +kernel
theorem dJ13_bitCount_95d88_28 : decode cJ13_bitCount_95d88 28 = .ok (.ladd, 1) := by decide +kernel
theorem dJ13_bitCount_95d88_29 : decode cJ13_bitCount_95d88 29 = .ok (.ldc2_w 318, 3) := by decide +kernel
theorem dJ13_bitCount_95d88_32 : decode cJ13_bitCount_95d88 32 = .ok (.land, 1) := by decide +kernel
theorem dJ13_bitCount_95d88_33 : decode cJ13_bitCount_95d88 33 = .ok (.lstore_n 0, 1) := by decide +kernel
theorem dJ13_bitCount_95d88_34 : decode cJ13_bitCount_95d88 34 = .ok (.lload_n 0, 1) := by decide +kernel
theorem dJ13_bitCount_95d88_35 : decode cJ13_bitCount_95d88 35 = .ok (.lload_n 0, 1) := by decide +kernel
theorem dJ13_bitCount_95d88_36 : decode cJ13_bitCount_95d88 36 = .ok (.bipush 8, 2) := by decide +kernel
theorem dJ13_bitCount_95d88_38 : decode cJ13_bitCount_95d88 38 = .ok (.lushr, 1) := by decide +kernel
theorem dJ13_bitCount_95d88_39 : decode cJ13_bitCount_95d88 39 = .ok (.ladd, 1) := by decide +kernel
theorem dJ13_bitCount_95d88_40 : decode cJ13_bitCount_95d88 40 = .ok (.lstore_n 0, 1) := by decide +kernel
theorem dJ13_bitCount_95d88_41 : decode cJ13_bitCount_95d88 41 = .ok (.lload_n 0, 1) := by decide +kernel
theorem dJ13_bitCount_95d88_42 : decode cJ13_bitCount_95d88 42 = .ok (.lload_n 0, 1) := by decide +kernel
theorem dJ13_bitCount_95d88_43 : decode cJ13_bitCount_95d88 43 = .ok (.bipush 16, 2) := by decide +kernel
theorem dJ13_bitCount_95d88_45 : decode cJ13_bitCount_95d88 45 = .ok (.lushr, 1) := by decide +kernel
theorem dJ13_bitCount_95d88_46 : decode cJ13_bitCount_95d88 46 = .ok (.ladd, 1) := by decide +kernel
theorem dJ13_bitCount_95d88_47 : decode cJ13_bitCount_95d88 47 = .ok (.lstore_n 0, 1) := by decide +kernel
theorem dJ13_bitCount_95d88_48 : decode cJ13_bitCount_95d88 48 = .ok (.lload_n 0, 1) := by decide +kernel
theorem dJ13_bitCount_95d88_49 : decode cJ13_bitCount_95d88 49 = .ok (.lload_n 0, 1) := by decide +kernel
theorem dJ13_bitCount_95d88_50 : decode cJ13_bitCount_95d88 50 = .ok (.bipush 32, 2) := by decide +kernel
theorem dJ13_bitCount_95d88_52 : decode cJ13_bitCount_95d88 52 = .ok (.lushr, 1) := by decide +kernel
theorem dJ13_bitCount_95d88_53 : decode cJ13_bitCount_95d88 53 = .ok (.ladd, 1) := by decide +kernel
theorem dJ13_bitCount_95d88_54 : decode cJ13_bitCount_95d88 54 = .ok (.lstore_n 0, 1) := by decide +kernel
theorem dJ13_bitCount_95d88_55 : decode cJ13_bitCount_95d88 55 = .ok (.lload_n 0, 1) := by decide +kernel
theorem dJ13_bitCount_95d88_56 : decode cJ13_bitCount_95d88 56 = .ok (.l2i, 1) := by decide +kernel
theorem dJ13_bitCount_95d88_57 : decode cJ13_bitCount_95d88 57 = .ok (.bipush 127, 2) := by decide +kernel
theorem dJ13_bitCount_95d88_59 : decode cJ13_bitCount_95d88 59 = .ok (.iand, 1) := by decide +kernel
theorem dJ13_bitCount_95d88_60 : decode cJ13_bitCount_95d88 60 = .ok (.ireturn, 1) := by decide +kernel
theorem dJ7_fill_53178_0 : decode cJ7_fill_53178 0 = .ok (.iconst 0, 1) := by decide +kernel
theorem dJ7_fill_53178_1 : decode cJ7_fill_53178 1 = .ok (.istore_n 2, 1) := by decide +kernel
theorem dJ7_fill_53178_2 : decode cJ7_fill_53178 2 = .ok (.aload_n 0, 1) := by decide +kernel
theorem dJ7_fill_53178_3 : decode cJ7_fill_53178 3 = .ok (.arraylength, 1) := by decide +kernel
theorem dJ7_fill_53178_4 : decode cJ7_fill_53178 4 = .ok (.istore_n 3, 1) := by decide +kernel
theorem dJ7_fill_53178_5 : decode cJ7_fill_53178 5 = .ok (.iload_n 2, 1) := by decide +kernel
theorem dJ7_fill_53178_6 : decode cJ7_fill_53178 6 = .ok (.iload_n 3, 1) := by decide +kernel
theorem dJ7_fill_53178_7 : decode cJ7_fill_53178 7 = .ok (.if_icmp .ge 13, 3) := by decide +kernel
theorem dJ7_fill_53178_10 : decode cJ7_fill_53178 10 = .ok (.aload_n 0, 1) := by decide +kernel
theorem dJ7_fill_53178_11 : decode cJ7_fill_53178 11 = .ok (.iload_n 2, 1) := by decide +kernel
theorem dJ7_fill_53178_12 : decode cJ7_fill_53178 12 = .ok (.iload_n 1, 1) := by decide +kernel
theorem dJ7_fill_53178_13 : decode cJ7_fill_53178 13 = .ok (.iastore, 1) := by decide +kernel
theorem dJ7_fill_53178_14 : decode cJ7_fill_53178 14 = .ok (.iinc 2 1, 3) := by decide +kernel
theorem dJ7_fill_53178_17 : decode cJ7_fill_53178 17 = .ok (.goto (-12), 3) := by decide +kernel
theorem dJ7_fill_53178_20 : decode cJ7_fill_53178 20 = .ok (.return_, 1) := by decide +kernel
