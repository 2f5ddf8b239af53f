theorem dX0_init_0 : decode mX0_init.2.1 0 = .ok (.aload_n 0, 1) := by decide +kernel
theorem dX0_init_1 : decode mX0_init.2.1 1 = .ok (.invokespecial 3, 3) := by decide +kernel
theorem dX0_init_4 : decode mX0_init.2.1 4 = .ok (.aload_n 0, 1) := by decide +kernel
theorem dX0_init_5 : decode mX0_init.2.1 5 = .ok (.bipush 8, 2) := by decide +kernel
theorem dX0_init_7 : decode mX0_init.2.1 7 = .ok (.newarray .int, 2) := by decide +kernel
theorem dX0_init_9 : decode mX0_init.2.1 9 = .ok (.putfield 9, 3) := by decide +kernel
theorem dX0_init_12 : decode mX0_init.2.1 12 = .ok (.aload_n 0, 1) := by decide +kernel
theorem dX0_init_13 : decode mX0_init.2.1 13 = .ok (.bipush 8, 2) := by decide +kernel
theorem dX0_init_15 : decode mX0_init.2.1 15 = .ok (.newarray .int, 2) := by decide +kernel
theorem dX0_init_17 : decode mX0_init.2.1 17 = .ok (.putfield 15, 3) := by decide +kernel
theorem dX0_init_20 : decode mX0_init.2.1 20 = .ok (.return_, 1) := by decide +kernel
theorem dX0_clear_0 : decode mX0_clear.2.1 0 = .ok (.aload_n 0, 1) := by decide +kernel
theorem dX0_clear_1 : decode mX0_clear.2.1 1 = .ok (.iconst 0, 1) := by decide +kernel
theorem dX0_clear_2 : decode mX0_clear.2.1 2 = .ok (.putfield 18, 3) := by decide +kernel
theorem dX0_clear_5 : decode mX0_clear.2.1 5 = .ok (.return_, 1) := by decide +kernel
theorem dX0_add_0 : decode mX0_add.2.1 0 = .ok (.aload_n 0, 1) := by decide +kernel
theorem dX0_add_1 : decode mX0_add.2.1 1 = .ok (.getfield 18, 3) := by decide +kernel
theorem dX0_add_4 : decode mX0_add.2.1 4 = .ok (.bipush 8, 2) := by decide +kernel
theorem dX0_add_6 : decode mX0_add.2.1 6 = .ok (.if_icmp .ge 23, 3) := by decide +kernel
theorem dX0_add_9 : decode mX0_add.2.1 9 = .ok (.aload_n 0, 1) := by decide +kernel
theorem dX0_add_10 : decode mX0_add.2.1 10 = .ok (.getfield 9, 3) := by decide +kernel
theorem dX0_add_13 : decode mX0_add.2.1 13 = .ok (.aload_n 0, 1) := by decide +kernel
theorem dX0_add_14 : decode mX0_add.2.1 14 = .ok (.getfield 18, 3) := by decide +kernel
theorem dX0_add_17 : decode mX0_add.2.1 17 = .ok (.iload_n 1, 1) := by decide +kernel
theorem dX0_add_18 : decode mX0_add.2.1 18 = .ok (.iastore, 1) := by decide +kernel
theorem dX0_add_19 : decode mX0_add.2.1 19 = .ok (.aload_n 0, 1) := by decide +kernel
theorem dX0_add_20 : decode mX0_add.2.1 20 = .ok (.dup, 1) := by decide +kernel
theorem dX0_add_21 : decode mX0_add.2.1 21 = .ok (.getfield 18, 3) := by decide +kernel
theorem dX0_add_24 : decode mX0_add.2.1 24 = .ok (.iconst 1, 1) := by decide +kernel
theorem dX0_add_25 : decode mX0_add.2.1 25 = .ok (.iadd, 1) := by decide +kernel
theorem dX0_add_26 : decode mX0_add.2.1 26 = .ok (.putfield 18, 3) := by decide +kernel
theorem dX0_add_29 : decode mX0_add.2.1 29 = .ok (.return_, 1) := by decide +kernel
theorem dX0_tellMost_0 : decode mX0_tellMost.2.1 0 = .ok (.bipush 8, 2) := by decide +kernel
theorem dX0_tellMost_2 : decode mX0_tellMost.2.1 2 = .ok (.invokestatic 22, 3) := by decide +kernel
theorem dX0_tellMost_5 : decode mX0_tellMost.2.1 5 = .ok (.istore_n 2, 1) := by decide +kernel
theorem dX0_tellMost_6 : decode mX0_tellMost.2.1 6 = .ok (.aload_n 0, 1) := by decide +kernel
theorem dX0_tellMost_7 : decode mX0_tellMost.2.1 7 = .ok (.iconst 0, 1) := by decide +kernel
theorem dX0_tellMost_8 : decode mX0_tellMost.2.1 8 = .ok (.iload_n 2, 1) := by decide +kernel
theorem dX0_tellMost_9 : decode mX0_tellMost.2.1 9 = .ok (.invokevirtual 26, 3) := by decide +kernel
theorem dX0_tellMost_12 : decode mX0_tellMost.2.1 12 = .ok (.istore_n 3, 1) := by decide +kernel
theorem dX0_tellMost_13 : decode mX0_tellMost.2.1 13 = .ok (.iload_n 3, 1) := by decide +kernel
theorem dX0_tellMost_14 : decode mX0_tellMost.2.1 14 = .ok (.istore 4, 2) := by decide +kernel
theorem dX0_tellMost_16 : decode mX0_tellMost.2.1 16 = .ok (.aload_n 1, 1) := by decide +kernel
theorem dX0_tellMost_17 : decode mX0_tellMost.2.1 17 = .ok (.invokevirtual 30, 3) := by decide +kernel
theorem dX0_tellMost_20 : decode mX0_tellMost.2.1 20 = .ok (.iconst 0, 1) := by decide +kernel
theorem dX0_tellMost_21 : decode mX0_tellMost.2.1 21 = .ok (.istore 5, 2) := by decide +kernel
theorem dX0_tellMost_23 : decode mX0_tellMost.2.1 23 = .ok (.iload 5, 2) := by decide +kernel
theorem dX0_tellMost_25 : decode mX0_tellMost.2.1 25 = .ok (.aload_n 0, 1) := by decide +kernel
theorem dX0_tellMost_26 : decode mX0_tellMost.2.1 26 = .ok (.getfield 18, 3) := by decide +kernel
theorem dX0_tellMost_29 : decode mX0_tellMost.2.1 29 = .ok (.if_icmp .ge 45, 3) := by decide +kernel
theorem dX0_tellMost_32 : decode mX0_tellMost.2.1 32 = .ok (.aload_n 0, 1) := by decide +kernel
theorem dX0_tellMost_33 : decode mX0_tellMost.2.1 33 = .ok (.iload 5, 2) := by decide +kernel
theorem dX0_tellMost_35 : decode mX0_tellMost.2.1 35 = .ok (.iload_n 2, 1) := by decide +kernel
theorem dX0_tellMost_36 : decode mX0_tellMost.2.1 36 = .ok (.iload 4, 2) := by decide +kernel
theorem dX0_tellMost_38 : decode mX0_tellMost.2.1 38 = .ok (.invokevirtual 35, 3) := by decide +kernel
theorem dX0_tellMost_41 : decode mX0_tellMost.2.1 41 = .ok (.istore 6, 2) := by decide +kernel
theorem dX0_tellMost_43 : decode mX0_tellMost.2.1 43 = .ok (.aload_n 1, 1) := by decide +kernel
theorem dX0_tellMost_44 : decode mX0_tellMost.2.1 44 = .ok (.iload 6, 2) := by decide +kernel
theorem dX0_tellMost_46 : decode mX0_tellMost.2.1 46 = .ok (.i2l, 1) := by decide +kernel
theorem dX0_tellMost_47 : decode mX0_tellMost.2.1 47 = .ok (.invokevirtual 39, 3) := by decide +kernel
theorem dX0_tellMost_50 : decode mX0_tellMost.2.1 50 = .ok (.iload 6, 2) := by decide +kernel
theorem dX0_tellMost_52 : decode mX0_tellMost.2.1 52 = .ok (.iconst (-1), 1) := by decide +kernel
theorem dX0_tellMost_53 : decode mX0_tellMost.2.1 53 = .ok (.if_icmp .eq 15, 3) := by decide +kernel
theorem dX0_tellMost_56 : decode mX0_tellMost.2.1 56 = .ok (.iload_n 2, 1) := by decide +kernel
theorem dX0_tellMost_57 : decode mX0_tellMost.2.1 57 = .ok (.iconst 1, 1) := by decide +kernel
theorem dX0_tellMost_58 : decode mX0_tellMost.2.1 58 = .ok (.iload 6, 2) := by decide +kernel
theorem dX0_tellMost_60 : decode mX0_tellMost.2.1 60 = .ok (.ishl, 1) := by decide +kernel
theorem dX0_tellMost_61 : decode mX0_tellMost.2.1 61 = .ok (.iconst (-1), 1) := by decide +kernel
theorem dX0_tellMost_62 : decode mX0_tellMost.2.1 62 = .ok (.ixor, 1) := by decide +kernel
theorem dX0_tellMost_63 : decode mX0_tellMost.2.1 63 = .ok (.iand, 1) := by decide +kernel
theorem dX0_tellMost_64 : decode mX0_tellMost.2.1 64 = .ok (.istore_n 2, 1) := by decide +kernel
theorem dX0_tellMost_65 : decode mX0_tellMost.2.1 65 = .ok (.iinc 4 (-1), 3) := by decide +kernel
theorem dX0_tellMost_68 : decode mX0_tellMost.2.1 68 = .ok (.iinc 5 1, 3) := by decide +kernel
theorem dX0_tellMost_71 : decode mX0_tellMost.2.1 71 = .ok (.goto (-48), 3) := by decide +kernel
theorem dX0_tellMost_74 : decode mX0_tellMost.2.1 74 = .ok (.iload_n 3, 1) := by decide +kernel
theorem dX0_tellMost_75 : decode mX0_tellMost.2.1 75 = .ok (.ireturn, 1) := by decide +kernel
theorem dX0_leastFor_0 : decode mX0_leastFor.2.1 0 = .ok (.aload_n 0, 1) := by decide +kernel
theorem dX0_leastFor_1 : decode mX0_leastFor.2.1 1 = .ok (.iload_n 1, 1) := by decide +kernel
theorem dX0_leastFor_2 : decode mX0_leastFor.2.1 2 = .ok (.iconst 1, 1) := by decide +kernel
theorem dX0_leastFor_3 : decode mX0_leastFor.2.1 3 = .ok (.iadd, 1) := by decide +kernel
theorem dX0_leastFor_4 : decode mX0_leastFor.2.1 4 = .ok (.iload_n 2, 1) := by decide +kernel
theorem dX0_leastFor_5 : decode mX0_leastFor.2.1 5 = .ok (.invokevirtual 26, 3) := by decide +kernel
theorem dX0_leastFor_8 : decode mX0_leastFor.2.1 8 = .ok (.iload_n 3, 1) := by decide +kernel
theorem dX0_leastFor_9 : decode mX0_leastFor.2.1 9 = .ok (.if_icmp .lt 5, 3) := by decide +kernel
theorem dX0_leastFor_12 : decode mX0_leastFor.2.1 12 = .ok (.iconst (-1), 1) := by decide +kernel
theorem dX0_leastFor_13 : decode mX0_leastFor.2.1 13 = .ok (.ireturn, 1) := by decide +kernel
theorem dX0_leastFor_14 : decode mX0_leastFor.2.1 14 = .ok (.iconst 0, 1) := by decide +kernel
theorem dX0_leastFor_15 : decode mX0_leastFor.2.1 15 = .ok (.istore 4, 2) := by decide +kernel
theorem dX0_leastFor_17 : decode mX0_leastFor.2.1 17 = .ok (.iload 4, 2) := by decide +kernel
theorem dX0_leastFor_19 : decode mX0_leastFor.2.1 19 = .ok (.bipush 8, 2) := by decide +kernel
theorem dX0_leastFor_21 : decode mX0_leastFor.2.1 21 = .ok (.if_icmp .ge 53, 3) := by decide +kernel
theorem dX0_leastFor_24 : decode mX0_leastFor.2.1 24 = .ok (.aload_n 0, 1) := by decide +kernel
theorem dX0_leastFor_25 : decode mX0_leastFor.2.1 25 = .ok (.getfield 9, 3) := by decide +kernel
theorem dX0_leastFor_28 : decode mX0_leastFor.2.1 28 = .ok (.iload_n 1, 1) := by decide +kernel
theorem dX0_leastFor_29 : decode mX0_leastFor.2.1 29 = .ok (.iaload, 1) := by decide +kernel
theorem dX0_leastFor_30 : decode mX0_leastFor.2.1 30 = .ok (.iload_n 2, 1) := by decide +kernel
theorem dX0_leastFor_31 : decode mX0_leastFor.2.1 31 = .ok (.iand, 1) := by decide +kernel
theorem dX0_leastFor_32 : decode mX0_leastFor.2.1 32 = .ok (.iload 4, 2) := by decide +kernel
theorem dX0_leastFor_34 : decode mX0_leastFor.2.1 34 = .ok (.invokestatic 43, 3) := by decide +kernel
theorem dX0_leastFor_37 : decode mX0_leastFor.2.1 37 = .ok (.istore 5, 2) := by decide +kernel
theorem dX0_leastFor_39 : decode mX0_leastFor.2.1 39 = .ok (.iload 5, 2) := by decide +kernel
theorem dX0_leastFor_41 : decode mX0_leastFor.2.1 41 = .ok (.ifCond .eq 27, 3) := by decide +kernel
theorem dX0_leastFor_44 : decode mX0_leastFor.2.1 44 = .ok (.aload_n 0, 1) := by decide +kernel
theorem dX0_leastFor_45 : decode mX0_leastFor.2.1 45 = .ok (.iload_n 1, 1) := by decide +kernel
theorem dX0_leastFor_46 : decode mX0_leastFor.2.1 46 = .ok (.iconst 1, 1) := by decide +kernel
theorem dX0_leastFor_47 : decode mX0_leastFor.2.1 47 = .ok (.iadd, 1) := by decide +kernel
theorem dX0_leastFor_48 : decode mX0_leastFor.2.1 48 = .ok (.iload_n 2, 1) := by decide +kernel
theorem dX0_leastFor_49 : decode mX0_leastFor.2.1 49 = .ok (.iconst 1, 1) := by decide +kernel
theorem dX0_leastFor_50 : decode mX0_leastFor.2.1 50 = .ok (.iload 4, 2) := by decide +kernel
theorem dX0_leastFor_52 : decode mX0_leastFor.2.1 52 = .ok (.ishl, 1) := by decide +kernel
theorem dX0_leastFor_53 : decode mX0_leastFor.2.1 53 = .ok (.iconst (-1), 1) := by decide +kernel
theorem dX0_leastFor_54 : decode mX0_leastFor.2.1 54 = .ok (.ixor, 1) := by decide +kernel
theorem dX0_leastFor_55 : decode mX0_leastFor.2.1 55 = .ok (.iand, 1) := by decide +kernel
theorem dX0_leastFor_56 : decode mX0_leastFor.2.1 56 = .ok (.invokevirtual 26, 3) := by decide +kernel
theorem dX0_leastFor_59 : decode mX0_leastFor.2.1 59 = .ok (.iload_n 3, 1) := by decide +kernel
theorem dX0_leastFor_60 : decode mX0_leastFor.2.1 60 = .ok (.iconst 1, 1) := by decide +kernel
theorem dX0_leastFor_61 : decode mX0_leastFor.2.1 61 = .ok (.isub, 1) := by decide +kernel
theorem dX0_leastFor_62 : decode mX0_leastFor.2.1 62 = .ok (.if_icmp .lt 6, 3) := by decide +kernel
theorem dX0_leastFor_65 : decode mX0_leastFor.2.1 65 = .ok (.iload 4, 2) := by decide +kernel
theorem dX0_leastFor_67 : decode mX0_leastFor.2.1 67 = .ok (.ireturn, 1) := by decide +kernel
theorem dX0_leastFor_68 : decode mX0_leastFor.2.1 68 = .ok (.iinc 4 1, 3) := by decide +kernel
theorem dX0_leastFor_71 : decode mX0_leastFor.2.1 71 = .ok (.goto (-54), 3) := by decide +kernel
theorem dX0_leastFor_74 : decode mX0_leastFor.2.1 74 = .ok (.iconst (-1), 1) := by decide +kernel
theorem dX0_leastFor_75 : decode mX0_leastFor.2.1 75 = .ok (.ireturn, 1) := by decide +kernel
theorem dX0_served_0 : decode mX0_served.2.1 0 = .ok (.aload_n 0, 1) := by decide +kernel
theorem dX0_served_1 : decode mX0_served.2.1 1 = .ok (.getfield 15, 3) := by decide +kernel
theorem dX0_served_4 : decode mX0_served.2.1 4 = .ok (.iconst (-1), 1) := by decide +kernel
theorem dX0_served_5 : decode mX0_served.2.1 5 = .ok (.invokestatic 47, 3) := by decide +kernel
theorem dX0_served_8 : decode mX0_served.2.1 8 = .ok (.iconst 0, 1) := by decide +kernel
theorem dX0_served_9 : decode mX0_served.2.1 9 = .ok (.istore_n 3, 1) := by decide +kernel
theorem dX0_served_10 : decode mX0_served.2.1 10 = .ok (.iload_n 1, 1) := by decide +kernel
theorem dX0_served_11 : decode mX0_served.2.1 11 = .ok (.istore 4, 2) := by decide +kernel
theorem dX0_served_13 : decode mX0_served.2.1 13 = .ok (.iload 4, 2) := by decide +kernel
theorem dX0_served_15 : decode mX0_served.2.1 15 = .ok (.aload_n 0, 1) := by decide +kernel
theorem dX0_served_16 : decode mX0_served.2.1 16 = .ok (.getfield 18, 3) := by decide +kernel
theorem dX0_served_19 : decode mX0_served.2.1 19 = .ok (.if_icmp .ge 28, 3) := by decide +kernel
theorem dX0_served_22 : decode mX0_served.2.1 22 = .ok (.aload_n 0, 1) := by decide +kernel
theorem dX0_served_23 : decode mX0_served.2.1 23 = .ok (.iconst 0, 1) := by decide +kernel
theorem dX0_served_24 : decode mX0_served.2.1 24 = .ok (.putfield 53, 3) := by decide +kernel
theorem dX0_served_27 : decode mX0_served.2.1 27 = .ok (.aload_n 0, 1) := by decide +kernel
theorem dX0_served_28 : decode mX0_served.2.1 28 = .ok (.iload 4, 2) := by decide +kernel
theorem dX0_served_30 : decode mX0_served.2.1 30 = .ok (.iload_n 2, 1) := by decide +kernel
theorem dX0_served_31 : decode mX0_served.2.1 31 = .ok (.iconst 0, 1) := by decide +kernel
theorem dX0_served_32 : decode mX0_served.2.1 32 = .ok (.invokevirtual 56, 3) := by decide +kernel
theorem dX0_served_35 : decode mX0_served.2.1 35 = .ok (.ifCond .eq 6, 3) := by decide +kernel
theorem dX0_served_38 : decode mX0_served.2.1 38 = .ok (.iinc 3 1, 3) := by decide +kernel
theorem dX0_served_41 : decode mX0_served.2.1 41 = .ok (.iinc 4 1, 3) := by decide +kernel
theorem dX0_served_44 : decode mX0_served.2.1 44 = .ok (.goto (-31), 3) := by decide +kernel
theorem dX0_served_47 : decode mX0_served.2.1 47 = .ok (.iload_n 3, 1) := by decide +kernel
theorem dX0_served_48 : decode mX0_served.2.1 48 = .ok (.ireturn, 1) := by decide +kernel
theorem dX0_finds_0 : decode mX0_finds.2.1 0 = .ok (.iload_n 3, 1) := by decide +kernel
theorem dX0_finds_1 : decode mX0_finds.2.1 1 = .ok (.bipush 8, 2) := by decide +kernel
theorem dX0_finds_3 : decode mX0_finds.2.1 3 = .ok (.if_icmp .gt 15, 3) := by decide +kernel
theorem dX0_finds_6 : decode mX0_finds.2.1 6 = .ok (.iload_n 1, 1) := by decide +kernel
theorem dX0_finds_7 : decode mX0_finds.2.1 7 = .ok (.ifCond .lt 11, 3) := by decide +kernel
theorem dX0_finds_10 : decode mX0_finds.2.1 10 = .ok (.iload_n 1, 1) := by decide +kernel
theorem dX0_finds_11 : decode mX0_finds.2.1 11 = .ok (.aload_n 0, 1) := by decide +kernel
theorem dX0_finds_12 : decode mX0_finds.2.1 12 = .ok (.getfield 18, 3) := by decide +kernel
theorem dX0_finds_15 : decode mX0_finds.2.1 15 = .ok (.if_icmp .lt 5, 3) := by decide +kernel
theorem dX0_finds_18 : decode mX0_finds.2.1 18 = .ok (.iconst 0, 1) := by decide +kernel
theorem dX0_finds_19 : decode mX0_finds.2.1 19 = .ok (.ireturn, 1) := by decide +kernel
theorem dX0_finds_20 : decode mX0_finds.2.1 20 = .ok (.iconst 0, 1) := by decide +kernel
theorem dX0_finds_21 : decode mX0_finds.2.1 21 = .ok (.istore 4, 2) := by decide +kernel
theorem dX0_finds_23 : decode mX0_finds.2.1 23 = .ok (.iload 4, 2) := by decide +kernel
theorem dX0_finds_25 : decode mX0_finds.2.1 25 = .ok (.bipush 8, 2) := by decide +kernel
theorem dX0_finds_27 : decode mX0_finds.2.1 27 = .ok (.if_icmp .ge 84, 3) := by decide +kernel
theorem dX0_finds_30 : decode mX0_finds.2.1 30 = .ok (.aload_n 0, 1) := by decide +kernel
theorem dX0_finds_31 : decode mX0_finds.2.1 31 = .ok (.getfield 9, 3) := by decide +kernel
theorem dX0_finds_34 : decode mX0_finds.2.1 34 = .ok (.iload_n 1, 1) := by decide +kernel
theorem dX0_finds_35 : decode mX0_finds.2.1 35 = .ok (.iaload, 1) := by decide +kernel
theorem dX0_finds_36 : decode mX0_finds.2.1 36 = .ok (.iload_n 2, 1) := by decide +kernel
theorem dX0_finds_37 : decode mX0_finds.2.1 37 = .ok (.iand, 1) := by decide +kernel
theorem dX0_finds_38 : decode mX0_finds.2.1 38 = .ok (.aload_n 0, 1) := by decide +kernel
theorem dX0_finds_39 : decode mX0_finds.2.1 39 = .ok (.getfield 53, 3) := by decide +kernel
theorem dX0_finds_42 : decode mX0_finds.2.1 42 = .ok (.iconst (-1), 1) := by decide +kernel
theorem dX0_finds_43 : decode mX0_finds.2.1 43 = .ok (.ixor, 1) := by decide +kernel
theorem dX0_finds_44 : decode mX0_finds.2.1 44 = .ok (.iand, 1) := by decide +kernel
theorem dX0_finds_45 : decode mX0_finds.2.1 45 = .ok (.iload 4, 2) := by decide +kernel
theorem dX0_finds_47 : decode mX0_finds.2.1 47 = .ok (.invokestatic 43, 3) := by decide +kernel
theorem dX0_finds_50 : decode mX0_finds.2.1 50 = .ok (.ifCond .eq 55, 3) := by decide +kernel
theorem dX0_finds_53 : decode mX0_finds.2.1 53 = .ok (.aload_n 0, 1) := by decide +kernel
theorem dX0_finds_54 : decode mX0_finds.2.1 54 = .ok (.dup, 1) := by decide +kernel
theorem dX0_finds_55 : decode mX0_finds.2.1 55 = .ok (.getfield 53, 3) := by decide +kernel
theorem dX0_finds_58 : decode mX0_finds.2.1 58 = .ok (.iconst 1, 1) := by decide +kernel
theorem dX0_finds_59 : decode mX0_finds.2.1 59 = .ok (.iload 4, 2) := by decide +kernel
theorem dX0_finds_61 : decode mX0_finds.2.1 61 = .ok (.ishl, 1) := by decide +kernel
theorem dX0_finds_62 : decode mX0_finds.2.1 62 = .ok (.ior, 1) := by decide +kernel
theorem dX0_finds_63 : decode mX0_finds.2.1 63 = .ok (.putfield 53, 3) := by decide +kernel
theorem dX0_finds_66 : decode mX0_finds.2.1 66 = .ok (.aload_n 0, 1) := by decide +kernel
theorem dX0_finds_67 : decode mX0_finds.2.1 67 = .ok (.getfield 15, 3) := by decide +kernel
theorem dX0_finds_70 : decode mX0_finds.2.1 70 = .ok (.iload 4, 2) := by decide +kernel
theorem dX0_finds_72 : decode mX0_finds.2.1 72 = .ok (.iaload, 1) := by decide +kernel
theorem dX0_finds_73 : decode mX0_finds.2.1 73 = .ok (.iconst (-1), 1) := by decide +kernel
theorem dX0_finds_74 : decode mX0_finds.2.1 74 = .ok (.if_icmp .eq 21, 3) := by decide +kernel
theorem dX0_finds_77 : decode mX0_finds.2.1 77 = .ok (.aload_n 0, 1) := by decide +kernel
theorem dX0_finds_78 : decode mX0_finds.2.1 78 = .ok (.aload_n 0, 1) := by decide +kernel
theorem dX0_finds_79 : decode mX0_finds.2.1 79 = .ok (.getfield 15, 3) := by decide +kernel
theorem dX0_finds_82 : decode mX0_finds.2.1 82 = .ok (.iload 4, 2) := by decide +kernel
theorem dX0_finds_84 : decode mX0_finds.2.1 84 = .ok (.iaload, 1) := by decide +kernel
theorem dX0_finds_85 : decode mX0_finds.2.1 85 = .ok (.iload_n 2, 1) := by decide +kernel
theorem dX0_finds_86 : decode mX0_finds.2.1 86 = .ok (.iload_n 3, 1) := by decide +kernel
theorem dX0_finds_87 : decode mX0_finds.2.1 87 = .ok (.iconst 1, 1) := by decide +kernel
theorem dX0_finds_88 : decode mX0_finds.2.1 88 = .ok (.iadd, 1) := by decide +kernel
theorem dX0_finds_89 : decode mX0_finds.2.1 89 = .ok (.invokevirtual 56, 3) := by decide +kernel
theorem dX0_finds_92 : decode mX0_finds.2.1 92 = .ok (.ifCond .eq 13, 3) := by decide +kernel
theorem dX0_finds_95 : decode mX0_finds.2.1 95 = .ok (.aload_n 0, 1) := by decide +kernel
theorem dX0_finds_96 : decode mX0_finds.2.1 96 = .ok (.getfield 15, 3) := by decide +kernel
theorem dX0_finds_99 : decode mX0_finds.2.1 99 = .ok (.iload 4, 2) := by decide +kernel
theorem dX0_finds_101 : decode mX0_finds.2.1 101 = .ok (.iload_n 1, 1) := by decide +kernel
theorem dX0_finds_102 : decode mX0_finds.2.1 102 = .ok (.iastore, 1) := by decide +kernel
theorem dX0_finds_103 : decode mX0_finds.2.1 103 = .ok (.iconst 1, 1) := by decide +kernel
theorem dX0_finds_104 : decode mX0_finds.2.1 104 = .ok (.ireturn, 1) := by decide +kernel
theorem dX0_finds_105 : decode mX0_finds.2.1 105 = .ok (.iinc 4 1, 3) := by decide +kernel
theorem dX0_finds_108 : decode mX0_finds.2.1 108 = .ok (.goto (-85), 3) := by decide +kernel
theorem dX0_finds_111 : decode mX0_finds.2.1 111 = .ok (.iconst 0, 1) := by decide +kernel
theorem dX0_finds_112 : decode mX0_finds.2.1 112 = .ok (.ireturn, 1) := by decide +kernel
theorem dX1_init_0 : decode mX1_init.2.1 0 = .ok (.aload_n 0, 1) := by decide +kernel
theorem dX1_init_1 : decode mX1_init.2.1 1 = .ok (.invokespecial 3, 3) := by decide +kernel
theorem dX1_init_4 : decode mX1_init.2.1 4 = .ok (.aload_n 0, 1) := by decide +kernel
theorem dX1_init_5 : decode mX1_init.2.1 5 = .ok (.bipush 8, 2) := by decide +kernel
theorem dX1_init_7 : decode mX1_init.2.1 7 = .ok (.newarray .int, 2) := by decide +kernel
theorem dX1_init_9 : decode mX1_init.2.1 9 = .ok (.putfield 9, 3) := by decide +kernel
theorem dX1_init_12 : decode mX1_init.2.1 12 = .ok (.aload_n 0, 1) := by decide +kernel
theorem dX1_init_13 : decode mX1_init.2.1 13 = .ok (.bipush 8, 2) := by decide +kernel
theorem dX1_init_15 : decode mX1_init.2.1 15 = .ok (.newarray .int, 2) := by decide +kernel
theorem dX1_init_17 : decode mX1_init.2.1 17 = .ok (.putfield 15, 3) := by decide +kernel
theorem dX1_init_20 : decode mX1_init.2.1 20 = .ok (.aload_n 0, 1) := by decide +kernel
theorem dX1_init_21 : decode mX1_init.2.1 21 = .ok (.bipush 8, 2) := by decide +kernel
theorem dX1_init_23 : decode mX1_init.2.1 23 = .ok (.newarray .int, 2) := by decide +kernel
theorem dX1_init_25 : decode mX1_init.2.1 25 = .ok (.putfield 18, 3) := by decide +kernel
theorem dX1_init_28 : decode mX1_init.2.1 28 = .ok (.return_, 1) := by decide +kernel
theorem dX1_clear_0 : decode mX1_clear.2.1 0 = .ok (.aload_n 0, 1) := by decide +kernel
theorem dX1_clear_1 : decode mX1_clear.2.1 1 = .ok (.iconst 0, 1) := by decide +kernel
theorem dX1_clear_2 : decode mX1_clear.2.1 2 = .ok (.putfield 21, 3) := by decide +kernel
theorem dX1_clear_5 : decode mX1_clear.2.1 5 = .ok (.aload_n 0, 1) := by decide +kernel
theorem dX1_clear_6 : decode mX1_clear.2.1 6 = .ok (.iconst 0, 1) := by decide +kernel
theorem dX1_clear_7 : decode mX1_clear.2.1 7 = .ok (.putfield 25, 3) := by decide +kernel
theorem dX1_clear_10 : decode mX1_clear.2.1 10 = .ok (.return_, 1) := by decide +kernel
theorem dX1_isBroken_0 : decode mX1_isBroken.2.1 0 = .ok (.aload_n 0, 1) := by decide +kernel
theorem dX1_isBroken_1 : decode mX1_isBroken.2.1 1 = .ok (.getfield 21, 3) := by decide +kernel
theorem dX1_isBroken_4 : decode mX1_isBroken.2.1 4 = .ok (.iload_n 1, 1) := by decide +kernel
theorem dX1_isBroken_5 : decode mX1_isBroken.2.1 5 = .ok (.invokestatic 28, 3) := by decide +kernel
theorem dX1_isBroken_8 : decode mX1_isBroken.2.1 8 = .ok (.ireturn, 1) := by decide +kernel
theorem dX1_copy_0 : decode mX1_copy.2.1 0 = .ok (.aload_n 1, 1) := by decide +kernel
theorem dX1_copy_1 : decode mX1_copy.2.1 1 = .ok (.getfield 9, 3) := by decide +kernel
theorem dX1_copy_4 : decode mX1_copy.2.1 4 = .ok (.iconst 0, 1) := by decide +kernel
theorem dX1_copy_5 : decode mX1_copy.2.1 5 = .ok (.aload_n 0, 1) := by decide +kernel
theorem dX1_copy_6 : decode mX1_copy.2.1 6 = .ok (.getfield 9, 3) := by decide +kernel
theorem dX1_copy_9 : decode mX1_copy.2.1 9 = .ok (.iconst 0, 1) := by decide +kernel
theorem dX1_copy_10 : decode mX1_copy.2.1 10 = .ok (.bipush 8, 2) := by decide +kernel
theorem dX1_copy_12 : decode mX1_copy.2.1 12 = .ok (.invokestatic 32, 3) := by decide +kernel
theorem dX1_copy_15 : decode mX1_copy.2.1 15 = .ok (.aload_n 1, 1) := by decide +kernel
theorem dX1_copy_16 : decode mX1_copy.2.1 16 = .ok (.getfield 15, 3) := by decide +kernel
theorem dX1_copy_19 : decode mX1_copy.2.1 19 = .ok (.iconst 0, 1) := by decide +kernel
theorem dX1_copy_20 : decode mX1_copy.2.1 20 = .ok (.aload_n 0, 1) := by decide +kernel
theorem dX1_copy_21 : decode mX1_copy.2.1 21 = .ok (.getfield 15, 3) := by decide +kernel
theorem dX1_copy_24 : decode mX1_copy.2.1 24 = .ok (.iconst 0, 1) := by decide +kernel
theorem dX1_copy_25 : decode mX1_copy.2.1 25 = .ok (.bipush 8, 2) := by decide +kernel
theorem dX1_copy_27 : decode mX1_copy.2.1 27 = .ok (.invokestatic 32, 3) := by decide +kernel
theorem dX1_copy_30 : decode mX1_copy.2.1 30 = .ok (.aload_n 1, 1) := by decide +kernel
theorem dX1_copy_31 : decode mX1_copy.2.1 31 = .ok (.getfield 18, 3) := by decide +kernel
theorem dX1_copy_34 : decode mX1_copy.2.1 34 = .ok (.iconst 0, 1) := by decide +kernel
theorem dX1_copy_35 : decode mX1_copy.2.1 35 = .ok (.aload_n 0, 1) := by decide +kernel
theorem dX1_copy_36 : decode mX1_copy.2.1 36 = .ok (.getfield 18, 3) := by decide +kernel
theorem dX1_copy_39 : decode mX1_copy.2.1 39 = .ok (.iconst 0, 1) := by decide +kernel
theorem dX1_copy_40 : decode mX1_copy.2.1 40 = .ok (.bipush 8, 2) := by decide +kernel
theorem dX1_copy_42 : decode mX1_copy.2.1 42 = .ok (.invokestatic 32, 3) := by decide +kernel
theorem dX1_copy_45 : decode mX1_copy.2.1 45 = .ok (.aload_n 0, 1) := by decide +kernel
theorem dX1_copy_46 : decode mX1_copy.2.1 46 = .ok (.aload_n 1, 1) := by decide +kernel
theorem dX1_copy_47 : decode mX1_copy.2.1 47 = .ok (.getfield 21, 3) := by decide +kernel
theorem dX1_copy_50 : decode mX1_copy.2.1 50 = .ok (.putfield 21, 3) := by decide +kernel
theorem dX1_copy_53 : decode mX1_copy.2.1 53 = .ok (.aload_n 0, 1) := by decide +kernel
theorem dX1_copy_54 : decode mX1_copy.2.1 54 = .ok (.aload_n 1, 1) := by decide +kernel
theorem dX1_copy_55 : decode mX1_copy.2.1 55 = .ok (.getfield 25, 3) := by decide +kernel
theorem dX1_copy_58 : decode mX1_copy.2.1 58 = .ok (.putfield 25, 3) := by decide +kernel
theorem dX1_copy_61 : decode mX1_copy.2.1 61 = .ok (.return_, 1) := by decide +kernel
theorem dX1_write_0 : decode mX1_write.2.1 0 = .ok (.iload_n 2, 1) := by decide +kernel
theorem dX1_write_1 : decode mX1_write.2.1 1 = .ok (.bipush 26, 2) := by decide +kernel
theorem dX1_write_3 : decode mX1_write.2.1 3 = .ok (.imul, 1) := by decide +kernel
theorem dX1_write_4 : decode mX1_write.2.1 4 = .ok (.istore_n 3, 1) := by decide +kernel
theorem dX1_write_5 : decode mX1_write.2.1 5 = .ok (.iload_n 3, 1) := by decide +kernel
theorem dX1_write_6 : decode mX1_write.2.1 6 = .ok (.ifCond .lt 12, 3) := by decide +kernel
theorem dX1_write_9 : decode mX1_write.2.1 9 = .ok (.iload_n 3, 1) := by decide +kernel
theorem dX1_write_10 : decode mX1_write.2.1 10 = .ok (.aload_n 1, 1) := by decide +kernel
theorem dX1_write_11 : decode mX1_write.2.1 11 = .ok (.arraylength, 1) := by decide +kernel
theorem dX1_write_12 : decode mX1_write.2.1 12 = .ok (.bipush 26, 2) := by decide +kernel
theorem dX1_write_14 : decode mX1_write.2.1 14 = .ok (.isub, 1) := by decide +kernel
theorem dX1_write_15 : decode mX1_write.2.1 15 = .ok (.if_icmp .le 4, 3) := by decide +kernel
theorem dX1_write_18 : decode mX1_write.2.1 18 = .ok (.return_, 1) := by decide +kernel
theorem dX1_write_19 : decode mX1_write.2.1 19 = .ok (.aload_n 0, 1) := by decide +kernel
theorem dX1_write_20 : decode mX1_write.2.1 20 = .ok (.getfield 9, 3) := by decide +kernel
theorem dX1_write_23 : decode mX1_write.2.1 23 = .ok (.iconst 0, 1) := by decide +kernel
theorem dX1_write_24 : decode mX1_write.2.1 24 = .ok (.aload_n 1, 1) := by decide +kernel
theorem dX1_write_25 : decode mX1_write.2.1 25 = .ok (.iload_n 3, 1) := by decide +kernel
theorem dX1_write_26 : decode mX1_write.2.1 26 = .ok (.bipush 8, 2) := by decide +kernel
theorem dX1_write_28 : decode mX1_write.2.1 28 = .ok (.invokestatic 32, 3) := by decide +kernel
theorem dX1_write_31 : decode mX1_write.2.1 31 = .ok (.aload_n 0, 1) := by decide +kernel
theorem dX1_write_32 : decode mX1_write.2.1 32 = .ok (.getfield 15, 3) := by decide +kernel
theorem dX1_write_35 : decode mX1_write.2.1 35 = .ok (.iconst 0, 1) := by decide +kernel
theorem dX1_write_36 : decode mX1_write.2.1 36 = .ok (.aload_n 1, 1) := by decide +kernel
theorem dX1_write_37 : decode mX1_write.2.1 37 = .ok (.iload_n 3, 1) := by decide +kernel
theorem dX1_write_38 : decode mX1_write.2.1 38 = .ok (.bipush 8, 2) := by decide +kernel
theorem dX1_write_40 : decode mX1_write.2.1 40 = .ok (.iadd, 1) := by decide +kernel
theorem dX1_write_41 : decode mX1_write.2.1 41 = .ok (.bipush 8, 2) := by decide +kernel
theorem dX1_write_43 : decode mX1_write.2.1 43 = .ok (.invokestatic 32, 3) := by decide +kernel
theorem dX1_write_46 : decode mX1_write.2.1 46 = .ok (.aload_n 0, 1) := by decide +kernel
theorem dX1_write_47 : decode mX1_write.2.1 47 = .ok (.getfield 18, 3) := by decide +kernel
theorem dX1_write_50 : decode mX1_write.2.1 50 = .ok (.iconst 0, 1) := by decide +kernel
theorem dX1_write_51 : decode mX1_write.2.1 51 = .ok (.aload_n 1, 1) := by decide +kernel
theorem dX1_write_52 : decode mX1_write.2.1 52 = .ok (.iload_n 3, 1) := by decide +kernel
theorem dX1_write_53 : decode mX1_write.2.1 53 = .ok (.bipush 16, 2) := by decide +kernel
theorem dX1_write_55 : decode mX1_write.2.1 55 = .ok (.iadd, 1) := by decide +kernel
theorem dX1_write_56 : decode mX1_write.2.1 56 = .ok (.bipush 8, 2) := by decide +kernel
theorem dX1_write_58 : decode mX1_write.2.1 58 = .ok (.invokestatic 32, 3) := by decide +kernel
theorem dX1_write_61 : decode mX1_write.2.1 61 = .ok (.aload_n 1, 1) := by decide +kernel
theorem dX1_write_62 : decode mX1_write.2.1 62 = .ok (.iload_n 3, 1) := by decide +kernel
theorem dX1_write_63 : decode mX1_write.2.1 63 = .ok (.bipush 26, 2) := by decide +kernel
theorem dX1_write_65 : decode mX1_write.2.1 65 = .ok (.iadd, 1) := by decide +kernel
theorem dX1_write_66 : decode mX1_write.2.1 66 = .ok (.iconst 2, 1) := by decide +kernel
theorem dX1_write_67 : decode mX1_write.2.1 67 = .ok (.isub, 1) := by decide +kernel
theorem dX1_write_68 : decode mX1_write.2.1 68 = .ok (.aload_n 0, 1) := by decide +kernel
theorem dX1_write_69 : decode mX1_write.2.1 69 = .ok (.getfield 21, 3) := by decide +kernel
theorem dX1_write_72 : decode mX1_write.2.1 72 = .ok (.iastore, 1) := by decide +kernel
theorem dX1_write_73 : decode mX1_write.2.1 73 = .ok (.aload_n 1, 1) := by decide +kernel
theorem dX1_write_74 : decode mX1_write.2.1 74 = .ok (.iload_n 3, 1) := by decide +kernel
theorem dX1_write_75 : decode mX1_write.2.1 75 = .ok (.bipush 26, 2) := by decide +kernel
theorem dX1_write_77 : decode mX1_write.2.1 77 = .ok (.iadd, 1) := by decide +kernel
theorem dX1_write_78 : decode mX1_write.2.1 78 = .ok (.iconst 1, 1) := by decide +kernel
theorem dX1_write_79 : decode mX1_write.2.1 79 = .ok (.isub, 1) := by decide +kernel
theorem dX1_write_80 : decode mX1_write.2.1 80 = .ok (.aload_n 0, 1) := by decide +kernel
theorem dX1_write_81 : decode mX1_write.2.1 81 = .ok (.getfield 25, 3) := by decide +kernel
theorem dX1_write_84 : decode mX1_write.2.1 84 = .ok (.iastore, 1) := by decide +kernel
theorem dX1_write_85 : decode mX1_write.2.1 85 = .ok (.return_, 1) := by decide +kernel
theorem dX1_read_0 : decode mX1_read.2.1 0 = .ok (.iload_n 2, 1) := by decide +kernel
theorem dX1_read_1 : decode mX1_read.2.1 1 = .ok (.bipush 26, 2) := by decide +kernel
theorem dX1_read_3 : decode mX1_read.2.1 3 = .ok (.imul, 1) := by decide +kernel
theorem dX1_read_4 : decode mX1_read.2.1 4 = .ok (.istore_n 3, 1) := by decide +kernel
theorem dX1_read_5 : decode mX1_read.2.1 5 = .ok (.iload_n 3, 1) := by decide +kernel
theorem dX1_read_6 : decode mX1_read.2.1 6 = .ok (.ifCond .lt 12, 3) := by decide +kernel
theorem dX1_read_9 : decode mX1_read.2.1 9 = .ok (.iload_n 3, 1) := by decide +kernel
theorem dX1_read_10 : decode mX1_read.2.1 10 = .ok (.aload_n 1, 1) := by decide +kernel
theorem dX1_read_11 : decode mX1_read.2.1 11 = .ok (.arraylength, 1) := by decide +kernel
theorem dX1_read_12 : decode mX1_read.2.1 12 = .ok (.bipush 26, 2) := by decide +kernel
theorem dX1_read_14 : decode mX1_read.2.1 14 = .ok (.isub, 1) := by decide +kernel
theorem dX1_read_15 : decode mX1_read.2.1 15 = .ok (.if_icmp .le 4, 3) := by decide +kernel
theorem dX1_read_18 : decode mX1_read.2.1 18 = .ok (.return_, 1) := by decide +kernel
theorem dX1_read_19 : decode mX1_read.2.1 19 = .ok (.aload_n 1, 1) := by decide +kernel
theorem dX1_read_20 : decode mX1_read.2.1 20 = .ok (.iload_n 3, 1) := by decide +kernel
theorem dX1_read_21 : decode mX1_read.2.1 21 = .ok (.aload_n 0, 1) := by decide +kernel
theorem dX1_read_22 : decode mX1_read.2.1 22 = .ok (.getfield 9, 3) := by decide +kernel
theorem dX1_read_25 : decode mX1_read.2.1 25 = .ok (.iconst 0, 1) := by decide +kernel
theorem dX1_read_26 : decode mX1_read.2.1 26 = .ok (.bipush 8, 2) := by decide +kernel
theorem dX1_read_28 : decode mX1_read.2.1 28 = .ok (.invokestatic 32, 3) := by decide +kernel
theorem dX1_read_31 : decode mX1_read.2.1 31 = .ok (.aload_n 1, 1) := by decide +kernel
theorem dX1_read_32 : decode mX1_read.2.1 32 = .ok (.iload_n 3, 1) := by decide +kernel
theorem dX1_read_33 : decode mX1_read.2.1 33 = .ok (.bipush 8, 2) := by decide +kernel
theorem dX1_read_35 : decode mX1_read.2.1 35 = .ok (.iadd, 1) := by decide +kernel
theorem dX1_read_36 : decode mX1_read.2.1 36 = .ok (.aload_n 0, 1) := by decide +kernel
theorem dX1_read_37 : decode mX1_read.2.1 37 = .ok (.getfield 15, 3) := by decide +kernel
theorem dX1_read_40 : decode mX1_read.2.1 40 = .ok (.iconst 0, 1) := by decide +kernel
theorem dX1_read_41 : decode mX1_read.2.1 41 = .ok (.bipush 8, 2) := by decide +kernel
theorem dX1_read_43 : decode mX1_read.2.1 43 = .ok (.invokestatic 32, 3) := by decide +kernel
theorem dX1_read_46 : decode mX1_read.2.1 46 = .ok (.aload_n 1, 1) := by decide +kernel
theorem dX1_read_47 : decode mX1_read.2.1 47 = .ok (.iload_n 3, 1) := by decide +kernel
theorem dX1_read_48 : decode mX1_read.2.1 48 = .ok (.bipush 16, 2) := by decide +kernel
theorem dX1_read_50 : decode mX1_read.2.1 50 = .ok (.iadd, 1) := by decide +kernel
theorem dX1_read_51 : decode mX1_read.2.1 51 = .ok (.aload_n 0, 1) := by decide +kernel
theorem dX1_read_52 : decode mX1_read.2.1 52 = .ok (.getfield 18, 3) := by decide +kernel
theorem dX1_read_55 : decode mX1_read.2.1 55 = .ok (.iconst 0, 1) := by decide +kernel
theorem dX1_read_56 : decode mX1_read.2.1 56 = .ok (.bipush 8, 2) := by decide +kernel
theorem dX1_read_58 : decode mX1_read.2.1 58 = .ok (.invokestatic 32, 3) := by decide +kernel
theorem dX1_read_61 : decode mX1_read.2.1 61 = .ok (.aload_n 0, 1) := by decide +kernel
theorem dX1_read_62 : decode mX1_read.2.1 62 = .ok (.aload_n 1, 1) := by decide +kernel
theorem dX1_read_63 : decode mX1_read.2.1 63 = .ok (.iload_n 3, 1) := by decide +kernel
theorem dX1_read_64 : decode mX1_read.2.1 64 = .ok (.bipush 26, 2) := by decide +kernel
theorem dX1_read_66 : decode mX1_read.2.1 66 = .ok (.iadd, 1) := by decide +kernel
theorem dX1_read_67 : decode mX1_read.2.1 67 = .ok (.iconst 2, 1) := by decide +kernel
theorem dX1_read_68 : decode mX1_read.2.1 68 = .ok (.isub, 1) := by decide +kernel
theorem dX1_read_69 : decode mX1_read.2.1 69 = .ok (.iaload, 1) := by decide +kernel
theorem dX1_read_70 : decode mX1_read.2.1 70 = .ok (.putfield 21, 3) := by decide +kernel
theorem dX1_read_73 : decode mX1_read.2.1 73 = .ok (.aload_n 0, 1) := by decide +kernel
theorem dX1_read_74 : decode mX1_read.2.1 74 = .ok (.aload_n 1, 1) := by decide +kernel
theorem dX1_read_75 : decode mX1_read.2.1 75 = .ok (.iload_n 3, 1) := by decide +kernel
theorem dX1_read_76 : decode mX1_read.2.1 76 = .ok (.bipush 26, 2) := by decide +kernel
theorem dX1_read_78 : decode mX1_read.2.1 78 = .ok (.iadd, 1) := by decide +kernel
theorem dX1_read_79 : decode mX1_read.2.1 79 = .ok (.iconst 1, 1) := by decide +kernel
theorem dX1_read_80 : decode mX1_read.2.1 80 = .ok (.isub, 1) := by decide +kernel
theorem dX1_read_81 : decode mX1_read.2.1 81 = .ok (.iaload, 1) := by decide +kernel
theorem dX1_read_82 : decode mX1_read.2.1 82 = .ok (.putfield 25, 3) := by decide +kernel
theorem dX1_read_85 : decode mX1_read.2.1 85 = .ok (.return_, 1) := by decide +kernel
theorem dX2_init_0 : decode mX2_init.2.1 0 = .ok (.aload_n 0, 1) := by decide +kernel
theorem dX2_init_1 : decode mX2_init.2.1 1 = .ok (.invokespecial 3, 3) := by decide +kernel
theorem dX2_init_4 : decode mX2_init.2.1 4 = .ok (.aload_n 0, 1) := by decide +kernel
theorem dX2_init_5 : decode mX2_init.2.1 5 = .ok (.bipush 36, 2) := by decide +kernel
theorem dX2_init_7 : decode mX2_init.2.1 7 = .ok (.newarray .long, 2) := by decide +kernel
theorem dX2_init_9 : decode mX2_init.2.1 9 = .ok (.putfield 9, 3) := by decide +kernel
theorem dX2_init_12 : decode mX2_init.2.1 12 = .ok (.return_, 1) := by decide +kernel
theorem dX2_clear_0 : decode mX2_clear.2.1 0 = .ok (.aload_n 0, 1) := by decide +kernel
theorem dX2_clear_1 : decode mX2_clear.2.1 1 = .ok (.iconst 0, 1) := by decide +kernel
theorem dX2_clear_2 : decode mX2_clear.2.1 2 = .ok (.putfield 15, 3) := by decide +kernel
theorem dX2_clear_5 : decode mX2_clear.2.1 5 = .ok (.return_, 1) := by decide +kernel
theorem dX2_add_0 : decode mX2_add.2.1 0 = .ok (.aload_n 0, 1) := by decide +kernel
theorem dX2_add_1 : decode mX2_add.2.1 1 = .ok (.getfield 15, 3) := by decide +kernel
theorem dX2_add_4 : decode mX2_add.2.1 4 = .ok (.bipush 36, 2) := by decide +kernel
theorem dX2_add_6 : decode mX2_add.2.1 6 = .ok (.if_icmp .ge 23, 3) := by decide +kernel
theorem dX2_add_9 : decode mX2_add.2.1 9 = .ok (.aload_n 0, 1) := by decide +kernel
theorem dX2_add_10 : decode mX2_add.2.1 10 = .ok (.getfield 9, 3) := by decide +kernel
theorem dX2_add_13 : decode mX2_add.2.1 13 = .ok (.aload_n 0, 1) := by decide +kernel
theorem dX2_add_14 : decode mX2_add.2.1 14 = .ok (.getfield 15, 3) := by decide +kernel
theorem dX2_add_17 : decode mX2_add.2.1 17 = .ok (.lload_n 1, 1) := by decide +kernel
theorem dX2_add_18 : decode mX2_add.2.1 18 = .ok (.lastore, 1) := by decide +kernel
theorem dX2_add_19 : decode mX2_add.2.1 19 = .ok (.aload_n 0, 1) := by decide +kernel
theorem dX2_add_20 : decode mX2_add.2.1 20 = .ok (.dup, 1) := by decide +kernel
theorem dX2_add_21 : decode mX2_add.2.1 21 = .ok (.getfield 15, 3) := by decide +kernel
theorem dX2_add_24 : decode mX2_add.2.1 24 = .ok (.iconst 1, 1) := by decide +kernel
theorem dX2_add_25 : decode mX2_add.2.1 25 = .ok (.iadd, 1) := by decide +kernel
theorem dX2_add_26 : decode mX2_add.2.1 26 = .ok (.putfield 15, 3) := by decide +kernel
theorem dX2_add_29 : decode mX2_add.2.1 29 = .ok (.return_, 1) := by decide +kernel
theorem dX2_join_0 : decode mX2_join.2.1 0 = .ok (.iload_n 1, 1) := by decide +kernel
theorem dX2_join_1 : decode mX2_join.2.1 1 = .ok (.ifCond .lt 21, 3) := by decide +kernel
theorem dX2_join_4 : decode mX2_join.2.1 4 = .ok (.iload_n 1, 1) := by decide +kernel
theorem dX2_join_5 : decode mX2_join.2.1 5 = .ok (.aload_n 0, 1) := by decide +kernel
theorem dX2_join_6 : decode mX2_join.2.1 6 = .ok (.getfield 15, 3) := by decide +kernel
theorem dX2_join_9 : decode mX2_join.2.1 9 = .ok (.if_icmp .ge 13, 3) := by decide +kernel
theorem dX2_join_12 : decode mX2_join.2.1 12 = .ok (.aload_n 0, 1) := by decide +kernel
theorem dX2_join_13 : decode mX2_join.2.1 13 = .ok (.getfield 9, 3) := by decide +kernel
theorem dX2_join_16 : decode mX2_join.2.1 16 = .ok (.iload_n 1, 1) := by decide +kernel
theorem dX2_join_17 : decode mX2_join.2.1 17 = .ok (.dup2, 1) := by decide +kernel
theorem dX2_join_18 : decode mX2_join.2.1 18 = .ok (.laload, 1) := by decide +kernel
theorem dX2_join_19 : decode mX2_join.2.1 19 = .ok (.lload_n 2, 1) := by decide +kernel
theorem dX2_join_20 : decode mX2_join.2.1 20 = .ok (.lor, 1) := by decide +kernel
theorem dX2_join_21 : decode mX2_join.2.1 21 = .ok (.lastore, 1) := by decide +kernel
theorem dX2_join_22 : decode mX2_join.2.1 22 = .ok (.return_, 1) := by decide +kernel
theorem dX2_tellOne_0 : decode mX2_tellOne.2.1 0 = .ok (.aload_n 0, 1) := by decide +kernel
theorem dX2_tellOne_1 : decode mX2_tellOne.2.1 1 = .ok (.invokevirtual 19, 3) := by decide +kernel
theorem dX2_tellOne_4 : decode mX2_tellOne.2.1 4 = .ok (.aload_n 0, 1) := by decide +kernel
theorem dX2_tellOne_5 : decode mX2_tellOne.2.1 5 = .ok (.lload_n 1, 1) := by decide +kernel
theorem dX2_tellOne_6 : decode mX2_tellOne.2.1 6 = .ok (.invokevirtual 22, 3) := by decide +kernel
theorem dX2_tellOne_9 : decode mX2_tellOne.2.1 9 = .ok (.return_, 1) := by decide +kernel
theorem dX2_tellTwo_0 : decode mX2_tellTwo.2.1 0 = .ok (.aload_n 0, 1) := by decide +kernel
theorem dX2_tellTwo_1 : decode mX2_tellTwo.2.1 1 = .ok (.invokevirtual 19, 3) := by decide +kernel
theorem dX2_tellTwo_4 : decode mX2_tellTwo.2.1 4 = .ok (.aload_n 0, 1) := by decide +kernel
theorem dX2_tellTwo_5 : decode mX2_tellTwo.2.1 5 = .ok (.lload_n 1, 1) := by decide +kernel
theorem dX2_tellTwo_6 : decode mX2_tellTwo.2.1 6 = .ok (.invokevirtual 22, 3) := by decide +kernel
theorem dX2_tellTwo_9 : decode mX2_tellTwo.2.1 9 = .ok (.aload_n 0, 1) := by decide +kernel
theorem dX2_tellTwo_10 : decode mX2_tellTwo.2.1 10 = .ok (.lload_n 3, 1) := by decide +kernel
theorem dX2_tellTwo_11 : decode mX2_tellTwo.2.1 11 = .ok (.invokevirtual 22, 3) := by decide +kernel
theorem dX2_tellTwo_14 : decode mX2_tellTwo.2.1 14 = .ok (.return_, 1) := by decide +kernel
theorem dX3_init_0 : decode mX3_init.2.1 0 = .ok (.aload_n 0, 1) := by decide +kernel
theorem dX3_init_1 : decode mX3_init.2.1 1 = .ok (.invokespecial 3, 3) := by decide +kernel
theorem dX3_init_4 : decode mX3_init.2.1 4 = .ok (.aload_n 0, 1) := by decide +kernel
theorem dX3_init_5 : decode mX3_init.2.1 5 = .ok (.bipush 8, 2) := by decide +kernel
theorem dX3_init_7 : decode mX3_init.2.1 7 = .ok (.newarray .int, 2) := by decide +kernel
theorem dX3_init_9 : decode mX3_init.2.1 9 = .ok (.putfield 9, 3) := by decide +kernel
theorem dX3_init_12 : decode mX3_init.2.1 12 = .ok (.return_, 1) := by decide +kernel
theorem dX3_clear_0 : decode mX3_clear.2.1 0 = .ok (.aload_n 0, 1) := by decide +kernel
theorem dX3_clear_1 : decode mX3_clear.2.1 1 = .ok (.iconst 0, 1) := by decide +kernel
theorem dX3_clear_2 : decode mX3_clear.2.1 2 = .ok (.putfield 15, 3) := by decide +kernel
theorem dX3_clear_5 : decode mX3_clear.2.1 5 = .ok (.return_, 1) := by decide +kernel
theorem dX3_add_0 : decode mX3_add.2.1 0 = .ok (.aload_n 0, 1) := by decide +kernel
theorem dX3_add_1 : decode mX3_add.2.1 1 = .ok (.getfield 15, 3) := by decide +kernel
theorem dX3_add_4 : decode mX3_add.2.1 4 = .ok (.bipush 8, 2) := by decide +kernel
theorem dX3_add_6 : decode mX3_add.2.1 6 = .ok (.if_icmp .ge 23, 3) := by decide +kernel
theorem dX3_add_9 : decode mX3_add.2.1 9 = .ok (.aload_n 0, 1) := by decide +kernel
theorem dX3_add_10 : decode mX3_add.2.1 10 = .ok (.getfield 9, 3) := by decide +kernel
theorem dX3_add_13 : decode mX3_add.2.1 13 = .ok (.aload_n 0, 1) := by decide +kernel
theorem dX3_add_14 : decode mX3_add.2.1 14 = .ok (.getfield 15, 3) := by decide +kernel
theorem dX3_add_17 : decode mX3_add.2.1 17 = .ok (.iload_n 1, 1) := by decide +kernel
theorem dX3_add_18 : decode mX3_add.2.1 18 = .ok (.iastore, 1) := by decide +kernel
theorem dX3_add_19 : decode mX3_add.2.1 19 = .ok (.aload_n 0, 1) := by decide +kernel
theorem dX3_add_20 : decode mX3_add.2.1 20 = .ok (.dup, 1) := by decide +kernel
theorem dX3_add_21 : decode mX3_add.2.1 21 = .ok (.getfield 15, 3) := by decide +kernel
theorem dX3_add_24 : decode mX3_add.2.1 24 = .ok (.iconst 1, 1) := by decide +kernel
theorem dX3_add_25 : decode mX3_add.2.1 25 = .ok (.iadd, 1) := by decide +kernel
theorem dX3_add_26 : decode mX3_add.2.1 26 = .ok (.putfield 15, 3) := by decide +kernel
theorem dX3_add_29 : decode mX3_add.2.1 29 = .ok (.return_, 1) := by decide +kernel
theorem dX3_union_0 : decode mX3_union.2.1 0 = .ok (.iconst 0, 1) := by decide +kernel
theorem dX3_union_1 : decode mX3_union.2.1 1 = .ok (.istore_n 2, 1) := by decide +kernel
theorem dX3_union_2 : decode mX3_union.2.1 2 = .ok (.iconst 0, 1) := by decide +kernel
theorem dX3_union_3 : decode mX3_union.2.1 3 = .ok (.istore_n 3, 1) := by decide +kernel
theorem dX3_union_4 : decode mX3_union.2.1 4 = .ok (.iload_n 3, 1) := by decide +kernel
theorem dX3_union_5 : decode mX3_union.2.1 5 = .ok (.aload_n 0, 1) := by decide +kernel
theorem dX3_union_6 : decode mX3_union.2.1 6 = .ok (.getfield 15, 3) := by decide +kernel
theorem dX3_union_9 : decode mX3_union.2.1 9 = .ok (.if_icmp .ge 26, 3) := by decide +kernel
theorem dX3_union_12 : decode mX3_union.2.1 12 = .ok (.iload_n 1, 1) := by decide +kernel
theorem dX3_union_13 : decode mX3_union.2.1 13 = .ok (.iload_n 3, 1) := by decide +kernel
theorem dX3_union_14 : decode mX3_union.2.1 14 = .ok (.invokestatic 19, 3) := by decide +kernel
theorem dX3_union_17 : decode mX3_union.2.1 17 = .ok (.ifCond .eq 12, 3) := by decide +kernel
theorem dX3_union_20 : decode mX3_union.2.1 20 = .ok (.iload_n 2, 1) := by decide +kernel
theorem dX3_union_21 : decode mX3_union.2.1 21 = .ok (.aload_n 0, 1) := by decide +kernel
theorem dX3_union_22 : decode mX3_union.2.1 22 = .ok (.getfield 9, 3) := by decide +kernel
theorem dX3_union_25 : decode mX3_union.2.1 25 = .ok (.iload_n 3, 1) := by decide +kernel
theorem dX3_union_26 : decode mX3_union.2.1 26 = .ok (.iaload, 1) := by decide +kernel
theorem dX3_union_27 : decode mX3_union.2.1 27 = .ok (.ior, 1) := by decide +kernel
theorem dX3_union_28 : decode mX3_union.2.1 28 = .ok (.istore_n 2, 1) := by decide +kernel
theorem dX3_union_29 : decode mX3_union.2.1 29 = .ok (.iinc 3 1, 3) := by decide +kernel
theorem dX3_union_32 : decode mX3_union.2.1 32 = .ok (.goto (-28), 3) := by decide +kernel
theorem dX3_union_35 : decode mX3_union.2.1 35 = .ok (.iload_n 2, 1) := by decide +kernel
theorem dX3_union_36 : decode mX3_union.2.1 36 = .ok (.ireturn, 1) := by decide +kernel
theorem dX3_fewest_0 : decode mX3_fewest.2.1 0 = .ok (.iconst (-1), 1) := by decide +kernel
theorem dX3_fewest_1 : decode mX3_fewest.2.1 1 = .ok (.istore_n 3, 1) := by decide +kernel
theorem dX3_fewest_2 : decode mX3_fewest.2.1 2 = .ok (.bipush 9, 2) := by decide +kernel
theorem dX3_fewest_4 : decode mX3_fewest.2.1 4 = .ok (.istore 4, 2) := by decide +kernel
theorem dX3_fewest_6 : decode mX3_fewest.2.1 6 = .ok (.iconst 0, 1) := by decide +kernel
theorem dX3_fewest_7 : decode mX3_fewest.2.1 7 = .ok (.istore 5, 2) := by decide +kernel
theorem dX3_fewest_9 : decode mX3_fewest.2.1 9 = .ok (.iload 5, 2) := by decide +kernel
theorem dX3_fewest_11 : decode mX3_fewest.2.1 11 = .ok (.aload_n 0, 1) := by decide +kernel
theorem dX3_fewest_12 : decode mX3_fewest.2.1 12 = .ok (.getfield 15, 3) := by decide +kernel
theorem dX3_fewest_15 : decode mX3_fewest.2.1 15 = .ok (.invokestatic 23, 3) := by decide +kernel
theorem dX3_fewest_18 : decode mX3_fewest.2.1 18 = .ok (.if_icmp .gt 65, 3) := by decide +kernel
theorem dX3_fewest_21 : decode mX3_fewest.2.1 21 = .ok (.aload_n 0, 1) := by decide +kernel
theorem dX3_fewest_22 : decode mX3_fewest.2.1 22 = .ok (.iload 5, 2) := by decide +kernel
theorem dX3_fewest_24 : decode mX3_fewest.2.1 24 = .ok (.invokevirtual 27, 3) := by decide +kernel
theorem dX3_fewest_27 : decode mX3_fewest.2.1 27 = .ok (.istore 6, 2) := by decide +kernel
theorem dX3_fewest_29 : decode mX3_fewest.2.1 29 = .ok (.iload_n 1, 1) := by decide +kernel
theorem dX3_fewest_30 : decode mX3_fewest.2.1 30 = .ok (.iload 6, 2) := by decide +kernel
theorem dX3_fewest_32 : decode mX3_fewest.2.1 32 = .ok (.iconst (-1), 1) := by decide +kernel
theorem dX3_fewest_33 : decode mX3_fewest.2.1 33 = .ok (.ixor, 1) := by decide +kernel
theorem dX3_fewest_34 : decode mX3_fewest.2.1 34 = .ok (.iand, 1) := by decide +kernel
theorem dX3_fewest_35 : decode mX3_fewest.2.1 35 = .ok (.ifCond .ne 14, 3) := by decide +kernel
theorem dX3_fewest_38 : decode mX3_fewest.2.1 38 = .ok (.iload_n 2, 1) := by decide +kernel
theorem dX3_fewest_39 : decode mX3_fewest.2.1 39 = .ok (.iload 6, 2) := by decide +kernel
theorem dX3_fewest_41 : decode mX3_fewest.2.1 41 = .ok (.iand, 1) := by decide +kernel
theorem dX3_fewest_42 : decode mX3_fewest.2.1 42 = .ok (.ifCond .ne 7, 3) := by decide +kernel
theorem dX3_fewest_45 : decode mX3_fewest.2.1 45 = .ok (.iconst 1, 1) := by decide +kernel
theorem dX3_fewest_46 : decode mX3_fewest.2.1 46 = .ok (.goto 4, 3) := by decide +kernel
theorem dX3_fewest_49 : decode mX3_fewest.2.1 49 = .ok (.iconst 0, 1) := by decide +kernel
theorem dX3_fewest_50 : decode mX3_fewest.2.1 50 = .ok (.istore 7, 2) := by decide +kernel
theorem dX3_fewest_52 : decode mX3_fewest.2.1 52 = .ok (.iload 7, 2) := by decide +kernel
theorem dX3_fewest_54 : decode mX3_fewest.2.1 54 = .ok (.ifCond .eq 23, 3) := by decide +kernel
theorem dX3_fewest_57 : decode mX3_fewest.2.1 57 = .ok (.iload 5, 2) := by decide +kernel
theorem dX3_fewest_59 : decode mX3_fewest.2.1 59 = .ok (.invokestatic 30, 3) := by decide +kernel
theorem dX3_fewest_62 : decode mX3_fewest.2.1 62 = .ok (.iload 4, 2) := by decide +kernel
theorem dX3_fewest_64 : decode mX3_fewest.2.1 64 = .ok (.if_icmp .ge 13, 3) := by decide +kernel
theorem dX3_fewest_67 : decode mX3_fewest.2.1 67 = .ok (.iload 5, 2) := by decide +kernel
theorem dX3_fewest_69 : decode mX3_fewest.2.1 69 = .ok (.istore_n 3, 1) := by decide +kernel
theorem dX3_fewest_70 : decode mX3_fewest.2.1 70 = .ok (.iload 5, 2) := by decide +kernel
theorem dX3_fewest_72 : decode mX3_fewest.2.1 72 = .ok (.invokestatic 30, 3) := by decide +kernel
theorem dX3_fewest_75 : decode mX3_fewest.2.1 75 = .ok (.istore 4, 2) := by decide +kernel
theorem dX3_fewest_77 : decode mX3_fewest.2.1 77 = .ok (.iinc 5 1, 3) := by decide +kernel
theorem dX3_fewest_80 : decode mX3_fewest.2.1 80 = .ok (.goto (-71), 3) := by decide +kernel
theorem dX3_fewest_83 : decode mX3_fewest.2.1 83 = .ok (.iload_n 3, 1) := by decide +kernel
theorem dX3_fewest_84 : decode mX3_fewest.2.1 84 = .ok (.ireturn, 1) := by decide +kernel
theorem dX4_init_0 : decode mX4_init.2.1 0 = .ok (.aload_n 0, 1) := by decide +kernel
theorem dX4_init_1 : decode mX4_init.2.1 1 = .ok (.invokespecial 3, 3) := by decide +kernel
theorem dX4_init_4 : decode mX4_init.2.1 4 = .ok (.aload_n 0, 1) := by decide +kernel
theorem dX4_init_5 : decode mX4_init.2.1 5 = .ok (.sipush 390, 3) := by decide +kernel
theorem dX4_init_8 : decode mX4_init.2.1 8 = .ok (.newarray .int, 2) := by decide +kernel
theorem dX4_init_10 : decode mX4_init.2.1 10 = .ok (.putfield 11, 3) := by decide +kernel
theorem dX4_init_13 : decode mX4_init.2.1 13 = .ok (.aload_n 0, 1) := by decide +kernel
theorem dX4_init_14 : decode mX4_init.2.1 14 = .ok (.bipush 78, 2) := by decide +kernel
theorem dX4_init_16 : decode mX4_init.2.1 16 = .ok (.newarray .int, 2) := by decide +kernel
theorem dX4_init_18 : decode mX4_init.2.1 18 = .ok (.putfield 17, 3) := by decide +kernel
theorem dX4_init_21 : decode mX4_init.2.1 21 = .ok (.return_, 1) := by decide +kernel
theorem dX4_forgetAll_0 : decode mX4_forgetAll.2.1 0 = .ok (.aload_n 0, 1) := by decide +kernel
theorem dX4_forgetAll_1 : decode mX4_forgetAll.2.1 1 = .ok (.iconst 0, 1) := by decide +kernel
theorem dX4_forgetAll_2 : decode mX4_forgetAll.2.1 2 = .ok (.putfield 20, 3) := by decide +kernel
theorem dX4_forgetAll_5 : decode mX4_forgetAll.2.1 5 = .ok (.aload_n 0, 1) := by decide +kernel
theorem dX4_forgetAll_6 : decode mX4_forgetAll.2.1 6 = .ok (.iconst 0, 1) := by decide +kernel
theorem dX4_forgetAll_7 : decode mX4_forgetAll.2.1 7 = .ok (.putfield 24, 3) := by decide +kernel
theorem dX4_forgetAll_10 : decode mX4_forgetAll.2.1 10 = .ok (.return_, 1) := by decide +kernel
theorem dX4_push_0 : decode mX4_push.2.1 0 = .ok (.aload_n 0, 1) := by decide +kernel
theorem dX4_push_1 : decode mX4_push.2.1 1 = .ok (.getfield 20, 3) := by decide +kernel
theorem dX4_push_4 : decode mX4_push.2.1 4 = .ok (.bipush 15, 2) := by decide +kernel
theorem dX4_push_6 : decode mX4_push.2.1 6 = .ok (.if_icmp .lt 30, 3) := by decide +kernel
theorem dX4_push_9 : decode mX4_push.2.1 9 = .ok (.aload_n 0, 1) := by decide +kernel
theorem dX4_push_10 : decode mX4_push.2.1 10 = .ok (.bipush 14, 2) := by decide +kernel
theorem dX4_push_12 : decode mX4_push.2.1 12 = .ok (.putfield 20, 3) := by decide +kernel
theorem dX4_push_15 : decode mX4_push.2.1 15 = .ok (.aload_n 0, 1) := by decide +kernel
theorem dX4_push_16 : decode mX4_push.2.1 16 = .ok (.getfield 11, 3) := by decide +kernel
theorem dX4_push_19 : decode mX4_push.2.1 19 = .ok (.bipush 26, 2) := by decide +kernel
theorem dX4_push_21 : decode mX4_push.2.1 21 = .ok (.aload_n 0, 1) := by decide +kernel
theorem dX4_push_22 : decode mX4_push.2.1 22 = .ok (.getfield 11, 3) := by decide +kernel
theorem dX4_push_25 : decode mX4_push.2.1 25 = .ok (.iconst 0, 1) := by decide +kernel
theorem dX4_push_26 : decode mX4_push.2.1 26 = .ok (.aload_n 0, 1) := by decide +kernel
theorem dX4_push_27 : decode mX4_push.2.1 27 = .ok (.getfield 20, 3) := by decide +kernel
theorem dX4_push_30 : decode mX4_push.2.1 30 = .ok (.bipush 26, 2) := by decide +kernel
theorem dX4_push_32 : decode mX4_push.2.1 32 = .ok (.imul, 1) := by decide +kernel
theorem dX4_push_33 : decode mX4_push.2.1 33 = .ok (.invokestatic 27, 3) := by decide +kernel
theorem dX4_push_36 : decode mX4_push.2.1 36 = .ok (.aload_n 1, 1) := by decide +kernel
theorem dX4_push_37 : decode mX4_push.2.1 37 = .ok (.aload_n 0, 1) := by decide +kernel
theorem dX4_push_38 : decode mX4_push.2.1 38 = .ok (.getfield 11, 3) := by decide +kernel
theorem dX4_push_41 : decode mX4_push.2.1 41 = .ok (.aload_n 0, 1) := by decide +kernel
theorem dX4_push_42 : decode mX4_push.2.1 42 = .ok (.getfield 20, 3) := by decide +kernel
theorem dX4_push_45 : decode mX4_push.2.1 45 = .ok (.invokevirtual 33, 3) := by decide +kernel
theorem dX4_push_48 : decode mX4_push.2.1 48 = .ok (.aload_n 0, 1) := by decide +kernel
theorem dX4_push_49 : decode mX4_push.2.1 49 = .ok (.dup, 1) := by decide +kernel
theorem dX4_push_50 : decode mX4_push.2.1 50 = .ok (.getfield 20, 3) := by decide +kernel
theorem dX4_push_53 : decode mX4_push.2.1 53 = .ok (.iconst 1, 1) := by decide +kernel
theorem dX4_push_54 : decode mX4_push.2.1 54 = .ok (.iadd, 1) := by decide +kernel
theorem dX4_push_55 : decode mX4_push.2.1 55 = .ok (.putfield 20, 3) := by decide +kernel
theorem dX4_push_58 : decode mX4_push.2.1 58 = .ok (.return_, 1) := by decide +kernel
theorem dX4_pop_0 : decode mX4_pop.2.1 0 = .ok (.aload_n 0, 1) := by decide +kernel
theorem dX4_pop_1 : decode mX4_pop.2.1 1 = .ok (.getfield 20, 3) := by decide +kernel
theorem dX4_pop_4 : decode mX4_pop.2.1 4 = .ok (.ifCond .ne 5, 3) := by decide +kernel
theorem dX4_pop_7 : decode mX4_pop.2.1 7 = .ok (.iconst (-1), 1) := by decide +kernel
theorem dX4_pop_8 : decode mX4_pop.2.1 8 = .ok (.ireturn, 1) := by decide +kernel
theorem dX4_pop_9 : decode mX4_pop.2.1 9 = .ok (.aload_n 0, 1) := by decide +kernel
theorem dX4_pop_10 : decode mX4_pop.2.1 10 = .ok (.dup, 1) := by decide +kernel
theorem dX4_pop_11 : decode mX4_pop.2.1 11 = .ok (.getfield 20, 3) := by decide +kernel
theorem dX4_pop_14 : decode mX4_pop.2.1 14 = .ok (.iconst 1, 1) := by decide +kernel
theorem dX4_pop_15 : decode mX4_pop.2.1 15 = .ok (.isub, 1) := by decide +kernel
theorem dX4_pop_16 : decode mX4_pop.2.1 16 = .ok (.putfield 20, 3) := by decide +kernel
theorem dX4_pop_19 : decode mX4_pop.2.1 19 = .ok (.aload_n 1, 1) := by decide +kernel
theorem dX4_pop_20 : decode mX4_pop.2.1 20 = .ok (.aload_n 0, 1) := by decide +kernel
theorem dX4_pop_21 : decode mX4_pop.2.1 21 = .ok (.getfield 11, 3) := by decide +kernel
theorem dX4_pop_24 : decode mX4_pop.2.1 24 = .ok (.aload_n 0, 1) := by decide +kernel
theorem dX4_pop_25 : decode mX4_pop.2.1 25 = .ok (.getfield 20, 3) := by decide +kernel
theorem dX4_pop_28 : decode mX4_pop.2.1 28 = .ok (.invokevirtual 37, 3) := by decide +kernel
theorem dX4_pop_31 : decode mX4_pop.2.1 31 = .ok (.aload_n 0, 1) := by decide +kernel
theorem dX4_pop_32 : decode mX4_pop.2.1 32 = .ok (.getfield 20, 3) := by decide +kernel
theorem dX4_pop_35 : decode mX4_pop.2.1 35 = .ok (.ireturn, 1) := by decide +kernel
theorem dX4_save_0 : decode mX4_save.2.1 0 = .ok (.iload_n 1, 1) := by decide +kernel
theorem dX4_save_1 : decode mX4_save.2.1 1 = .ok (.ifCond .lt 8, 3) := by decide +kernel
theorem dX4_save_4 : decode mX4_save.2.1 4 = .ok (.iload_n 1, 1) := by decide +kernel
theorem dX4_save_5 : decode mX4_save.2.1 5 = .ok (.iconst 3, 1) := by decide +kernel
theorem dX4_save_6 : decode mX4_save.2.1 6 = .ok (.if_icmp .lt 5, 3) := by decide +kernel
theorem dX4_save_9 : decode mX4_save.2.1 9 = .ok (.iconst 0, 1) := by decide +kernel
theorem dX4_save_10 : decode mX4_save.2.1 10 = .ok (.ireturn, 1) := by decide +kernel
theorem dX4_save_11 : decode mX4_save.2.1 11 = .ok (.aload_n 2, 1) := by decide +kernel
theorem dX4_save_12 : decode mX4_save.2.1 12 = .ok (.aload_n 0, 1) := by decide +kernel
theorem dX4_save_13 : decode mX4_save.2.1 13 = .ok (.getfield 17, 3) := by decide +kernel
theorem dX4_save_16 : decode mX4_save.2.1 16 = .ok (.iload_n 1, 1) := by decide +kernel
theorem dX4_save_17 : decode mX4_save.2.1 17 = .ok (.invokevirtual 33, 3) := by decide +kernel
theorem dX4_save_20 : decode mX4_save.2.1 20 = .ok (.aload_n 0, 1) := by decide +kernel
theorem dX4_save_21 : decode mX4_save.2.1 21 = .ok (.dup, 1) := by decide +kernel
theorem dX4_save_22 : decode mX4_save.2.1 22 = .ok (.getfield 24, 3) := by decide +kernel
theorem dX4_save_25 : decode mX4_save.2.1 25 = .ok (.iconst 1, 1) := by decide +kernel
theorem dX4_save_26 : decode mX4_save.2.1 26 = .ok (.iload_n 1, 1) := by decide +kernel
theorem dX4_save_27 : decode mX4_save.2.1 27 = .ok (.ishl, 1) := by decide +kernel
theorem dX4_save_28 : decode mX4_save.2.1 28 = .ok (.ior, 1) := by decide +kernel
theorem dX4_save_29 : decode mX4_save.2.1 29 = .ok (.putfield 24, 3) := by decide +kernel
theorem dX4_save_32 : decode mX4_save.2.1 32 = .ok (.iconst 1, 1) := by decide +kernel
theorem dX4_save_33 : decode mX4_save.2.1 33 = .ok (.ireturn, 1) := by decide +kernel
theorem dX4_restore_0 : decode mX4_restore.2.1 0 = .ok (.iload_n 1, 1) := by decide +kernel
theorem dX4_restore_1 : decode mX4_restore.2.1 1 = .ok (.ifCond .lt 19, 3) := by decide +kernel
theorem dX4_restore_4 : decode mX4_restore.2.1 4 = .ok (.iload_n 1, 1) := by decide +kernel
theorem dX4_restore_5 : decode mX4_restore.2.1 5 = .ok (.iconst 3, 1) := by decide +kernel
theorem dX4_restore_6 : decode mX4_restore.2.1 6 = .ok (.if_icmp .ge 14, 3) := by decide +kernel
theorem dX4_restore_9 : decode mX4_restore.2.1 9 = .ok (.aload_n 0, 1) := by decide +kernel
theorem dX4_restore_10 : decode mX4_restore.2.1 10 = .ok (.getfield 24, 3) := by decide +kernel
theorem dX4_restore_13 : decode mX4_restore.2.1 13 = .ok (.iload_n 1, 1) := by decide +kernel
theorem dX4_restore_14 : decode mX4_restore.2.1 14 = .ok (.invokestatic 40, 3) := by decide +kernel
theorem dX4_restore_17 : decode mX4_restore.2.1 17 = .ok (.ifCond .ne 5, 3) := by decide +kernel
theorem dX4_restore_20 : decode mX4_restore.2.1 20 = .ok (.iconst 0, 1) := by decide +kernel
theorem dX4_restore_21 : decode mX4_restore.2.1 21 = .ok (.ireturn, 1) := by decide +kernel
theorem dX4_restore_22 : decode mX4_restore.2.1 22 = .ok (.aload_n 2, 1) := by decide +kernel
theorem dX4_restore_23 : decode mX4_restore.2.1 23 = .ok (.aload_n 0, 1) := by decide +kernel
theorem dX4_restore_24 : decode mX4_restore.2.1 24 = .ok (.getfield 17, 3) := by decide +kernel
theorem dX4_restore_27 : decode mX4_restore.2.1 27 = .ok (.iload_n 1, 1) := by decide +kernel
theorem dX4_restore_28 : decode mX4_restore.2.1 28 = .ok (.invokevirtual 37, 3) := by decide +kernel
theorem dX4_restore_31 : decode mX4_restore.2.1 31 = .ok (.aload_n 0, 1) := by decide +kernel
theorem dX4_restore_32 : decode mX4_restore.2.1 32 = .ok (.iconst 0, 1) := by decide +kernel
theorem dX4_restore_33 : decode mX4_restore.2.1 33 = .ok (.putfield 20, 3) := by decide +kernel
theorem dX4_restore_36 : decode mX4_restore.2.1 36 = .ok (.iconst 1, 1) := by decide +kernel
theorem dX4_restore_37 : decode mX4_restore.2.1 37 = .ok (.ireturn, 1) := by decide +kernel
theorem dX5_init_0 : decode mX5_init.2.1 0 = .ok (.aload_n 0, 1) := by decide +kernel
theorem dX5_init_1 : decode mX5_init.2.1 1 = .ok (.invokespecial 3, 3) := by decide +kernel
theorem dX5_init_4 : decode mX5_init.2.1 4 = .ok (.aload_n 0, 1) := by decide +kernel
theorem dX5_init_5 : decode mX5_init.2.1 5 = .ok (.aload_n 1, 1) := by decide +kernel
theorem dX5_init_6 : decode mX5_init.2.1 6 = .ok (.putfield 9, 3) := by decide +kernel
theorem dX5_init_9 : decode mX5_init.2.1 9 = .ok (.return_, 1) := by decide +kernel
theorem dX5_open_0 : decode mX5_open.2.1 0 = .ok (.aload_n 0, 1) := by decide +kernel
theorem dX5_open_1 : decode mX5_open.2.1 1 = .ok (.iload_n 1, 1) := by decide +kernel
theorem dX5_open_2 : decode mX5_open.2.1 2 = .ok (.putfield 15, 3) := by decide +kernel
theorem dX5_open_5 : decode mX5_open.2.1 5 = .ok (.aload_n 0, 1) := by decide +kernel
theorem dX5_open_6 : decode mX5_open.2.1 6 = .ok (.iconst 0, 1) := by decide +kernel
theorem dX5_open_7 : decode mX5_open.2.1 7 = .ok (.putfield 19, 3) := by decide +kernel
theorem dX5_open_10 : decode mX5_open.2.1 10 = .ok (.aload_n 0, 1) := by decide +kernel
theorem dX5_open_11 : decode mX5_open.2.1 11 = .ok (.iconst (-1), 1) := by decide +kernel
theorem dX5_open_12 : decode mX5_open.2.1 12 = .ok (.putfield 22, 3) := by decide +kernel
theorem dX5_open_15 : decode mX5_open.2.1 15 = .ok (.return_, 1) := by decide +kernel
theorem dX5_peek_0 : decode mX5_peek.2.1 0 = .ok (.aload_n 0, 1) := by decide +kernel
theorem dX5_peek_1 : decode mX5_peek.2.1 1 = .ok (.getfield 22, 3) := by decide +kernel
theorem dX5_peek_4 : decode mX5_peek.2.1 4 = .ok (.iconst (-1), 1) := by decide +kernel
theorem dX5_peek_5 : decode mX5_peek.2.1 5 = .ok (.if_icmp .ne 28, 3) := by decide +kernel
theorem dX5_peek_8 : decode mX5_peek.2.1 8 = .ok (.aload_n 0, 1) := by decide +kernel
theorem dX5_peek_9 : decode mX5_peek.2.1 9 = .ok (.getfield 19, 3) := by decide +kernel
theorem dX5_peek_12 : decode mX5_peek.2.1 12 = .ok (.aload_n 0, 1) := by decide +kernel
theorem dX5_peek_13 : decode mX5_peek.2.1 13 = .ok (.getfield 15, 3) := by decide +kernel
theorem dX5_peek_16 : decode mX5_peek.2.1 16 = .ok (.if_icmp .ge 17, 3) := by decide +kernel
theorem dX5_peek_19 : decode mX5_peek.2.1 19 = .ok (.aload_n 0, 1) := by decide +kernel
theorem dX5_peek_20 : decode mX5_peek.2.1 20 = .ok (.getfield 19, 3) := by decide +kernel
theorem dX5_peek_23 : decode mX5_peek.2.1 23 = .ok (.aload_n 0, 1) := by decide +kernel
theorem dX5_peek_24 : decode mX5_peek.2.1 24 = .ok (.getfield 9, 3) := by decide +kernel
theorem dX5_peek_27 : decode mX5_peek.2.1 27 = .ok (.getfield 25, 3) := by decide +kernel
theorem dX5_peek_30 : decode mX5_peek.2.1 30 = .ok (.if_icmp .lt 7, 3) := by decide +kernel
theorem dX5_peek_33 : decode mX5_peek.2.1 33 = .ok (.iconst 1, 1) := by decide +kernel
theorem dX5_peek_34 : decode mX5_peek.2.1 34 = .ok (.goto 4, 3) := by decide +kernel
theorem dX5_peek_37 : decode mX5_peek.2.1 37 = .ok (.iconst 0, 1) := by decide +kernel
theorem dX5_peek_38 : decode mX5_peek.2.1 38 = .ok (.istore_n 1, 1) := by decide +kernel
theorem dX5_peek_39 : decode mX5_peek.2.1 39 = .ok (.iload_n 1, 1) := by decide +kernel
theorem dX5_peek_40 : decode mX5_peek.2.1 40 = .ok (.ifCond .eq 7, 3) := by decide +kernel
theorem dX5_peek_43 : decode mX5_peek.2.1 43 = .ok (.iconst (-1), 1) := by decide +kernel
theorem dX5_peek_44 : decode mX5_peek.2.1 44 = .ok (.goto 15, 3) := by decide +kernel
theorem dX5_peek_47 : decode mX5_peek.2.1 47 = .ok (.aload_n 0, 1) := by decide +kernel
theorem dX5_peek_48 : decode mX5_peek.2.1 48 = .ok (.getfield 9, 3) := by decide +kernel
theorem dX5_peek_51 : decode mX5_peek.2.1 51 = .ok (.getfield 30, 3) := by decide +kernel
theorem dX5_peek_54 : decode mX5_peek.2.1 54 = .ok (.aload_n 0, 1) := by decide +kernel
theorem dX5_peek_55 : decode mX5_peek.2.1 55 = .ok (.getfield 19, 3) := by decide +kernel
theorem dX5_peek_58 : decode mX5_peek.2.1 58 = .ok (.iaload, 1) := by decide +kernel
theorem dX5_peek_59 : decode mX5_peek.2.1 59 = .ok (.ireturn, 1) := by decide +kernel
theorem dX5_demand_0 : decode mX5_demand.2.1 0 = .ok (.iload_n 1, 1) := by decide +kernel
theorem dX5_demand_1 : decode mX5_demand.2.1 1 = .ok (.ifCond .ne 19, 3) := by decide +kernel
theorem dX5_demand_4 : decode mX5_demand.2.1 4 = .ok (.aload_n 0, 1) := by decide +kernel
theorem dX5_demand_5 : decode mX5_demand.2.1 5 = .ok (.getfield 22, 3) := by decide +kernel
theorem dX5_demand_8 : decode mX5_demand.2.1 8 = .ok (.iconst (-1), 1) := by decide +kernel
theorem dX5_demand_9 : decode mX5_demand.2.1 9 = .ok (.if_icmp .ne 11, 3) := by decide +kernel
theorem dX5_demand_12 : decode mX5_demand.2.1 12 = .ok (.aload_n 0, 1) := by decide +kernel
theorem dX5_demand_13 : decode mX5_demand.2.1 13 = .ok (.aload_n 0, 1) := by decide +kernel
theorem dX5_demand_14 : decode mX5_demand.2.1 14 = .ok (.getfield 19, 3) := by decide +kernel
theorem dX5_demand_17 : decode mX5_demand.2.1 17 = .ok (.putfield 22, 3) := by decide +kernel
theorem dX5_demand_20 : decode mX5_demand.2.1 20 = .ok (.aload_n 0, 1) := by decide +kernel
theorem dX5_demand_21 : decode mX5_demand.2.1 21 = .ok (.getfield 22, 3) := by decide +kernel
theorem dX5_demand_24 : decode mX5_demand.2.1 24 = .ok (.iconst (-1), 1) := by decide +kernel
theorem dX5_demand_25 : decode mX5_demand.2.1 25 = .ok (.if_icmp .ne 7, 3) := by decide +kernel
theorem dX5_demand_28 : decode mX5_demand.2.1 28 = .ok (.iconst 1, 1) := by decide +kernel
theorem dX5_demand_29 : decode mX5_demand.2.1 29 = .ok (.goto 4, 3) := by decide +kernel
theorem dX5_demand_32 : decode mX5_demand.2.1 32 = .ok (.iconst 0, 1) := by decide +kernel
theorem dX5_demand_33 : decode mX5_demand.2.1 33 = .ok (.ireturn, 1) := by decide +kernel
theorem dX5_passes_0 : decode mX5_passes.2.1 0 = .ok (.aload_n 0, 1) := by decide +kernel
theorem dX5_passes_1 : decode mX5_passes.2.1 1 = .ok (.invokevirtual 34, 3) := by decide +kernel
theorem dX5_passes_4 : decode mX5_passes.2.1 4 = .ok (.iload_n 1, 1) := by decide +kernel
theorem dX5_passes_5 : decode mX5_passes.2.1 5 = .ok (.if_icmp .eq 5, 3) := by decide +kernel
theorem dX5_passes_8 : decode mX5_passes.2.1 8 = .ok (.iconst 0, 1) := by decide +kernel
theorem dX5_passes_9 : decode mX5_passes.2.1 9 = .ok (.ireturn, 1) := by decide +kernel
theorem dX5_passes_10 : decode mX5_passes.2.1 10 = .ok (.aload_n 0, 1) := by decide +kernel
theorem dX5_passes_11 : decode mX5_passes.2.1 11 = .ok (.dup, 1) := by decide +kernel
theorem dX5_passes_12 : decode mX5_passes.2.1 12 = .ok (.getfield 19, 3) := by decide +kernel
theorem dX5_passes_15 : decode mX5_passes.2.1 15 = .ok (.iconst 1, 1) := by decide +kernel
theorem dX5_passes_16 : decode mX5_passes.2.1 16 = .ok (.iadd, 1) := by decide +kernel
theorem dX5_passes_17 : decode mX5_passes.2.1 17 = .ok (.putfield 19, 3) := by decide +kernel
theorem dX5_passes_20 : decode mX5_passes.2.1 20 = .ok (.iconst 1, 1) := by decide +kernel
theorem dX5_passes_21 : decode mX5_passes.2.1 21 = .ok (.ireturn, 1) := by decide +kernel
theorem dX5_signFrom_0 : decode mX5_signFrom.2.1 0 = .ok (.aload_n 0, 1) := by decide +kernel
theorem dX5_signFrom_1 : decode mX5_signFrom.2.1 1 = .ok (.invokevirtual 34, 3) := by decide +kernel
theorem dX5_signFrom_4 : decode mX5_signFrom.2.1 4 = .ok (.iload_n 1, 1) := by decide +kernel
theorem dX5_signFrom_5 : decode mX5_signFrom.2.1 5 = .ok (.isub, 1) := by decide +kernel
theorem dX5_signFrom_6 : decode mX5_signFrom.2.1 6 = .ok (.istore_n 3, 1) := by decide +kernel
theorem dX5_signFrom_7 : decode mX5_signFrom.2.1 7 = .ok (.aload_n 0, 1) := by decide +kernel
theorem dX5_signFrom_8 : decode mX5_signFrom.2.1 8 = .ok (.iload_n 3, 1) := by decide +kernel
theorem dX5_signFrom_9 : decode mX5_signFrom.2.1 9 = .ok (.ifCond .lt 12, 3) := by decide +kernel
theorem dX5_signFrom_12 : decode mX5_signFrom.2.1 12 = .ok (.iload_n 3, 1) := by decide +kernel
theorem dX5_signFrom_13 : decode mX5_signFrom.2.1 13 = .ok (.iload_n 2, 1) := by decide +kernel
theorem dX5_signFrom_14 : decode mX5_signFrom.2.1 14 = .ok (.if_icmp .ge 7, 3) := by decide +kernel
theorem dX5_signFrom_17 : decode mX5_signFrom.2.1 17 = .ok (.iconst 1, 1) := by decide +kernel
theorem dX5_signFrom_18 : decode mX5_signFrom.2.1 18 = .ok (.goto 4, 3) := by decide +kernel
theorem dX5_signFrom_21 : decode mX5_signFrom.2.1 21 = .ok (.iconst 0, 1) := by decide +kernel
theorem dX5_signFrom_22 : decode mX5_signFrom.2.1 22 = .ok (.invokevirtual 38, 3) := by decide +kernel
theorem dX5_signFrom_25 : decode mX5_signFrom.2.1 25 = .ok (.ifCond .ne 5, 3) := by decide +kernel
theorem dX5_signFrom_28 : decode mX5_signFrom.2.1 28 = .ok (.iconst 0, 1) := by decide +kernel
theorem dX5_signFrom_29 : decode mX5_signFrom.2.1 29 = .ok (.ireturn, 1) := by decide +kernel
theorem dX5_signFrom_30 : decode mX5_signFrom.2.1 30 = .ok (.aload_n 0, 1) := by decide +kernel
theorem dX5_signFrom_31 : decode mX5_signFrom.2.1 31 = .ok (.dup, 1) := by decide +kernel
theorem dX5_signFrom_32 : decode mX5_signFrom.2.1 32 = .ok (.getfield 19, 3) := by decide +kernel
theorem dX5_signFrom_35 : decode mX5_signFrom.2.1 35 = .ok (.iconst 1, 1) := by decide +kernel
theorem dX5_signFrom_36 : decode mX5_signFrom.2.1 36 = .ok (.iadd, 1) := by decide +kernel
theorem dX5_signFrom_37 : decode mX5_signFrom.2.1 37 = .ok (.putfield 19, 3) := by decide +kernel
theorem dX5_signFrom_40 : decode mX5_signFrom.2.1 40 = .ok (.iload_n 3, 1) := by decide +kernel
theorem dX5_signFrom_41 : decode mX5_signFrom.2.1 41 = .ok (.ireturn, 1) := by decide +kernel
theorem dX5_digit_0 : decode mX5_digit.2.1 0 = .ok (.aload_n 0, 1) := by decide +kernel
theorem dX5_digit_1 : decode mX5_digit.2.1 1 = .ok (.bipush 48, 2) := by decide +kernel
theorem dX5_digit_3 : decode mX5_digit.2.1 3 = .ok (.iload_n 1, 1) := by decide +kernel
theorem dX5_digit_4 : decode mX5_digit.2.1 4 = .ok (.invokevirtual 42, 3) := by decide +kernel
theorem dX5_digit_7 : decode mX5_digit.2.1 7 = .ok (.ireturn, 1) := by decide +kernel
theorem dX5_atDigit_0 : decode mX5_atDigit.2.1 0 = .ok (.aload_n 0, 1) := by decide +kernel
theorem dX5_atDigit_1 : decode mX5_atDigit.2.1 1 = .ok (.invokevirtual 34, 3) := by decide +kernel
theorem dX5_atDigit_4 : decode mX5_atDigit.2.1 4 = .ok (.bipush 48, 2) := by decide +kernel
theorem dX5_atDigit_6 : decode mX5_atDigit.2.1 6 = .ok (.if_icmp .lt 16, 3) := by decide +kernel
theorem dX5_atDigit_9 : decode mX5_atDigit.2.1 9 = .ok (.aload_n 0, 1) := by decide +kernel
theorem dX5_atDigit_10 : decode mX5_atDigit.2.1 10 = .ok (.invokevirtual 34, 3) := by decide +kernel
theorem dX5_atDigit_13 : decode mX5_atDigit.2.1 13 = .ok (.bipush 57, 2) := by decide +kernel
theorem dX5_atDigit_15 : decode mX5_atDigit.2.1 15 = .ok (.if_icmp .gt 7, 3) := by decide +kernel
theorem dX5_atDigit_18 : decode mX5_atDigit.2.1 18 = .ok (.iconst 1, 1) := by decide +kernel
theorem dX5_atDigit_19 : decode mX5_atDigit.2.1 19 = .ok (.goto 4, 3) := by decide +kernel
theorem dX5_atDigit_22 : decode mX5_atDigit.2.1 22 = .ok (.iconst 0, 1) := by decide +kernel
theorem dX5_atDigit_23 : decode mX5_atDigit.2.1 23 = .ok (.ireturn, 1) := by decide +kernel
theorem dX5_heading_0 : decode mX5_heading.2.1 0 = .ok (.aload_n 0, 1) := by decide +kernel
theorem dX5_heading_1 : decode mX5_heading.2.1 1 = .ok (.invokevirtual 34, 3) := by decide +kernel
theorem dX5_heading_4 : decode mX5_heading.2.1 4 = .ok (.invokestatic 46, 3) := by decide +kernel
theorem dX5_heading_7 : decode mX5_heading.2.1 7 = .ok (.istore_n 1, 1) := by decide +kernel
theorem dX5_heading_8 : decode mX5_heading.2.1 8 = .ok (.aload_n 0, 1) := by decide +kernel
theorem dX5_heading_9 : decode mX5_heading.2.1 9 = .ok (.iload_n 1, 1) := by decide +kernel
theorem dX5_heading_10 : decode mX5_heading.2.1 10 = .ok (.iconst (-1), 1) := by decide +kernel
theorem dX5_heading_11 : decode mX5_heading.2.1 11 = .ok (.if_icmp .eq 7, 3) := by decide +kernel
theorem dX5_heading_14 : decode mX5_heading.2.1 14 = .ok (.iconst 1, 1) := by decide +kernel
theorem dX5_heading_15 : decode mX5_heading.2.1 15 = .ok (.goto 4, 3) := by decide +kernel
theorem dX5_heading_18 : decode mX5_heading.2.1 18 = .ok (.iconst 0, 1) := by decide +kernel
theorem dX5_heading_19 : decode mX5_heading.2.1 19 = .ok (.invokevirtual 38, 3) := by decide +kernel
theorem dX5_heading_22 : decode mX5_heading.2.1 22 = .ok (.ifCond .ne 5, 3) := by decide +kernel
theorem dX5_heading_25 : decode mX5_heading.2.1 25 = .ok (.iconst 4, 1) := by decide +kernel
theorem dX5_heading_26 : decode mX5_heading.2.1 26 = .ok (.ireturn, 1) := by decide +kernel
theorem dX5_heading_27 : decode mX5_heading.2.1 27 = .ok (.aload_n 0, 1) := by decide +kernel
theorem dX5_heading_28 : decode mX5_heading.2.1 28 = .ok (.dup, 1) := by decide +kernel
theorem dX5_heading_29 : decode mX5_heading.2.1 29 = .ok (.getfield 19, 3) := by decide +kernel
theorem dX5_heading_32 : decode mX5_heading.2.1 32 = .ok (.iconst 1, 1) := by decide +kernel
theorem dX5_heading_33 : decode mX5_heading.2.1 33 = .ok (.iadd, 1) := by decide +kernel
theorem dX5_heading_34 : decode mX5_heading.2.1 34 = .ok (.putfield 19, 3) := by decide +kernel
theorem dX5_heading_37 : decode mX5_heading.2.1 37 = .ok (.iload_n 1, 1) := by decide +kernel
theorem dX5_heading_38 : decode mX5_heading.2.1 38 = .ok (.ireturn, 1) := by decide +kernel
theorem dX5_headingOf_0 : decode mX5_headingOf.2.1 0 = .ok (.iload_n 0, 1) := by decide +kernel
theorem dX5_headingOf_1 : decode mX5_headingOf.2.1 1 = .ok (.lookupswitch 61 #[(100, 55), (108, 57), (114, 53), (115, 59), (117, 51)], 51) := by decide +kernel
theorem dX5_headingOf_52 : decode mX5_headingOf.2.1 52 = .ok (.iconst 0, 1) := by decide +kernel
theorem dX5_headingOf_53 : decode mX5_headingOf.2.1 53 = .ok (.ireturn, 1) := by decide +kernel
theorem dX5_headingOf_54 : decode mX5_headingOf.2.1 54 = .ok (.iconst 1, 1) := by decide +kernel
theorem dX5_headingOf_55 : decode mX5_headingOf.2.1 55 = .ok (.ireturn, 1) := by decide +kernel
theorem dX5_headingOf_56 : decode mX5_headingOf.2.1 56 = .ok (.iconst 2, 1) := by decide +kernel
theorem dX5_headingOf_57 : decode mX5_headingOf.2.1 57 = .ok (.ireturn, 1) := by decide +kernel
theorem dX5_headingOf_58 : decode mX5_headingOf.2.1 58 = .ok (.iconst 3, 1) := by decide +kernel
theorem dX5_headingOf_59 : decode mX5_headingOf.2.1 59 = .ok (.ireturn, 1) := by decide +kernel
theorem dX5_headingOf_60 : decode mX5_headingOf.2.1 60 = .ok (.iconst 4, 1) := by decide +kernel
theorem dX5_headingOf_61 : decode mX5_headingOf.2.1 61 = .ok (.ireturn, 1) := by decide +kernel
theorem dX5_headingOf_62 : decode mX5_headingOf.2.1 62 = .ok (.iconst (-1), 1) := by decide +kernel
theorem dX5_headingOf_63 : decode mX5_headingOf.2.1 63 = .ok (.ireturn, 1) := by decide +kernel
theorem dX5_kinds_0 : decode mX5_kinds.2.1 0 = .ok (.iconst 0, 1) := by decide +kernel
theorem dX5_kinds_1 : decode mX5_kinds.2.1 1 = .ok (.istore_n 1, 1) := by decide +kernel
theorem dX5_kinds_2 : decode mX5_kinds.2.1 2 = .ok (.iconst 0, 1) := by decide +kernel
theorem dX5_kinds_3 : decode mX5_kinds.2.1 3 = .ok (.istore_n 2, 1) := by decide +kernel
theorem dX5_kinds_4 : decode mX5_kinds.2.1 4 = .ok (.iload_n 2, 1) := by decide +kernel
theorem dX5_kinds_5 : decode mX5_kinds.2.1 5 = .ok (.bipush 8, 2) := by decide +kernel
theorem dX5_kinds_7 : decode mX5_kinds.2.1 7 = .ok (.if_icmp .ge 26, 3) := by decide +kernel
theorem dX5_kinds_10 : decode mX5_kinds.2.1 10 = .ok (.aload_n 0, 1) := by decide +kernel
theorem dX5_kinds_11 : decode mX5_kinds.2.1 11 = .ok (.bipush 97, 2) := by decide +kernel
theorem dX5_kinds_13 : decode mX5_kinds.2.1 13 = .ok (.iload_n 2, 1) := by decide +kernel
theorem dX5_kinds_14 : decode mX5_kinds.2.1 14 = .ok (.iadd, 1) := by decide +kernel
theorem dX5_kinds_15 : decode mX5_kinds.2.1 15 = .ok (.invokevirtual 50, 3) := by decide +kernel
theorem dX5_kinds_18 : decode mX5_kinds.2.1 18 = .ok (.ifCond .eq 9, 3) := by decide +kernel
theorem dX5_kinds_21 : decode mX5_kinds.2.1 21 = .ok (.iload_n 1, 1) := by decide +kernel
theorem dX5_kinds_22 : decode mX5_kinds.2.1 22 = .ok (.iconst 1, 1) := by decide +kernel
theorem dX5_kinds_23 : decode mX5_kinds.2.1 23 = .ok (.iload_n 2, 1) := by decide +kernel
theorem dX5_kinds_24 : decode mX5_kinds.2.1 24 = .ok (.ishl, 1) := by decide +kernel
theorem dX5_kinds_25 : decode mX5_kinds.2.1 25 = .ok (.ior, 1) := by decide +kernel
theorem dX5_kinds_26 : decode mX5_kinds.2.1 26 = .ok (.istore_n 1, 1) := by decide +kernel
theorem dX5_kinds_27 : decode mX5_kinds.2.1 27 = .ok (.iinc 2 1, 3) := by decide +kernel
theorem dX5_kinds_30 : decode mX5_kinds.2.1 30 = .ok (.goto (-26), 3) := by decide +kernel
theorem dX5_kinds_33 : decode mX5_kinds.2.1 33 = .ok (.iload_n 1, 1) := by decide +kernel
theorem dX5_kinds_34 : decode mX5_kinds.2.1 34 = .ok (.ireturn, 1) := by decide +kernel
theorem dX5_another_0 : decode mX5_another.2.1 0 = .ok (.aload_n 0, 1) := by decide +kernel
theorem dX5_another_1 : decode mX5_another.2.1 1 = .ok (.invokevirtual 34, 3) := by decide +kernel
theorem dX5_another_4 : decode mX5_another.2.1 4 = .ok (.iconst (-1), 1) := by decide +kernel
theorem dX5_another_5 : decode mX5_another.2.1 5 = .ok (.if_icmp .eq 20, 3) := by decide +kernel
theorem dX5_another_8 : decode mX5_another.2.1 8 = .ok (.aload_n 0, 1) := by decide +kernel
theorem dX5_another_9 : decode mX5_another.2.1 9 = .ok (.aload_n 0, 1) := by decide +kernel
theorem dX5_another_10 : decode mX5_another.2.1 10 = .ok (.bipush 59, 2) := by decide +kernel
theorem dX5_another_12 : decode mX5_another.2.1 12 = .ok (.invokevirtual 50, 3) := by decide +kernel
theorem dX5_another_15 : decode mX5_another.2.1 15 = .ok (.invokevirtual 38, 3) := by decide +kernel
theorem dX5_another_18 : decode mX5_another.2.1 18 = .ok (.ifCond .eq 7, 3) := by decide +kernel
theorem dX5_another_21 : decode mX5_another.2.1 21 = .ok (.iconst 1, 1) := by decide +kernel
theorem dX5_another_22 : decode mX5_another.2.1 22 = .ok (.goto 4, 3) := by decide +kernel
theorem dX5_another_25 : decode mX5_another.2.1 25 = .ok (.iconst 0, 1) := by decide +kernel
theorem dX5_another_26 : decode mX5_another.2.1 26 = .ok (.ireturn, 1) := by decide +kernel
theorem dX5_passAct_0 : decode mX5_passAct.2.1 0 = .ok (.aload_n 0, 1) := by decide +kernel
theorem dX5_passAct_1 : decode mX5_passAct.2.1 1 = .ok (.invokevirtual 34, 3) := by decide +kernel
theorem dX5_passAct_4 : decode mX5_passAct.2.1 4 = .ok (.istore_n 1, 1) := by decide +kernel
theorem dX5_passAct_5 : decode mX5_passAct.2.1 5 = .ok (.iload_n 1, 1) := by decide +kernel
theorem dX5_passAct_6 : decode mX5_passAct.2.1 6 = .ok (.bipush 104, 2) := by decide +kernel
theorem dX5_passAct_8 : decode mX5_passAct.2.1 8 = .ok (.if_icmp .eq 15, 3) := by decide +kernel
theorem dX5_passAct_11 : decode mX5_passAct.2.1 11 = .ok (.iload_n 1, 1) := by decide +kernel
theorem dX5_passAct_12 : decode mX5_passAct.2.1 12 = .ok (.bipush 111, 2) := by decide +kernel
theorem dX5_passAct_14 : decode mX5_passAct.2.1 14 = .ok (.if_icmp .eq 9, 3) := by decide +kernel
theorem dX5_passAct_17 : decode mX5_passAct.2.1 17 = .ok (.iload_n 1, 1) := by decide +kernel
theorem dX5_passAct_18 : decode mX5_passAct.2.1 18 = .ok (.bipush 98, 2) := by decide +kernel
theorem dX5_passAct_20 : decode mX5_passAct.2.1 20 = .ok (.if_icmp .ne 7, 3) := by decide +kernel
theorem dX5_passAct_23 : decode mX5_passAct.2.1 23 = .ok (.iconst 1, 1) := by decide +kernel
theorem dX5_passAct_24 : decode mX5_passAct.2.1 24 = .ok (.goto 4, 3) := by decide +kernel
theorem dX5_passAct_27 : decode mX5_passAct.2.1 27 = .ok (.iconst 0, 1) := by decide +kernel
theorem dX5_passAct_28 : decode mX5_passAct.2.1 28 = .ok (.istore_n 2, 1) := by decide +kernel
theorem dX5_passAct_29 : decode mX5_passAct.2.1 29 = .ok (.iload_n 2, 1) := by decide +kernel
theorem dX5_passAct_30 : decode mX5_passAct.2.1 30 = .ok (.ifCond .eq 7, 3) := by decide +kernel
theorem dX5_passAct_33 : decode mX5_passAct.2.1 33 = .ok (.iconst 1, 1) := by decide +kernel
theorem dX5_passAct_34 : decode mX5_passAct.2.1 34 = .ok (.goto 24, 3) := by decide +kernel
theorem dX5_passAct_37 : decode mX5_passAct.2.1 37 = .ok (.iload_n 1, 1) := by decide +kernel
theorem dX5_passAct_38 : decode mX5_passAct.2.1 38 = .ok (.bipush 112, 2) := by decide +kernel
theorem dX5_passAct_40 : decode mX5_passAct.2.1 40 = .ok (.if_icmp .ne 7, 3) := by decide +kernel
theorem dX5_passAct_43 : decode mX5_passAct.2.1 43 = .ok (.iconst 2, 1) := by decide +kernel
theorem dX5_passAct_44 : decode mX5_passAct.2.1 44 = .ok (.goto 14, 3) := by decide +kernel
theorem dX5_passAct_47 : decode mX5_passAct.2.1 47 = .ok (.iload_n 1, 1) := by decide +kernel
theorem dX5_passAct_48 : decode mX5_passAct.2.1 48 = .ok (.bipush 99, 2) := by decide +kernel
theorem dX5_passAct_50 : decode mX5_passAct.2.1 50 = .ok (.if_icmp .ne 7, 3) := by decide +kernel
theorem dX5_passAct_53 : decode mX5_passAct.2.1 53 = .ok (.iconst 3, 1) := by decide +kernel
theorem dX5_passAct_54 : decode mX5_passAct.2.1 54 = .ok (.goto 4, 3) := by decide +kernel
theorem dX5_passAct_57 : decode mX5_passAct.2.1 57 = .ok (.iconst 0, 1) := by decide +kernel
theorem dX5_passAct_58 : decode mX5_passAct.2.1 58 = .ok (.istore_n 3, 1) := by decide +kernel
theorem dX5_passAct_59 : decode mX5_passAct.2.1 59 = .ok (.aload_n 0, 1) := by decide +kernel
theorem dX5_passAct_60 : decode mX5_passAct.2.1 60 = .ok (.iload_n 3, 1) := by decide +kernel
theorem dX5_passAct_61 : decode mX5_passAct.2.1 61 = .ok (.ifCond .le 7, 3) := by decide +kernel
theorem dX5_passAct_64 : decode mX5_passAct.2.1 64 = .ok (.iconst 1, 1) := by decide +kernel
theorem dX5_passAct_65 : decode mX5_passAct.2.1 65 = .ok (.goto 4, 3) := by decide +kernel
theorem dX5_passAct_68 : decode mX5_passAct.2.1 68 = .ok (.iconst 0, 1) := by decide +kernel
theorem dX5_passAct_69 : decode mX5_passAct.2.1 69 = .ok (.invokevirtual 38, 3) := by decide +kernel
theorem dX5_passAct_72 : decode mX5_passAct.2.1 72 = .ok (.ifCond .ne 4, 3) := by decide +kernel
theorem dX5_passAct_75 : decode mX5_passAct.2.1 75 = .ok (.return_, 1) := by decide +kernel
theorem dX5_passAct_76 : decode mX5_passAct.2.1 76 = .ok (.aload_n 0, 1) := by decide +kernel
theorem dX5_passAct_77 : decode mX5_passAct.2.1 77 = .ok (.dup, 1) := by decide +kernel
theorem dX5_passAct_78 : decode mX5_passAct.2.1 78 = .ok (.getfield 19, 3) := by decide +kernel
theorem dX5_passAct_81 : decode mX5_passAct.2.1 81 = .ok (.iconst 1, 1) := by decide +kernel
theorem dX5_passAct_82 : decode mX5_passAct.2.1 82 = .ok (.iadd, 1) := by decide +kernel
theorem dX5_passAct_83 : decode mX5_passAct.2.1 83 = .ok (.putfield 19, 3) := by decide +kernel
theorem dX5_passAct_86 : decode mX5_passAct.2.1 86 = .ok (.iconst 0, 1) := by decide +kernel
theorem dX5_passAct_87 : decode mX5_passAct.2.1 87 = .ok (.istore 4, 2) := by decide +kernel
theorem dX5_passAct_89 : decode mX5_passAct.2.1 89 = .ok (.iload 4, 2) := by decide +kernel
theorem dX5_passAct_91 : decode mX5_passAct.2.1 91 = .ok (.iload_n 3, 1) := by decide +kernel
theorem dX5_passAct_92 : decode mX5_passAct.2.1 92 = .ok (.if_icmp .ge 16, 3) := by decide +kernel
theorem dX5_passAct_95 : decode mX5_passAct.2.1 95 = .ok (.aload_n 0, 1) := by decide +kernel
theorem dX5_passAct_96 : decode mX5_passAct.2.1 96 = .ok (.bipush 10, 2) := by decide +kernel
theorem dX5_passAct_98 : decode mX5_passAct.2.1 98 = .ok (.invokevirtual 54, 3) := by decide +kernel
theorem dX5_passAct_101 : decode mX5_passAct.2.1 101 = .ok (.pop, 1) := by decide +kernel
theorem dX5_passAct_102 : decode mX5_passAct.2.1 102 = .ok (.iinc 4 1, 3) := by decide +kernel
theorem dX5_passAct_105 : decode mX5_passAct.2.1 105 = .ok (.goto (-16), 3) := by decide +kernel
theorem dX5_passAct_108 : decode mX5_passAct.2.1 108 = .ok (.iload_n 1, 1) := by decide +kernel
theorem dX5_passAct_109 : decode mX5_passAct.2.1 109 = .ok (.bipush 99, 2) := by decide +kernel
theorem dX5_passAct_111 : decode mX5_passAct.2.1 111 = .ok (.if_icmp .ne 8, 3) := by decide +kernel
theorem dX5_passAct_114 : decode mX5_passAct.2.1 114 = .ok (.aload_n 0, 1) := by decide +kernel
theorem dX5_passAct_115 : decode mX5_passAct.2.1 115 = .ok (.invokevirtual 57, 3) := by decide +kernel
theorem dX5_passAct_118 : decode mX5_passAct.2.1 118 = .ok (.pop, 1) := by decide +kernel
theorem dX5_passAct_119 : decode mX5_passAct.2.1 119 = .ok (.return_, 1) := by decide +kernel
theorem dX5_firstFault_0 : decode mX5_firstFault.2.1 0 = .ok (.aload_n 0, 1) := by decide +kernel
theorem dX5_firstFault_1 : decode mX5_firstFault.2.1 1 = .ok (.aload_n 0, 1) := by decide +kernel
theorem dX5_firstFault_2 : decode mX5_firstFault.2.1 2 = .ok (.getfield 19, 3) := by decide +kernel
theorem dX5_firstFault_5 : decode mX5_firstFault.2.1 5 = .ok (.aload_n 0, 1) := by decide +kernel
theorem dX5_firstFault_6 : decode mX5_firstFault.2.1 6 = .ok (.getfield 9, 3) := by decide +kernel
theorem dX5_firstFault_9 : decode mX5_firstFault.2.1 9 = .ok (.getfield 25, 3) := by decide +kernel
theorem dX5_firstFault_12 : decode mX5_firstFault.2.1 12 = .ok (.if_icmp .lt 7, 3) := by decide +kernel
theorem dX5_firstFault_15 : decode mX5_firstFault.2.1 15 = .ok (.iconst 1, 1) := by decide +kernel
theorem dX5_firstFault_16 : decode mX5_firstFault.2.1 16 = .ok (.goto 4, 3) := by decide +kernel
theorem dX5_firstFault_19 : decode mX5_firstFault.2.1 19 = .ok (.iconst 0, 1) := by decide +kernel
theorem dX5_firstFault_20 : decode mX5_firstFault.2.1 20 = .ok (.invokevirtual 38, 3) := by decide +kernel
theorem dX5_firstFault_23 : decode mX5_firstFault.2.1 23 = .ok (.pop, 1) := by decide +kernel
theorem dX5_firstFault_24 : decode mX5_firstFault.2.1 24 = .ok (.aload_n 0, 1) := by decide +kernel
theorem dX5_firstFault_25 : decode mX5_firstFault.2.1 25 = .ok (.getfield 22, 3) := by decide +kernel
theorem dX5_firstFault_28 : decode mX5_firstFault.2.1 28 = .ok (.ireturn, 1) := by decide +kernel
theorem dX5_answer_0 : decode mX5_answer.2.1 0 = .ok (.aload_n 0, 1) := by decide +kernel
theorem dX5_answer_1 : decode mX5_answer.2.1 1 = .ok (.invokevirtual 60, 3) := by decide +kernel
theorem dX5_answer_4 : decode mX5_answer.2.1 4 = .ok (.istore_n 2, 1) := by decide +kernel
theorem dX5_answer_5 : decode mX5_answer.2.1 5 = .ok (.iload_n 2, 1) := by decide +kernel
theorem dX5_answer_6 : decode mX5_answer.2.1 6 = .ok (.iconst (-1), 1) := by decide +kernel
theorem dX5_answer_7 : decode mX5_answer.2.1 7 = .ok (.if_icmp .ne 7, 3) := by decide +kernel
theorem dX5_answer_10 : decode mX5_answer.2.1 10 = .ok (.iload_n 1, 1) := by decide +kernel
theorem dX5_answer_11 : decode mX5_answer.2.1 11 = .ok (.goto 6, 3) := by decide +kernel
theorem dX5_answer_14 : decode mX5_answer.2.1 14 = .ok (.iconst (-1), 1) := by decide +kernel
theorem dX5_answer_15 : decode mX5_answer.2.1 15 = .ok (.iload_n 2, 1) := by decide +kernel
theorem dX5_answer_16 : decode mX5_answer.2.1 16 = .ok (.isub, 1) := by decide +kernel
theorem dX5_answer_17 : decode mX5_answer.2.1 17 = .ok (.ireturn, 1) := by decide +kernel
theorem dX6_init_0 : decode mX6_init.2.1 0 = .ok (.aload_n 0, 1) := by decide +kernel
theorem dX6_init_1 : decode mX6_init.2.1 1 = .ok (.invokespecial 3, 3) := by decide +kernel
theorem dX6_init_4 : decode mX6_init.2.1 4 = .ok (.aload_n 0, 1) := by decide +kernel
theorem dX6_init_5 : decode mX6_init.2.1 5 = .ok (.bipush 40, 2) := by decide +kernel
theorem dX6_init_7 : decode mX6_init.2.1 7 = .ok (.newarray .int, 2) := by decide +kernel
theorem dX6_init_9 : decode mX6_init.2.1 9 = .ok (.putfield 9, 3) := by decide +kernel
theorem dX6_init_12 : decode mX6_init.2.1 12 = .ok (.aload_n 0, 1) := by decide +kernel
theorem dX6_init_13 : decode mX6_init.2.1 13 = .ok (.bipush 40, 2) := by decide +kernel
theorem dX6_init_15 : decode mX6_init.2.1 15 = .ok (.newarray .int, 2) := by decide +kernel
theorem dX6_init_17 : decode mX6_init.2.1 17 = .ok (.putfield 15, 3) := by decide +kernel
theorem dX6_init_20 : decode mX6_init.2.1 20 = .ok (.return_, 1) := by decide +kernel
theorem dX6_clear_0 : decode mX6_clear.2.1 0 = .ok (.aload_n 0, 1) := by decide +kernel
theorem dX6_clear_1 : decode mX6_clear.2.1 1 = .ok (.iconst 0, 1) := by decide +kernel
theorem dX6_clear_2 : decode mX6_clear.2.1 2 = .ok (.putfield 18, 3) := by decide +kernel
theorem dX6_clear_5 : decode mX6_clear.2.1 5 = .ok (.return_, 1) := by decide +kernel
theorem dX6_read_0 : decode mX6_read.2.1 0 = .ok (.aload_n 0, 1) := by decide +kernel
theorem dX6_read_1 : decode mX6_read.2.1 1 = .ok (.aload_n 1, 1) := by decide +kernel
theorem dX6_read_2 : decode mX6_read.2.1 2 = .ok (.iconst 0, 1) := by decide +kernel
theorem dX6_read_3 : decode mX6_read.2.1 3 = .ok (.invokevirtual 22, 3) := by decide +kernel
theorem dX6_read_6 : decode mX6_read.2.1 6 = .ok (.return_, 1) := by decide +kernel
theorem dX6_emit_0 : decode mX6_emit.2.1 0 = .ok (.aload_n 0, 1) := by decide +kernel
theorem dX6_emit_1 : decode mX6_emit.2.1 1 = .ok (.getfield 18, 3) := by decide +kernel
theorem dX6_emit_4 : decode mX6_emit.2.1 4 = .ok (.bipush 40, 2) := by decide +kernel
theorem dX6_emit_6 : decode mX6_emit.2.1 6 = .ok (.if_icmp .ge 23, 3) := by decide +kernel
theorem dX6_emit_9 : decode mX6_emit.2.1 9 = .ok (.aload_n 0, 1) := by decide +kernel
theorem dX6_emit_10 : decode mX6_emit.2.1 10 = .ok (.getfield 9, 3) := by decide +kernel
theorem dX6_emit_13 : decode mX6_emit.2.1 13 = .ok (.aload_n 0, 1) := by decide +kernel
theorem dX6_emit_14 : decode mX6_emit.2.1 14 = .ok (.getfield 18, 3) := by decide +kernel
theorem dX6_emit_17 : decode mX6_emit.2.1 17 = .ok (.iload_n 1, 1) := by decide +kernel
theorem dX6_emit_18 : decode mX6_emit.2.1 18 = .ok (.iastore, 1) := by decide +kernel
theorem dX6_emit_19 : decode mX6_emit.2.1 19 = .ok (.aload_n 0, 1) := by decide +kernel
theorem dX6_emit_20 : decode mX6_emit.2.1 20 = .ok (.dup, 1) := by decide +kernel
theorem dX6_emit_21 : decode mX6_emit.2.1 21 = .ok (.getfield 18, 3) := by decide +kernel
theorem dX6_emit_24 : decode mX6_emit.2.1 24 = .ok (.iconst 1, 1) := by decide +kernel
theorem dX6_emit_25 : decode mX6_emit.2.1 25 = .ok (.iadd, 1) := by decide +kernel
theorem dX6_emit_26 : decode mX6_emit.2.1 26 = .ok (.putfield 18, 3) := by decide +kernel
theorem dX6_emit_29 : decode mX6_emit.2.1 29 = .ok (.return_, 1) := by decide +kernel
theorem dX6_readComparison_0 : decode mX6_readComparison.2.1 0 = .ok (.aload_n 0, 1) := by decide +kernel
theorem dX6_readComparison_1 : decode mX6_readComparison.2.1 1 = .ok (.aload_n 1, 1) := by decide +kernel
theorem dX6_readComparison_2 : decode mX6_readComparison.2.1 2 = .ok (.iload_n 2, 1) := by decide +kernel
theorem dX6_readComparison_3 : decode mX6_readComparison.2.1 3 = .ok (.invokevirtual 26, 3) := by decide +kernel
theorem dX6_readComparison_6 : decode mX6_readComparison.2.1 6 = .ok (.aload_n 1, 1) := by decide +kernel
theorem dX6_readComparison_7 : decode mX6_readComparison.2.1 7 = .ok (.invokevirtual 29, 3) := by decide +kernel
theorem dX6_readComparison_10 : decode mX6_readComparison.2.1 10 = .ok (.istore_n 3, 1) := by decide +kernel
theorem dX6_readComparison_11 : decode mX6_readComparison.2.1 11 = .ok (.iload_n 3, 1) := by decide +kernel
theorem dX6_readComparison_12 : decode mX6_readComparison.2.1 12 = .ok (.bipush 60, 2) := by decide +kernel
theorem dX6_readComparison_14 : decode mX6_readComparison.2.1 14 = .ok (.if_icmp .eq 15, 3) := by decide +kernel
theorem dX6_readComparison_17 : decode mX6_readComparison.2.1 17 = .ok (.iload_n 3, 1) := by decide +kernel
theorem dX6_readComparison_18 : decode mX6_readComparison.2.1 18 = .ok (.bipush 62, 2) := by decide +kernel
theorem dX6_readComparison_20 : decode mX6_readComparison.2.1 20 = .ok (.if_icmp .eq 9, 3) := by decide +kernel
theorem dX6_readComparison_23 : decode mX6_readComparison.2.1 23 = .ok (.iload_n 3, 1) := by decide +kernel
theorem dX6_readComparison_24 : decode mX6_readComparison.2.1 24 = .ok (.bipush 61, 2) := by decide +kernel
theorem dX6_readComparison_26 : decode mX6_readComparison.2.1 26 = .ok (.if_icmp .ne 20, 3) := by decide +kernel
theorem dX6_readComparison_29 : decode mX6_readComparison.2.1 29 = .ok (.aload_n 1, 1) := by decide +kernel
theorem dX6_readComparison_30 : decode mX6_readComparison.2.1 30 = .ok (.iload_n 3, 1) := by decide +kernel
theorem dX6_readComparison_31 : decode mX6_readComparison.2.1 31 = .ok (.invokevirtual 35, 3) := by decide +kernel
theorem dX6_readComparison_34 : decode mX6_readComparison.2.1 34 = .ok (.pop, 1) := by decide +kernel
theorem dX6_readComparison_35 : decode mX6_readComparison.2.1 35 = .ok (.aload_n 0, 1) := by decide +kernel
theorem dX6_readComparison_36 : decode mX6_readComparison.2.1 36 = .ok (.aload_n 1, 1) := by decide +kernel
theorem dX6_readComparison_37 : decode mX6_readComparison.2.1 37 = .ok (.iload_n 2, 1) := by decide +kernel
theorem dX6_readComparison_38 : decode mX6_readComparison.2.1 38 = .ok (.invokevirtual 26, 3) := by decide +kernel
theorem dX6_readComparison_41 : decode mX6_readComparison.2.1 41 = .ok (.aload_n 0, 1) := by decide +kernel
theorem dX6_readComparison_42 : decode mX6_readComparison.2.1 42 = .ok (.iload_n 3, 1) := by decide +kernel
theorem dX6_readComparison_43 : decode mX6_readComparison.2.1 43 = .ok (.invokevirtual 39, 3) := by decide +kernel
theorem dX6_readComparison_46 : decode mX6_readComparison.2.1 46 = .ok (.return_, 1) := by decide +kernel
theorem dX6_readSum_0 : decode mX6_readSum.2.1 0 = .ok (.aload_n 0, 1) := by decide +kernel
theorem dX6_readSum_1 : decode mX6_readSum.2.1 1 = .ok (.aload_n 1, 1) := by decide +kernel
theorem dX6_readSum_2 : decode mX6_readSum.2.1 2 = .ok (.iload_n 2, 1) := by decide +kernel
theorem dX6_readSum_3 : decode mX6_readSum.2.1 3 = .ok (.invokevirtual 43, 3) := by decide +kernel
theorem dX6_readSum_6 : decode mX6_readSum.2.1 6 = .ok (.iconst 0, 1) := by decide +kernel
theorem dX6_readSum_7 : decode mX6_readSum.2.1 7 = .ok (.istore_n 3, 1) := by decide +kernel
theorem dX6_readSum_8 : decode mX6_readSum.2.1 8 = .ok (.iload_n 3, 1) := by decide +kernel
theorem dX6_readSum_9 : decode mX6_readSum.2.1 9 = .ok (.bipush 40, 2) := by decide +kernel
theorem dX6_readSum_11 : decode mX6_readSum.2.1 11 = .ok (.if_icmp .ge 49, 3) := by decide +kernel
theorem dX6_readSum_14 : decode mX6_readSum.2.1 14 = .ok (.aload_n 1, 1) := by decide +kernel
theorem dX6_readSum_15 : decode mX6_readSum.2.1 15 = .ok (.invokevirtual 29, 3) := by decide +kernel
theorem dX6_readSum_18 : decode mX6_readSum.2.1 18 = .ok (.istore 4, 2) := by decide +kernel
theorem dX6_readSum_20 : decode mX6_readSum.2.1 20 = .ok (.iload 4, 2) := by decide +kernel
theorem dX6_readSum_22 : decode mX6_readSum.2.1 22 = .ok (.bipush 43, 2) := by decide +kernel
theorem dX6_readSum_24 : decode mX6_readSum.2.1 24 = .ok (.if_icmp .eq 11, 3) := by decide +kernel
theorem dX6_readSum_27 : decode mX6_readSum.2.1 27 = .ok (.iload 4, 2) := by decide +kernel
theorem dX6_readSum_29 : decode mX6_readSum.2.1 29 = .ok (.bipush 45, 2) := by decide +kernel
theorem dX6_readSum_31 : decode mX6_readSum.2.1 31 = .ok (.if_icmp .eq 4, 3) := by decide +kernel
theorem dX6_readSum_34 : decode mX6_readSum.2.1 34 = .ok (.return_, 1) := by decide +kernel
theorem dX6_readSum_35 : decode mX6_readSum.2.1 35 = .ok (.aload_n 1, 1) := by decide +kernel
theorem dX6_readSum_36 : decode mX6_readSum.2.1 36 = .ok (.iload 4, 2) := by decide +kernel
theorem dX6_readSum_38 : decode mX6_readSum.2.1 38 = .ok (.invokevirtual 35, 3) := by decide +kernel
theorem dX6_readSum_41 : decode mX6_readSum.2.1 41 = .ok (.pop, 1) := by decide +kernel
theorem dX6_readSum_42 : decode mX6_readSum.2.1 42 = .ok (.aload_n 0, 1) := by decide +kernel
theorem dX6_readSum_43 : decode mX6_readSum.2.1 43 = .ok (.aload_n 1, 1) := by decide +kernel
theorem dX6_readSum_44 : decode mX6_readSum.2.1 44 = .ok (.iload_n 2, 1) := by decide +kernel
theorem dX6_readSum_45 : decode mX6_readSum.2.1 45 = .ok (.invokevirtual 43, 3) := by decide +kernel
theorem dX6_readSum_48 : decode mX6_readSum.2.1 48 = .ok (.aload_n 0, 1) := by decide +kernel
theorem dX6_readSum_49 : decode mX6_readSum.2.1 49 = .ok (.iload 4, 2) := by decide +kernel
theorem dX6_readSum_51 : decode mX6_readSum.2.1 51 = .ok (.invokevirtual 39, 3) := by decide +kernel
theorem dX6_readSum_54 : decode mX6_readSum.2.1 54 = .ok (.iinc 3 1, 3) := by decide +kernel
theorem dX6_readSum_57 : decode mX6_readSum.2.1 57 = .ok (.goto (-49), 3) := by decide +kernel
theorem dX6_readSum_60 : decode mX6_readSum.2.1 60 = .ok (.return_, 1) := by decide +kernel
theorem dX6_readProduct_0 : decode mX6_readProduct.2.1 0 = .ok (.aload_n 0, 1) := by decide +kernel
theorem dX6_readProduct_1 : decode mX6_readProduct.2.1 1 = .ok (.aload_n 1, 1) := by decide +kernel
theorem dX6_readProduct_2 : decode mX6_readProduct.2.1 2 = .ok (.iload_n 2, 1) := by decide +kernel
theorem dX6_readProduct_3 : decode mX6_readProduct.2.1 3 = .ok (.invokevirtual 46, 3) := by decide +kernel
theorem dX6_readProduct_6 : decode mX6_readProduct.2.1 6 = .ok (.iconst 0, 1) := by decide +kernel
theorem dX6_readProduct_7 : decode mX6_readProduct.2.1 7 = .ok (.istore_n 3, 1) := by decide +kernel
theorem dX6_readProduct_8 : decode mX6_readProduct.2.1 8 = .ok (.iload_n 3, 1) := by decide +kernel
theorem dX6_readProduct_9 : decode mX6_readProduct.2.1 9 = .ok (.bipush 40, 2) := by decide +kernel
theorem dX6_readProduct_11 : decode mX6_readProduct.2.1 11 = .ok (.if_icmp .ge 49, 3) := by decide +kernel
theorem dX6_readProduct_14 : decode mX6_readProduct.2.1 14 = .ok (.aload_n 1, 1) := by decide +kernel
theorem dX6_readProduct_15 : decode mX6_readProduct.2.1 15 = .ok (.invokevirtual 29, 3) := by decide +kernel
theorem dX6_readProduct_18 : decode mX6_readProduct.2.1 18 = .ok (.istore 4, 2) := by decide +kernel
theorem dX6_readProduct_20 : decode mX6_readProduct.2.1 20 = .ok (.iload 4, 2) := by decide +kernel
theorem dX6_readProduct_22 : decode mX6_readProduct.2.1 22 = .ok (.bipush 42, 2) := by decide +kernel
theorem dX6_readProduct_24 : decode mX6_readProduct.2.1 24 = .ok (.if_icmp .eq 11, 3) := by decide +kernel
theorem dX6_readProduct_27 : decode mX6_readProduct.2.1 27 = .ok (.iload 4, 2) := by decide +kernel
theorem dX6_readProduct_29 : decode mX6_readProduct.2.1 29 = .ok (.bipush 47, 2) := by decide +kernel
theorem dX6_readProduct_31 : decode mX6_readProduct.2.1 31 = .ok (.if_icmp .eq 4, 3) := by decide +kernel
theorem dX6_readProduct_34 : decode mX6_readProduct.2.1 34 = .ok (.return_, 1) := by decide +kernel
theorem dX6_readProduct_35 : decode mX6_readProduct.2.1 35 = .ok (.aload_n 1, 1) := by decide +kernel
theorem dX6_readProduct_36 : decode mX6_readProduct.2.1 36 = .ok (.iload 4, 2) := by decide +kernel
theorem dX6_readProduct_38 : decode mX6_readProduct.2.1 38 = .ok (.invokevirtual 35, 3) := by decide +kernel
theorem dX6_readProduct_41 : decode mX6_readProduct.2.1 41 = .ok (.pop, 1) := by decide +kernel
theorem dX6_readProduct_42 : decode mX6_readProduct.2.1 42 = .ok (.aload_n 0, 1) := by decide +kernel
theorem dX6_readProduct_43 : decode mX6_readProduct.2.1 43 = .ok (.aload_n 1, 1) := by decide +kernel
theorem dX6_readProduct_44 : decode mX6_readProduct.2.1 44 = .ok (.iload_n 2, 1) := by decide +kernel
theorem dX6_readProduct_45 : decode mX6_readProduct.2.1 45 = .ok (.invokevirtual 46, 3) := by decide +kernel
theorem dX6_readProduct_48 : decode mX6_readProduct.2.1 48 = .ok (.aload_n 0, 1) := by decide +kernel
theorem dX6_readProduct_49 : decode mX6_readProduct.2.1 49 = .ok (.iload 4, 2) := by decide +kernel
theorem dX6_readProduct_51 : decode mX6_readProduct.2.1 51 = .ok (.invokevirtual 39, 3) := by decide +kernel
theorem dX6_readProduct_54 : decode mX6_readProduct.2.1 54 = .ok (.iinc 3 1, 3) := by decide +kernel
theorem dX6_readProduct_57 : decode mX6_readProduct.2.1 57 = .ok (.goto (-49), 3) := by decide +kernel
theorem dX6_readProduct_60 : decode mX6_readProduct.2.1 60 = .ok (.return_, 1) := by decide +kernel
theorem dX6_readNegated_0 : decode mX6_readNegated.2.1 0 = .ok (.iconst 0, 1) := by decide +kernel
theorem dX6_readNegated_1 : decode mX6_readNegated.2.1 1 = .ok (.istore_n 3, 1) := by decide +kernel
theorem dX6_readNegated_2 : decode mX6_readNegated.2.1 2 = .ok (.iconst 0, 1) := by decide +kernel
theorem dX6_readNegated_3 : decode mX6_readNegated.2.1 3 = .ok (.istore 4, 2) := by decide +kernel
theorem dX6_readNegated_5 : decode mX6_readNegated.2.1 5 = .ok (.iload 4, 2) := by decide +kernel
theorem dX6_readNegated_7 : decode mX6_readNegated.2.1 7 = .ok (.bipush 40, 2) := by decide +kernel
theorem dX6_readNegated_9 : decode mX6_readNegated.2.1 9 = .ok (.if_icmp .ge 28, 3) := by decide +kernel
theorem dX6_readNegated_12 : decode mX6_readNegated.2.1 12 = .ok (.aload_n 1, 1) := by decide +kernel
theorem dX6_readNegated_13 : decode mX6_readNegated.2.1 13 = .ok (.bipush 45, 2) := by decide +kernel
theorem dX6_readNegated_15 : decode mX6_readNegated.2.1 15 = .ok (.invokevirtual 35, 3) := by decide +kernel
theorem dX6_readNegated_18 : decode mX6_readNegated.2.1 18 = .ok (.ifCond .eq 19, 3) := by decide +kernel
theorem dX6_readNegated_21 : decode mX6_readNegated.2.1 21 = .ok (.iload_n 3, 1) := by decide +kernel
theorem dX6_readNegated_22 : decode mX6_readNegated.2.1 22 = .ok (.ifCond .ne 7, 3) := by decide +kernel
theorem dX6_readNegated_25 : decode mX6_readNegated.2.1 25 = .ok (.iconst 1, 1) := by decide +kernel
theorem dX6_readNegated_26 : decode mX6_readNegated.2.1 26 = .ok (.goto 4, 3) := by decide +kernel
theorem dX6_readNegated_29 : decode mX6_readNegated.2.1 29 = .ok (.iconst 0, 1) := by decide +kernel
theorem dX6_readNegated_30 : decode mX6_readNegated.2.1 30 = .ok (.istore_n 3, 1) := by decide +kernel
theorem dX6_readNegated_31 : decode mX6_readNegated.2.1 31 = .ok (.iinc 4 1, 3) := by decide +kernel
theorem dX6_readNegated_34 : decode mX6_readNegated.2.1 34 = .ok (.goto (-29), 3) := by decide +kernel
theorem dX6_readNegated_37 : decode mX6_readNegated.2.1 37 = .ok (.aload_n 0, 1) := by decide +kernel
theorem dX6_readNegated_38 : decode mX6_readNegated.2.1 38 = .ok (.aload_n 1, 1) := by decide +kernel
theorem dX6_readNegated_39 : decode mX6_readNegated.2.1 39 = .ok (.iload_n 2, 1) := by decide +kernel
theorem dX6_readNegated_40 : decode mX6_readNegated.2.1 40 = .ok (.invokevirtual 49, 3) := by decide +kernel
theorem dX6_readNegated_43 : decode mX6_readNegated.2.1 43 = .ok (.iload_n 3, 1) := by decide +kernel
theorem dX6_readNegated_44 : decode mX6_readNegated.2.1 44 = .ok (.ifCond .eq 9, 3) := by decide +kernel
theorem dX6_readNegated_47 : decode mX6_readNegated.2.1 47 = .ok (.aload_n 0, 1) := by decide +kernel
theorem dX6_readNegated_48 : decode mX6_readNegated.2.1 48 = .ok (.bipush 126, 2) := by decide +kernel
theorem dX6_readNegated_50 : decode mX6_readNegated.2.1 50 = .ok (.invokevirtual 39, 3) := by decide +kernel
theorem dX6_readNegated_53 : decode mX6_readNegated.2.1 53 = .ok (.return_, 1) := by decide +kernel
theorem dX6_readOperand_0 : decode mX6_readOperand.2.1 0 = .ok (.aload_n 1, 1) := by decide +kernel
theorem dX6_readOperand_1 : decode mX6_readOperand.2.1 1 = .ok (.invokevirtual 29, 3) := by decide +kernel
theorem dX6_readOperand_4 : decode mX6_readOperand.2.1 4 = .ok (.istore_n 3, 1) := by decide +kernel
theorem dX6_readOperand_5 : decode mX6_readOperand.2.1 5 = .ok (.iload_n 3, 1) := by decide +kernel
theorem dX6_readOperand_6 : decode mX6_readOperand.2.1 6 = .ok (.bipush 40, 2) := by decide +kernel
theorem dX6_readOperand_8 : decode mX6_readOperand.2.1 8 = .ok (.if_icmp .ne 49, 3) := by decide +kernel
theorem dX6_readOperand_11 : decode mX6_readOperand.2.1 11 = .ok (.aload_n 1, 1) := by decide +kernel
theorem dX6_readOperand_12 : decode mX6_readOperand.2.1 12 = .ok (.iload_n 2, 1) := by decide +kernel
theorem dX6_readOperand_13 : decode mX6_readOperand.2.1 13 = .ok (.iconst 4, 1) := by decide +kernel
theorem dX6_readOperand_14 : decode mX6_readOperand.2.1 14 = .ok (.if_icmp .ge 7, 3) := by decide +kernel
theorem dX6_readOperand_17 : decode mX6_readOperand.2.1 17 = .ok (.iconst 1, 1) := by decide +kernel
theorem dX6_readOperand_18 : decode mX6_readOperand.2.1 18 = .ok (.goto 4, 3) := by decide +kernel
theorem dX6_readOperand_21 : decode mX6_readOperand.2.1 21 = .ok (.iconst 0, 1) := by decide +kernel
theorem dX6_readOperand_22 : decode mX6_readOperand.2.1 22 = .ok (.invokevirtual 52, 3) := by decide +kernel
theorem dX6_readOperand_25 : decode mX6_readOperand.2.1 25 = .ok (.ifCond .eq 69, 3) := by decide +kernel
theorem dX6_readOperand_28 : decode mX6_readOperand.2.1 28 = .ok (.aload_n 1, 1) := by decide +kernel
theorem dX6_readOperand_29 : decode mX6_readOperand.2.1 29 = .ok (.bipush 40, 2) := by decide +kernel
theorem dX6_readOperand_31 : decode mX6_readOperand.2.1 31 = .ok (.invokevirtual 35, 3) := by decide +kernel
theorem dX6_readOperand_34 : decode mX6_readOperand.2.1 34 = .ok (.pop, 1) := by decide +kernel
theorem dX6_readOperand_35 : decode mX6_readOperand.2.1 35 = .ok (.aload_n 0, 1) := by decide +kernel
theorem dX6_readOperand_36 : decode mX6_readOperand.2.1 36 = .ok (.aload_n 1, 1) := by decide +kernel
theorem dX6_readOperand_37 : decode mX6_readOperand.2.1 37 = .ok (.iload_n 2, 1) := by decide +kernel
theorem dX6_readOperand_38 : decode mX6_readOperand.2.1 38 = .ok (.iconst 1, 1) := by decide +kernel
theorem dX6_readOperand_39 : decode mX6_readOperand.2.1 39 = .ok (.iadd, 1) := by decide +kernel
theorem dX6_readOperand_40 : decode mX6_readOperand.2.1 40 = .ok (.invokevirtual 22, 3) := by decide +kernel
theorem dX6_readOperand_43 : decode mX6_readOperand.2.1 43 = .ok (.aload_n 1, 1) := by decide +kernel
theorem dX6_readOperand_44 : decode mX6_readOperand.2.1 44 = .ok (.aload_n 1, 1) := by decide +kernel
theorem dX6_readOperand_45 : decode mX6_readOperand.2.1 45 = .ok (.bipush 41, 2) := by decide +kernel
theorem dX6_readOperand_47 : decode mX6_readOperand.2.1 47 = .ok (.invokevirtual 35, 3) := by decide +kernel
theorem dX6_readOperand_50 : decode mX6_readOperand.2.1 50 = .ok (.invokevirtual 52, 3) := by decide +kernel
theorem dX6_readOperand_53 : decode mX6_readOperand.2.1 53 = .ok (.pop, 1) := by decide +kernel
theorem dX6_readOperand_54 : decode mX6_readOperand.2.1 54 = .ok (.goto 40, 3) := by decide +kernel
theorem dX6_readOperand_57 : decode mX6_readOperand.2.1 57 = .ok (.aload_n 1, 1) := by decide +kernel
theorem dX6_readOperand_58 : decode mX6_readOperand.2.1 58 = .ok (.invokevirtual 56, 3) := by decide +kernel
theorem dX6_readOperand_61 : decode mX6_readOperand.2.1 61 = .ok (.ifCond .eq 11, 3) := by decide +kernel
theorem dX6_readOperand_64 : decode mX6_readOperand.2.1 64 = .ok (.aload_n 0, 1) := by decide +kernel
theorem dX6_readOperand_65 : decode mX6_readOperand.2.1 65 = .ok (.aload_n 1, 1) := by decide +kernel
theorem dX6_readOperand_66 : decode mX6_readOperand.2.1 66 = .ok (.invokevirtual 60, 3) := by decide +kernel
theorem dX6_readOperand_69 : decode mX6_readOperand.2.1 69 = .ok (.goto 25, 3) := by decide +kernel
theorem dX6_readOperand_72 : decode mX6_readOperand.2.1 72 = .ok (.aload_n 1, 1) := by decide +kernel
theorem dX6_readOperand_73 : decode mX6_readOperand.2.1 73 = .ok (.iload_n 3, 1) := by decide +kernel
theorem dX6_readOperand_74 : decode mX6_readOperand.2.1 74 = .ok (.invokestatic 64, 3) := by decide +kernel
theorem dX6_readOperand_77 : decode mX6_readOperand.2.1 77 = .ok (.invokevirtual 52, 3) := by decide +kernel
theorem dX6_readOperand_80 : decode mX6_readOperand.2.1 80 = .ok (.ifCond .eq 14, 3) := by decide +kernel
theorem dX6_readOperand_83 : decode mX6_readOperand.2.1 83 = .ok (.aload_n 1, 1) := by decide +kernel
theorem dX6_readOperand_84 : decode mX6_readOperand.2.1 84 = .ok (.iload_n 3, 1) := by decide +kernel
theorem dX6_readOperand_85 : decode mX6_readOperand.2.1 85 = .ok (.invokevirtual 35, 3) := by decide +kernel
theorem dX6_readOperand_88 : decode mX6_readOperand.2.1 88 = .ok (.pop, 1) := by decide +kernel
theorem dX6_readOperand_89 : decode mX6_readOperand.2.1 89 = .ok (.aload_n 0, 1) := by decide +kernel
theorem dX6_readOperand_90 : decode mX6_readOperand.2.1 90 = .ok (.iload_n 3, 1) := by decide +kernel
theorem dX6_readOperand_91 : decode mX6_readOperand.2.1 91 = .ok (.invokevirtual 39, 3) := by decide +kernel
theorem dX6_readOperand_94 : decode mX6_readOperand.2.1 94 = .ok (.return_, 1) := by decide +kernel
theorem dX6_readNumber_0 : decode mX6_readNumber.2.1 0 = .ok (.iconst 0, 1) := by decide +kernel
theorem dX6_readNumber_1 : decode mX6_readNumber.2.1 1 = .ok (.istore_n 2, 1) := by decide +kernel
theorem dX6_readNumber_2 : decode mX6_readNumber.2.1 2 = .ok (.iconst 0, 1) := by decide +kernel
theorem dX6_readNumber_3 : decode mX6_readNumber.2.1 3 = .ok (.istore_n 3, 1) := by decide +kernel
theorem dX6_readNumber_4 : decode mX6_readNumber.2.1 4 = .ok (.iload_n 3, 1) := by decide +kernel
theorem dX6_readNumber_5 : decode mX6_readNumber.2.1 5 = .ok (.iconst 3, 1) := by decide +kernel
theorem dX6_readNumber_6 : decode mX6_readNumber.2.1 6 = .ok (.if_icmp .ge 28, 3) := by decide +kernel
theorem dX6_readNumber_9 : decode mX6_readNumber.2.1 9 = .ok (.aload_n 1, 1) := by decide +kernel
theorem dX6_readNumber_10 : decode mX6_readNumber.2.1 10 = .ok (.invokevirtual 56, 3) := by decide +kernel
theorem dX6_readNumber_13 : decode mX6_readNumber.2.1 13 = .ok (.ifCond .eq 21, 3) := by decide +kernel
theorem dX6_readNumber_16 : decode mX6_readNumber.2.1 16 = .ok (.iload_n 2, 1) := by decide +kernel
theorem dX6_readNumber_17 : decode mX6_readNumber.2.1 17 = .ok (.bipush 10, 2) := by decide +kernel
theorem dX6_readNumber_19 : decode mX6_readNumber.2.1 19 = .ok (.imul, 1) := by decide +kernel
theorem dX6_readNumber_20 : decode mX6_readNumber.2.1 20 = .ok (.aload_n 1, 1) := by decide +kernel
theorem dX6_readNumber_21 : decode mX6_readNumber.2.1 21 = .ok (.bipush 10, 2) := by decide +kernel
theorem dX6_readNumber_23 : decode mX6_readNumber.2.1 23 = .ok (.invokevirtual 67, 3) := by decide +kernel
theorem dX6_readNumber_26 : decode mX6_readNumber.2.1 26 = .ok (.iadd, 1) := by decide +kernel
theorem dX6_readNumber_27 : decode mX6_readNumber.2.1 27 = .ok (.istore_n 2, 1) := by decide +kernel
theorem dX6_readNumber_28 : decode mX6_readNumber.2.1 28 = .ok (.iinc 3 1, 3) := by decide +kernel
theorem dX6_readNumber_31 : decode mX6_readNumber.2.1 31 = .ok (.goto (-27), 3) := by decide +kernel
theorem dX6_readNumber_34 : decode mX6_readNumber.2.1 34 = .ok (.aload_n 0, 1) := by decide +kernel
theorem dX6_readNumber_35 : decode mX6_readNumber.2.1 35 = .ok (.sipush 1000, 3) := by decide +kernel
theorem dX6_readNumber_38 : decode mX6_readNumber.2.1 38 = .ok (.iload_n 2, 1) := by decide +kernel
theorem dX6_readNumber_39 : decode mX6_readNumber.2.1 39 = .ok (.iadd, 1) := by decide +kernel
theorem dX6_readNumber_40 : decode mX6_readNumber.2.1 40 = .ok (.invokevirtual 39, 3) := by decide +kernel
theorem dX6_readNumber_43 : decode mX6_readNumber.2.1 43 = .ok (.return_, 1) := by decide +kernel
theorem dX6_isName_0 : decode mX6_isName.2.1 0 = .ok (.iload_n 0, 1) := by decide +kernel
theorem dX6_isName_1 : decode mX6_isName.2.1 1 = .ok (.bipush 107, 2) := by decide +kernel
theorem dX6_isName_3 : decode mX6_isName.2.1 3 = .ok (.if_icmp .eq 33, 3) := by decide +kernel
theorem dX6_isName_6 : decode mX6_isName.2.1 6 = .ok (.iload_n 0, 1) := by decide +kernel
theorem dX6_isName_7 : decode mX6_isName.2.1 7 = .ok (.bipush 115, 2) := by decide +kernel
theorem dX6_isName_9 : decode mX6_isName.2.1 9 = .ok (.if_icmp .eq 27, 3) := by decide +kernel
theorem dX6_isName_12 : decode mX6_isName.2.1 12 = .ok (.iload_n 0, 1) := by decide +kernel
theorem dX6_isName_13 : decode mX6_isName.2.1 13 = .ok (.bipush 108, 2) := by decide +kernel
theorem dX6_isName_15 : decode mX6_isName.2.1 15 = .ok (.if_icmp .eq 21, 3) := by decide +kernel
theorem dX6_isName_18 : decode mX6_isName.2.1 18 = .ok (.iload_n 0, 1) := by decide +kernel
theorem dX6_isName_19 : decode mX6_isName.2.1 19 = .ok (.bipush 104, 2) := by decide +kernel
theorem dX6_isName_21 : decode mX6_isName.2.1 21 = .ok (.if_icmp .eq 15, 3) := by decide +kernel
theorem dX6_isName_24 : decode mX6_isName.2.1 24 = .ok (.iload_n 0, 1) := by decide +kernel
theorem dX6_isName_25 : decode mX6_isName.2.1 25 = .ok (.bipush 110, 2) := by decide +kernel
theorem dX6_isName_27 : decode mX6_isName.2.1 27 = .ok (.if_icmp .eq 9, 3) := by decide +kernel
theorem dX6_isName_30 : decode mX6_isName.2.1 30 = .ok (.iload_n 0, 1) := by decide +kernel
theorem dX6_isName_31 : decode mX6_isName.2.1 31 = .ok (.bipush 116, 2) := by decide +kernel
theorem dX6_isName_33 : decode mX6_isName.2.1 33 = .ok (.if_icmp .ne 7, 3) := by decide +kernel
theorem dX6_isName_36 : decode mX6_isName.2.1 36 = .ok (.iconst 1, 1) := by decide +kernel
theorem dX6_isName_37 : decode mX6_isName.2.1 37 = .ok (.goto 4, 3) := by decide +kernel
theorem dX6_isName_40 : decode mX6_isName.2.1 40 = .ok (.iconst 0, 1) := by decide +kernel
theorem dX6_isName_41 : decode mX6_isName.2.1 41 = .ok (.ireturn, 1) := by decide +kernel
theorem dX6_lets_0 : decode mX6_lets.2.1 0 = .ok (.aload_n 0, 1) := by decide +kernel
theorem dX6_lets_1 : decode mX6_lets.2.1 1 = .ok (.getfield 18, 3) := by decide +kernel
theorem dX6_lets_4 : decode mX6_lets.2.1 4 = .ok (.ifCond .ne 12, 3) := by decide +kernel
theorem dX6_lets_7 : decode mX6_lets.2.1 7 = .ok (.iload_n 1, 1) := by decide +kernel
theorem dX6_lets_8 : decode mX6_lets.2.1 8 = .ok (.iload_n 2, 1) := by decide +kernel
theorem dX6_lets_9 : decode mX6_lets.2.1 9 = .ok (.iload_n 3, 1) := by decide +kernel
theorem dX6_lets_10 : decode mX6_lets.2.1 10 = .ok (.iload 4, 2) := by decide +kernel
theorem dX6_lets_12 : decode mX6_lets.2.1 12 = .ok (.invokestatic 71, 3) := by decide +kernel
theorem dX6_lets_15 : decode mX6_lets.2.1 15 = .ok (.ireturn, 1) := by decide +kernel
theorem dX6_lets_16 : decode mX6_lets.2.1 16 = .ok (.iconst 0, 1) := by decide +kernel
theorem dX6_lets_17 : decode mX6_lets.2.1 17 = .ok (.istore 6, 2) := by decide +kernel
theorem dX6_lets_19 : decode mX6_lets.2.1 19 = .ok (.iconst 0, 1) := by decide +kernel
theorem dX6_lets_20 : decode mX6_lets.2.1 20 = .ok (.istore 7, 2) := by decide +kernel
theorem dX6_lets_22 : decode mX6_lets.2.1 22 = .ok (.iload 7, 2) := by decide +kernel
theorem dX6_lets_24 : decode mX6_lets.2.1 24 = .ok (.aload_n 0, 1) := by decide +kernel
theorem dX6_lets_25 : decode mX6_lets.2.1 25 = .ok (.getfield 18, 3) := by decide +kernel
theorem dX6_lets_28 : decode mX6_lets.2.1 28 = .ok (.if_icmp .ge 165, 3) := by decide +kernel
theorem dX6_lets_31 : decode mX6_lets.2.1 31 = .ok (.aload_n 0, 1) := by decide +kernel
theorem dX6_lets_32 : decode mX6_lets.2.1 32 = .ok (.getfield 9, 3) := by decide +kernel
theorem dX6_lets_35 : decode mX6_lets.2.1 35 = .ok (.iload 7, 2) := by decide +kernel
theorem dX6_lets_37 : decode mX6_lets.2.1 37 = .ok (.iaload, 1) := by decide +kernel
theorem dX6_lets_38 : decode mX6_lets.2.1 38 = .ok (.istore 8, 2) := by decide +kernel
theorem dX6_lets_40 : decode mX6_lets.2.1 40 = .ok (.iload 8, 2) := by decide +kernel
theorem dX6_lets_42 : decode mX6_lets.2.1 42 = .ok (.bipush 126, 2) := by decide +kernel
theorem dX6_lets_44 : decode mX6_lets.2.1 44 = .ok (.if_icmp .ne 30, 3) := by decide +kernel
theorem dX6_lets_47 : decode mX6_lets.2.1 47 = .ok (.iload 6, 2) := by decide +kernel
theorem dX6_lets_49 : decode mX6_lets.2.1 49 = .ok (.ifCond .le 25, 3) := by decide +kernel
theorem dX6_lets_52 : decode mX6_lets.2.1 52 = .ok (.aload_n 0, 1) := by decide +kernel
theorem dX6_lets_53 : decode mX6_lets.2.1 53 = .ok (.getfield 15, 3) := by decide +kernel
theorem dX6_lets_56 : decode mX6_lets.2.1 56 = .ok (.iload 6, 2) := by decide +kernel
theorem dX6_lets_58 : decode mX6_lets.2.1 58 = .ok (.iconst 1, 1) := by decide +kernel
theorem dX6_lets_59 : decode mX6_lets.2.1 59 = .ok (.isub, 1) := by decide +kernel
theorem dX6_lets_60 : decode mX6_lets.2.1 60 = .ok (.aload_n 0, 1) := by decide +kernel
theorem dX6_lets_61 : decode mX6_lets.2.1 61 = .ok (.getfield 15, 3) := by decide +kernel
theorem dX6_lets_64 : decode mX6_lets.2.1 64 = .ok (.iload 6, 2) := by decide +kernel
theorem dX6_lets_66 : decode mX6_lets.2.1 66 = .ok (.iconst 1, 1) := by decide +kernel
theorem dX6_lets_67 : decode mX6_lets.2.1 67 = .ok (.isub, 1) := by decide +kernel
theorem dX6_lets_68 : decode mX6_lets.2.1 68 = .ok (.iaload, 1) := by decide +kernel
theorem dX6_lets_69 : decode mX6_lets.2.1 69 = .ok (.ineg, 1) := by decide +kernel
theorem dX6_lets_70 : decode mX6_lets.2.1 70 = .ok (.iastore, 1) := by decide +kernel
theorem dX6_lets_71 : decode mX6_lets.2.1 71 = .ok (.goto 116, 3) := by decide +kernel
theorem dX6_lets_74 : decode mX6_lets.2.1 74 = .ok (.iload 8, 2) := by decide +kernel
theorem dX6_lets_76 : decode mX6_lets.2.1 76 = .ok (.sipush 1000, 3) := by decide +kernel
theorem dX6_lets_79 : decode mX6_lets.2.1 79 = .ok (.if_icmp .lt 29, 3) := by decide +kernel
theorem dX6_lets_82 : decode mX6_lets.2.1 82 = .ok (.iload 6, 2) := by decide +kernel
theorem dX6_lets_84 : decode mX6_lets.2.1 84 = .ok (.bipush 40, 2) := by decide +kernel
theorem dX6_lets_86 : decode mX6_lets.2.1 86 = .ok (.if_icmp .ge 22, 3) := by decide +kernel
theorem dX6_lets_89 : decode mX6_lets.2.1 89 = .ok (.aload_n 0, 1) := by decide +kernel
theorem dX6_lets_90 : decode mX6_lets.2.1 90 = .ok (.getfield 15, 3) := by decide +kernel
theorem dX6_lets_93 : decode mX6_lets.2.1 93 = .ok (.iload 6, 2) := by decide +kernel
theorem dX6_lets_95 : decode mX6_lets.2.1 95 = .ok (.iload 8, 2) := by decide +kernel
theorem dX6_lets_97 : decode mX6_lets.2.1 97 = .ok (.sipush 1000, 3) := by decide +kernel
theorem dX6_lets_100 : decode mX6_lets.2.1 100 = .ok (.isub, 1) := by decide +kernel
theorem dX6_lets_101 : decode mX6_lets.2.1 101 = .ok (.iastore, 1) := by decide +kernel
theorem dX6_lets_102 : decode mX6_lets.2.1 102 = .ok (.iinc 6 1, 3) := by decide +kernel
theorem dX6_lets_105 : decode mX6_lets.2.1 105 = .ok (.goto 82, 3) := by decide +kernel
theorem dX6_lets_108 : decode mX6_lets.2.1 108 = .ok (.iload 8, 2) := by decide +kernel
theorem dX6_lets_110 : decode mX6_lets.2.1 110 = .ok (.invokestatic 64, 3) := by decide +kernel
theorem dX6_lets_113 : decode mX6_lets.2.1 113 = .ok (.ifCond .eq 35, 3) := by decide +kernel
theorem dX6_lets_116 : decode mX6_lets.2.1 116 = .ok (.iload 6, 2) := by decide +kernel
theorem dX6_lets_118 : decode mX6_lets.2.1 118 = .ok (.bipush 40, 2) := by decide +kernel
theorem dX6_lets_120 : decode mX6_lets.2.1 120 = .ok (.if_icmp .ge 28, 3) := by decide +kernel
theorem dX6_lets_123 : decode mX6_lets.2.1 123 = .ok (.aload_n 0, 1) := by decide +kernel
theorem dX6_lets_124 : decode mX6_lets.2.1 124 = .ok (.getfield 15, 3) := by decide +kernel
theorem dX6_lets_127 : decode mX6_lets.2.1 127 = .ok (.iload 6, 2) := by decide +kernel
theorem dX6_lets_129 : decode mX6_lets.2.1 129 = .ok (.iload 8, 2) := by decide +kernel
theorem dX6_lets_131 : decode mX6_lets.2.1 131 = .ok (.iload_n 1, 1) := by decide +kernel
theorem dX6_lets_132 : decode mX6_lets.2.1 132 = .ok (.iload_n 2, 1) := by decide +kernel
theorem dX6_lets_133 : decode mX6_lets.2.1 133 = .ok (.iload_n 3, 1) := by decide +kernel
theorem dX6_lets_134 : decode mX6_lets.2.1 134 = .ok (.iload 4, 2) := by decide +kernel
theorem dX6_lets_136 : decode mX6_lets.2.1 136 = .ok (.iload 5, 2) := by decide +kernel
theorem dX6_lets_138 : decode mX6_lets.2.1 138 = .ok (.invokestatic 75, 3) := by decide +kernel
theorem dX6_lets_141 : decode mX6_lets.2.1 141 = .ok (.iastore, 1) := by decide +kernel
theorem dX6_lets_142 : decode mX6_lets.2.1 142 = .ok (.iinc 6 1, 3) := by decide +kernel
theorem dX6_lets_145 : decode mX6_lets.2.1 145 = .ok (.goto 42, 3) := by decide +kernel
theorem dX6_lets_148 : decode mX6_lets.2.1 148 = .ok (.iload 6, 2) := by decide +kernel
theorem dX6_lets_150 : decode mX6_lets.2.1 150 = .ok (.iconst 1, 1) := by decide +kernel
theorem dX6_lets_151 : decode mX6_lets.2.1 151 = .ok (.if_icmp .le 36, 3) := by decide +kernel
theorem dX6_lets_154 : decode mX6_lets.2.1 154 = .ok (.iinc 6 (-1), 3) := by decide +kernel
theorem dX6_lets_157 : decode mX6_lets.2.1 157 = .ok (.aload_n 0, 1) := by decide +kernel
theorem dX6_lets_158 : decode mX6_lets.2.1 158 = .ok (.getfield 15, 3) := by decide +kernel
theorem dX6_lets_161 : decode mX6_lets.2.1 161 = .ok (.iload 6, 2) := by decide +kernel
theorem dX6_lets_163 : decode mX6_lets.2.1 163 = .ok (.iconst 1, 1) := by decide +kernel
theorem dX6_lets_164 : decode mX6_lets.2.1 164 = .ok (.isub, 1) := by decide +kernel
theorem dX6_lets_165 : decode mX6_lets.2.1 165 = .ok (.iload 8, 2) := by decide +kernel
theorem dX6_lets_167 : decode mX6_lets.2.1 167 = .ok (.aload_n 0, 1) := by decide +kernel
theorem dX6_lets_168 : decode mX6_lets.2.1 168 = .ok (.getfield 15, 3) := by decide +kernel
theorem dX6_lets_171 : decode mX6_lets.2.1 171 = .ok (.iload 6, 2) := by decide +kernel
theorem dX6_lets_173 : decode mX6_lets.2.1 173 = .ok (.iconst 1, 1) := by decide +kernel
theorem dX6_lets_174 : decode mX6_lets.2.1 174 = .ok (.isub, 1) := by decide +kernel
theorem dX6_lets_175 : decode mX6_lets.2.1 175 = .ok (.iaload, 1) := by decide +kernel
theorem dX6_lets_176 : decode mX6_lets.2.1 176 = .ok (.aload_n 0, 1) := by decide +kernel
theorem dX6_lets_177 : decode mX6_lets.2.1 177 = .ok (.getfield 15, 3) := by decide +kernel
theorem dX6_lets_180 : decode mX6_lets.2.1 180 = .ok (.iload 6, 2) := by decide +kernel
theorem dX6_lets_182 : decode mX6_lets.2.1 182 = .ok (.iaload, 1) := by decide +kernel
theorem dX6_lets_183 : decode mX6_lets.2.1 183 = .ok (.invokestatic 79, 3) := by decide +kernel
theorem dX6_lets_186 : decode mX6_lets.2.1 186 = .ok (.iastore, 1) := by decide +kernel
theorem dX6_lets_187 : decode mX6_lets.2.1 187 = .ok (.iinc 7 1, 3) := by decide +kernel
theorem dX6_lets_190 : decode mX6_lets.2.1 190 = .ok (.goto (-168), 3) := by decide +kernel
theorem dX6_lets_193 : decode mX6_lets.2.1 193 = .ok (.aload_n 0, 1) := by decide +kernel
theorem dX6_lets_194 : decode mX6_lets.2.1 194 = .ok (.getfield 15, 3) := by decide +kernel
theorem dX6_lets_197 : decode mX6_lets.2.1 197 = .ok (.iconst 0, 1) := by decide +kernel
theorem dX6_lets_198 : decode mX6_lets.2.1 198 = .ok (.iaload, 1) := by decide +kernel
theorem dX6_lets_199 : decode mX6_lets.2.1 199 = .ok (.ifCond .eq 7, 3) := by decide +kernel
theorem dX6_lets_202 : decode mX6_lets.2.1 202 = .ok (.iconst 1, 1) := by decide +kernel
theorem dX6_lets_203 : decode mX6_lets.2.1 203 = .ok (.goto 4, 3) := by decide +kernel
theorem dX6_lets_206 : decode mX6_lets.2.1 206 = .ok (.iconst 0, 1) := by decide +kernel
theorem dX6_lets_207 : decode mX6_lets.2.1 207 = .ok (.ireturn, 1) := by decide +kernel
theorem dX6_named_0 : decode mX6_named.2.1 0 = .ok (.iload_n 0, 1) := by decide +kernel
theorem dX6_named_1 : decode mX6_named.2.1 1 = .ok (.tableswitch 81 104 115 #[70, 81, 81, 63, 68, 81, 76, 81, 81, 81, 81, 65], 63) := by decide +kernel
theorem dX6_named_64 : decode mX6_named.2.1 64 = .ok (.iload_n 3, 1) := by decide +kernel
theorem dX6_named_65 : decode mX6_named.2.1 65 = .ok (.ireturn, 1) := by decide +kernel
theorem dX6_named_66 : decode mX6_named.2.1 66 = .ok (.iload 4, 2) := by decide +kernel
theorem dX6_named_68 : decode mX6_named.2.1 68 = .ok (.ireturn, 1) := by decide +kernel
theorem dX6_named_69 : decode mX6_named.2.1 69 = .ok (.iload_n 1, 1) := by decide +kernel
theorem dX6_named_70 : decode mX6_named.2.1 70 = .ok (.ireturn, 1) := by decide +kernel
theorem dX6_named_71 : decode mX6_named.2.1 71 = .ok (.iload_n 2, 1) := by decide +kernel
theorem dX6_named_72 : decode mX6_named.2.1 72 = .ok (.iload_n 3, 1) := by decide +kernel
theorem dX6_named_73 : decode mX6_named.2.1 73 = .ok (.iushr, 1) := by decide +kernel
theorem dX6_named_74 : decode mX6_named.2.1 74 = .ok (.iconst 1, 1) := by decide +kernel
theorem dX6_named_75 : decode mX6_named.2.1 75 = .ok (.iand, 1) := by decide +kernel
theorem dX6_named_76 : decode mX6_named.2.1 76 = .ok (.ireturn, 1) := by decide +kernel
theorem dX6_named_77 : decode mX6_named.2.1 77 = .ok (.iload_n 2, 1) := by decide +kernel
theorem dX6_named_78 : decode mX6_named.2.1 78 = .ok (.invokestatic 83, 3) := by decide +kernel
theorem dX6_named_81 : decode mX6_named.2.1 81 = .ok (.ireturn, 1) := by decide +kernel
theorem dX6_named_82 : decode mX6_named.2.1 82 = .ok (.iload 5, 2) := by decide +kernel
theorem dX6_named_84 : decode mX6_named.2.1 84 = .ok (.bipush 24, 2) := by decide +kernel
theorem dX6_named_86 : decode mX6_named.2.1 86 = .ok (.irem, 1) := by decide +kernel
theorem dX6_named_87 : decode mX6_named.2.1 87 = .ok (.ireturn, 1) := by decide +kernel
theorem dX6_joined_0 : decode mX6_joined.2.1 0 = .ok (.iload_n 0, 1) := by decide +kernel
theorem dX6_joined_1 : decode mX6_joined.2.1 1 = .ok (.lookupswitch 105 #[(42, 67), (43, 59), (45, 63), (47, 71), (60, 83), (62, 94)], 59) := by decide +kernel
theorem dX6_joined_60 : decode mX6_joined.2.1 60 = .ok (.iload_n 1, 1) := by decide +kernel
theorem dX6_joined_61 : decode mX6_joined.2.1 61 = .ok (.iload_n 2, 1) := by decide +kernel
theorem dX6_joined_62 : decode mX6_joined.2.1 62 = .ok (.iadd, 1) := by decide +kernel
theorem dX6_joined_63 : decode mX6_joined.2.1 63 = .ok (.ireturn, 1) := by decide +kernel
theorem dX6_joined_64 : decode mX6_joined.2.1 64 = .ok (.iload_n 1, 1) := by decide +kernel
theorem dX6_joined_65 : decode mX6_joined.2.1 65 = .ok (.iload_n 2, 1) := by decide +kernel
theorem dX6_joined_66 : decode mX6_joined.2.1 66 = .ok (.isub, 1) := by decide +kernel
theorem dX6_joined_67 : decode mX6_joined.2.1 67 = .ok (.ireturn, 1) := by decide +kernel
theorem dX6_joined_68 : decode mX6_joined.2.1 68 = .ok (.iload_n 1, 1) := by decide +kernel
theorem dX6_joined_69 : decode mX6_joined.2.1 69 = .ok (.iload_n 2, 1) := by decide +kernel
theorem dX6_joined_70 : decode mX6_joined.2.1 70 = .ok (.imul, 1) := by decide +kernel
theorem dX6_joined_71 : decode mX6_joined.2.1 71 = .ok (.ireturn, 1) := by decide +kernel
theorem dX6_joined_72 : decode mX6_joined.2.1 72 = .ok (.iload_n 2, 1) := by decide +kernel
theorem dX6_joined_73 : decode mX6_joined.2.1 73 = .ok (.ifCond .ne 7, 3) := by decide +kernel
theorem dX6_joined_76 : decode mX6_joined.2.1 76 = .ok (.iconst 0, 1) := by decide +kernel
theorem dX6_joined_77 : decode mX6_joined.2.1 77 = .ok (.goto 6, 3) := by decide +kernel
theorem dX6_joined_80 : decode mX6_joined.2.1 80 = .ok (.iload_n 1, 1) := by decide +kernel
theorem dX6_joined_81 : decode mX6_joined.2.1 81 = .ok (.iload_n 2, 1) := by decide +kernel
theorem dX6_joined_82 : decode mX6_joined.2.1 82 = .ok (.idiv, 1) := by decide +kernel
theorem dX6_joined_83 : decode mX6_joined.2.1 83 = .ok (.ireturn, 1) := by decide +kernel
theorem dX6_joined_84 : decode mX6_joined.2.1 84 = .ok (.iload_n 1, 1) := by decide +kernel
theorem dX6_joined_85 : decode mX6_joined.2.1 85 = .ok (.iload_n 2, 1) := by decide +kernel
theorem dX6_joined_86 : decode mX6_joined.2.1 86 = .ok (.if_icmp .ge 7, 3) := by decide +kernel
theorem dX6_joined_89 : decode mX6_joined.2.1 89 = .ok (.iconst 1, 1) := by decide +kernel
theorem dX6_joined_90 : decode mX6_joined.2.1 90 = .ok (.goto 4, 3) := by decide +kernel
theorem dX6_joined_93 : decode mX6_joined.2.1 93 = .ok (.iconst 0, 1) := by decide +kernel
theorem dX6_joined_94 : decode mX6_joined.2.1 94 = .ok (.ireturn, 1) := by decide +kernel
theorem dX6_joined_95 : decode mX6_joined.2.1 95 = .ok (.iload_n 1, 1) := by decide +kernel
theorem dX6_joined_96 : decode mX6_joined.2.1 96 = .ok (.iload_n 2, 1) := by decide +kernel
theorem dX6_joined_97 : decode mX6_joined.2.1 97 = .ok (.if_icmp .le 7, 3) := by decide +kernel
theorem dX6_joined_100 : decode mX6_joined.2.1 100 = .ok (.iconst 1, 1) := by decide +kernel
theorem dX6_joined_101 : decode mX6_joined.2.1 101 = .ok (.goto 4, 3) := by decide +kernel
theorem dX6_joined_104 : decode mX6_joined.2.1 104 = .ok (.iconst 0, 1) := by decide +kernel
theorem dX6_joined_105 : decode mX6_joined.2.1 105 = .ok (.ireturn, 1) := by decide +kernel
theorem dX6_joined_106 : decode mX6_joined.2.1 106 = .ok (.iload_n 1, 1) := by decide +kernel
theorem dX6_joined_107 : decode mX6_joined.2.1 107 = .ok (.iload_n 2, 1) := by decide +kernel
theorem dX6_joined_108 : decode mX6_joined.2.1 108 = .ok (.if_icmp .ne 7, 3) := by decide +kernel
theorem dX6_joined_111 : decode mX6_joined.2.1 111 = .ok (.iconst 1, 1) := by decide +kernel
theorem dX6_joined_112 : decode mX6_joined.2.1 112 = .ok (.goto 4, 3) := by decide +kernel
theorem dX6_joined_115 : decode mX6_joined.2.1 115 = .ok (.iconst 0, 1) := by decide +kernel
theorem dX6_joined_116 : decode mX6_joined.2.1 116 = .ok (.ireturn, 1) := by decide +kernel
theorem dX7_init_0 : decode mX7_init.2.1 0 = .ok (.aload_n 0, 1) := by decide +kernel
theorem dX7_init_1 : decode mX7_init.2.1 1 = .ok (.invokespecial 3, 3) := by decide +kernel
theorem dX7_init_4 : decode mX7_init.2.1 4 = .ok (.aload_n 0, 1) := by decide +kernel
theorem dX7_init_5 : decode mX7_init.2.1 5 = .ok (.bipush 80, 2) := by decide +kernel
theorem dX7_init_7 : decode mX7_init.2.1 7 = .ok (.newarray .int, 2) := by decide +kernel
theorem dX7_init_9 : decode mX7_init.2.1 9 = .ok (.putfield 9, 3) := by decide +kernel
theorem dX7_init_12 : decode mX7_init.2.1 12 = .ok (.return_, 1) := by decide +kernel
theorem dX7_add_0 : decode mX7_add.2.1 0 = .ok (.aload_n 0, 1) := by decide +kernel
theorem dX7_add_1 : decode mX7_add.2.1 1 = .ok (.getfield 15, 3) := by decide +kernel
theorem dX7_add_4 : decode mX7_add.2.1 4 = .ok (.bipush 76, 2) := by decide +kernel
theorem dX7_add_6 : decode mX7_add.2.1 6 = .ok (.if_icmp .le 5, 3) := by decide +kernel
theorem dX7_add_9 : decode mX7_add.2.1 9 = .ok (.iconst (-1), 1) := by decide +kernel
theorem dX7_add_10 : decode mX7_add.2.1 10 = .ok (.ireturn, 1) := by decide +kernel
theorem dX7_add_11 : decode mX7_add.2.1 11 = .ok (.iconst 0, 1) := by decide +kernel
theorem dX7_add_12 : decode mX7_add.2.1 12 = .ok (.istore_n 2, 1) := by decide +kernel
theorem dX7_add_13 : decode mX7_add.2.1 13 = .ok (.iload_n 2, 1) := by decide +kernel
theorem dX7_add_14 : decode mX7_add.2.1 14 = .ok (.iconst 4, 1) := by decide +kernel
theorem dX7_add_15 : decode mX7_add.2.1 15 = .ok (.if_icmp .ge 33, 3) := by decide +kernel
theorem dX7_add_18 : decode mX7_add.2.1 18 = .ok (.aload_n 0, 1) := by decide +kernel
theorem dX7_add_19 : decode mX7_add.2.1 19 = .ok (.getfield 9, 3) := by decide +kernel
theorem dX7_add_22 : decode mX7_add.2.1 22 = .ok (.aload_n 0, 1) := by decide +kernel
theorem dX7_add_23 : decode mX7_add.2.1 23 = .ok (.getfield 15, 3) := by decide +kernel
theorem dX7_add_26 : decode mX7_add.2.1 26 = .ok (.iload_n 2, 1) := by decide +kernel
theorem dX7_add_27 : decode mX7_add.2.1 27 = .ok (.iadd, 1) := by decide +kernel
theorem dX7_add_28 : decode mX7_add.2.1 28 = .ok (.iload_n 1, 1) := by decide +kernel
theorem dX7_add_29 : decode mX7_add.2.1 29 = .ok (.bipush 24, 2) := by decide +kernel
theorem dX7_add_31 : decode mX7_add.2.1 31 = .ok (.bipush 8, 2) := by decide +kernel
theorem dX7_add_33 : decode mX7_add.2.1 33 = .ok (.iload_n 2, 1) := by decide +kernel
theorem dX7_add_34 : decode mX7_add.2.1 34 = .ok (.imul, 1) := by decide +kernel
theorem dX7_add_35 : decode mX7_add.2.1 35 = .ok (.isub, 1) := by decide +kernel
theorem dX7_add_36 : decode mX7_add.2.1 36 = .ok (.iushr, 1) := by decide +kernel
theorem dX7_add_37 : decode mX7_add.2.1 37 = .ok (.sipush 255, 3) := by decide +kernel
theorem dX7_add_40 : decode mX7_add.2.1 40 = .ok (.iand, 1) := by decide +kernel
theorem dX7_add_41 : decode mX7_add.2.1 41 = .ok (.iastore, 1) := by decide +kernel
theorem dX7_add_42 : decode mX7_add.2.1 42 = .ok (.iinc 2 1, 3) := by decide +kernel
theorem dX7_add_45 : decode mX7_add.2.1 45 = .ok (.goto (-32), 3) := by decide +kernel
theorem dX7_add_48 : decode mX7_add.2.1 48 = .ok (.aload_n 0, 1) := by decide +kernel
theorem dX7_add_49 : decode mX7_add.2.1 49 = .ok (.dup, 1) := by decide +kernel
theorem dX7_add_50 : decode mX7_add.2.1 50 = .ok (.getfield 15, 3) := by decide +kernel
theorem dX7_add_53 : decode mX7_add.2.1 53 = .ok (.iconst 4, 1) := by decide +kernel
theorem dX7_add_54 : decode mX7_add.2.1 54 = .ok (.iadd, 1) := by decide +kernel
theorem dX7_add_55 : decode mX7_add.2.1 55 = .ok (.putfield 15, 3) := by decide +kernel
theorem dX7_add_58 : decode mX7_add.2.1 58 = .ok (.aload_n 0, 1) := by decide +kernel
theorem dX7_add_59 : decode mX7_add.2.1 59 = .ok (.getfield 15, 3) := by decide +kernel
theorem dX7_add_62 : decode mX7_add.2.1 62 = .ok (.ireturn, 1) := by decide +kernel
theorem dX7_cut_0 : decode mX7_cut.2.1 0 = .ok (.iload_n 1, 1) := by decide +kernel
theorem dX7_cut_1 : decode mX7_cut.2.1 1 = .ok (.ifCond .lt 11, 3) := by decide +kernel
theorem dX7_cut_4 : decode mX7_cut.2.1 4 = .ok (.iload_n 1, 1) := by decide +kernel
theorem dX7_cut_5 : decode mX7_cut.2.1 5 = .ok (.aload_n 0, 1) := by decide +kernel
theorem dX7_cut_6 : decode mX7_cut.2.1 6 = .ok (.getfield 15, 3) := by decide +kernel
theorem dX7_cut_9 : decode mX7_cut.2.1 9 = .ok (.if_icmp .le 5, 3) := by decide +kernel
theorem dX7_cut_12 : decode mX7_cut.2.1 12 = .ok (.iconst 0, 1) := by decide +kernel
theorem dX7_cut_13 : decode mX7_cut.2.1 13 = .ok (.ireturn, 1) := by decide +kernel
theorem dX7_cut_14 : decode mX7_cut.2.1 14 = .ok (.aload_n 0, 1) := by decide +kernel
theorem dX7_cut_15 : decode mX7_cut.2.1 15 = .ok (.iload_n 1, 1) := by decide +kernel
theorem dX7_cut_16 : decode mX7_cut.2.1 16 = .ok (.putfield 15, 3) := by decide +kernel
theorem dX7_cut_19 : decode mX7_cut.2.1 19 = .ok (.iconst 1, 1) := by decide +kernel
theorem dX7_cut_20 : decode mX7_cut.2.1 20 = .ok (.ireturn, 1) := by decide +kernel
theorem dX7_clear_0 : decode mX7_clear.2.1 0 = .ok (.aload_n 0, 1) := by decide +kernel
theorem dX7_clear_1 : decode mX7_clear.2.1 1 = .ok (.iconst 0, 1) := by decide +kernel
theorem dX7_clear_2 : decode mX7_clear.2.1 2 = .ok (.putfield 15, 3) := by decide +kernel
theorem dX7_clear_5 : decode mX7_clear.2.1 5 = .ok (.return_, 1) := by decide +kernel
theorem dX7_isEmpty_0 : decode mX7_isEmpty.2.1 0 = .ok (.aload_n 0, 1) := by decide +kernel
theorem dX7_isEmpty_1 : decode mX7_isEmpty.2.1 1 = .ok (.getfield 15, 3) := by decide +kernel
theorem dX7_isEmpty_4 : decode mX7_isEmpty.2.1 4 = .ok (.ifCond .ne 7, 3) := by decide +kernel
theorem dX7_isEmpty_7 : decode mX7_isEmpty.2.1 7 = .ok (.iconst 1, 1) := by decide +kernel
theorem dX7_isEmpty_8 : decode mX7_isEmpty.2.1 8 = .ok (.goto 4, 3) := by decide +kernel
theorem dX7_isEmpty_11 : decode mX7_isEmpty.2.1 11 = .ok (.iconst 0, 1) := by decide +kernel
theorem dX7_isEmpty_12 : decode mX7_isEmpty.2.1 12 = .ok (.ireturn, 1) := by decide +kernel
theorem dX8_init_0 : decode mX8_init.2.1 0 = .ok (.aload_n 0, 1) := by decide +kernel
theorem dX8_init_1 : decode mX8_init.2.1 1 = .ok (.invokespecial 3, 3) := by decide +kernel
theorem dX8_init_4 : decode mX8_init.2.1 4 = .ok (.aload_n 0, 1) := by decide +kernel
theorem dX8_init_5 : decode mX8_init.2.1 5 = .ok (.iconst 1, 1) := by decide +kernel
theorem dX8_init_6 : decode mX8_init.2.1 6 = .ok (.putfield 9, 3) := by decide +kernel
theorem dX8_init_9 : decode mX8_init.2.1 9 = .ok (.aload_n 0, 1) := by decide +kernel
theorem dX8_init_10 : decode mX8_init.2.1 10 = .ok (.iconst 1, 1) := by decide +kernel
theorem dX8_init_11 : decode mX8_init.2.1 11 = .ok (.putfield 15, 3) := by decide +kernel
theorem dX8_init_14 : decode mX8_init.2.1 14 = .ok (.aload_n 0, 1) := by decide +kernel
theorem dX8_init_15 : decode mX8_init.2.1 15 = .ok (.bipush 8, 2) := by decide +kernel
theorem dX8_init_17 : decode mX8_init.2.1 17 = .ok (.newarray .int, 2) := by decide +kernel
theorem dX8_init_19 : decode mX8_init.2.1 19 = .ok (.putfield 18, 3) := by decide +kernel
theorem dX8_init_22 : decode mX8_init.2.1 22 = .ok (.aload_n 0, 1) := by decide +kernel
theorem dX8_init_23 : decode mX8_init.2.1 23 = .ok (.bipush 8, 2) := by decide +kernel
theorem dX8_init_25 : decode mX8_init.2.1 25 = .ok (.newarray .int, 2) := by decide +kernel
theorem dX8_init_27 : decode mX8_init.2.1 27 = .ok (.putfield 22, 3) := by decide +kernel
theorem dX8_init_30 : decode mX8_init.2.1 30 = .ok (.aload_n 0, 1) := by decide +kernel
theorem dX8_init_31 : decode mX8_init.2.1 31 = .ok (.bipush 8, 2) := by decide +kernel
theorem dX8_init_33 : decode mX8_init.2.1 33 = .ok (.newarray .int, 2) := by decide +kernel
theorem dX8_init_35 : decode mX8_init.2.1 35 = .ok (.putfield 25, 3) := by decide +kernel
theorem dX8_init_38 : decode mX8_init.2.1 38 = .ok (.aload_n 0, 1) := by decide +kernel
theorem dX8_init_39 : decode mX8_init.2.1 39 = .ok (.bipush 8, 2) := by decide +kernel
theorem dX8_init_41 : decode mX8_init.2.1 41 = .ok (.newarray .int, 2) := by decide +kernel
theorem dX8_init_43 : decode mX8_init.2.1 43 = .ok (.putfield 28, 3) := by decide +kernel
theorem dX8_init_46 : decode mX8_init.2.1 46 = .ok (.aload_n 0, 1) := by decide +kernel
theorem dX8_init_47 : decode mX8_init.2.1 47 = .ok (.iconst 4, 1) := by decide +kernel
theorem dX8_init_48 : decode mX8_init.2.1 48 = .ok (.newarray .int, 2) := by decide +kernel
theorem dX8_init_50 : decode mX8_init.2.1 50 = .ok (.putfield 31, 3) := by decide +kernel
theorem dX8_init_53 : decode mX8_init.2.1 53 = .ok (.aload_n 0, 1) := by decide +kernel
theorem dX8_init_54 : decode mX8_init.2.1 54 = .ok (.iconst 4, 1) := by decide +kernel
theorem dX8_init_55 : decode mX8_init.2.1 55 = .ok (.newarray .int, 2) := by decide +kernel
theorem dX8_init_57 : decode mX8_init.2.1 57 = .ok (.putfield 34, 3) := by decide +kernel
theorem dX8_init_60 : decode mX8_init.2.1 60 = .ok (.aload_n 0, 1) := by decide +kernel
theorem dX8_init_61 : decode mX8_init.2.1 61 = .ok (.new 37, 3) := by decide +kernel
theorem dX8_init_64 : decode mX8_init.2.1 64 = .ok (.dup, 1) := by decide +kernel
theorem dX8_init_65 : decode mX8_init.2.1 65 = .ok (.invokespecial 39, 3) := by decide +kernel
theorem dX8_init_68 : decode mX8_init.2.1 68 = .ok (.putfield 40, 3) := by decide +kernel
theorem dX8_init_71 : decode mX8_init.2.1 71 = .ok (.return_, 1) := by decide +kernel
theorem dX8_lay_0 : decode mX8_lay.2.1 0 = .ok (.aload_n 0, 1) := by decide +kernel
theorem dX8_lay_1 : decode mX8_lay.2.1 1 = .ok (.iload_n 1, 1) := by decide +kernel
theorem dX8_lay_2 : decode mX8_lay.2.1 2 = .ok (.putfield 9, 3) := by decide +kernel
theorem dX8_lay_5 : decode mX8_lay.2.1 5 = .ok (.aload_n 0, 1) := by decide +kernel
theorem dX8_lay_6 : decode mX8_lay.2.1 6 = .ok (.iload_n 2, 1) := by decide +kernel
theorem dX8_lay_7 : decode mX8_lay.2.1 7 = .ok (.putfield 15, 3) := by decide +kernel
theorem dX8_lay_10 : decode mX8_lay.2.1 10 = .ok (.aload_n 0, 1) := by decide +kernel
theorem dX8_lay_11 : decode mX8_lay.2.1 11 = .ok (.iconst 0, 1) := by decide +kernel
theorem dX8_lay_12 : decode mX8_lay.2.1 12 = .ok (.putfield 44, 3) := by decide +kernel
theorem dX8_lay_15 : decode mX8_lay.2.1 15 = .ok (.aload_n 0, 1) := by decide +kernel
theorem dX8_lay_16 : decode mX8_lay.2.1 16 = .ok (.iconst 0, 1) := by decide +kernel
theorem dX8_lay_17 : decode mX8_lay.2.1 17 = .ok (.putfield 47, 3) := by decide +kernel
theorem dX8_lay_20 : decode mX8_lay.2.1 20 = .ok (.aload_n 0, 1) := by decide +kernel
theorem dX8_lay_21 : decode mX8_lay.2.1 21 = .ok (.iconst 0, 1) := by decide +kernel
theorem dX8_lay_22 : decode mX8_lay.2.1 22 = .ok (.putfield 50, 3) := by decide +kernel
theorem dX8_lay_25 : decode mX8_lay.2.1 25 = .ok (.return_, 1) := by decide +kernel
theorem dX8_isThing_0 : decode mX8_isThing.2.1 0 = .ok (.iload_n 1, 1) := by decide +kernel
theorem dX8_isThing_1 : decode mX8_isThing.2.1 1 = .ok (.ifCond .lt 15, 3) := by decide +kernel
theorem dX8_isThing_4 : decode mX8_isThing.2.1 4 = .ok (.iload_n 1, 1) := by decide +kernel
theorem dX8_isThing_5 : decode mX8_isThing.2.1 5 = .ok (.aload_n 0, 1) := by decide +kernel
theorem dX8_isThing_6 : decode mX8_isThing.2.1 6 = .ok (.getfield 44, 3) := by decide +kernel
theorem dX8_isThing_9 : decode mX8_isThing.2.1 9 = .ok (.if_icmp .ge 7, 3) := by decide +kernel
theorem dX8_isThing_12 : decode mX8_isThing.2.1 12 = .ok (.iconst 1, 1) := by decide +kernel
theorem dX8_isThing_13 : decode mX8_isThing.2.1 13 = .ok (.goto 4, 3) := by decide +kernel
theorem dX8_isThing_16 : decode mX8_isThing.2.1 16 = .ok (.iconst 0, 1) := by decide +kernel
theorem dX8_isThing_17 : decode mX8_isThing.2.1 17 = .ok (.ireturn, 1) := by decide +kernel
theorem dX8_isPane_0 : decode mX8_isPane.2.1 0 = .ok (.iload_n 1, 1) := by decide +kernel
theorem dX8_isPane_1 : decode mX8_isPane.2.1 1 = .ok (.ifCond .lt 15, 3) := by decide +kernel
theorem dX8_isPane_4 : decode mX8_isPane.2.1 4 = .ok (.iload_n 1, 1) := by decide +kernel
theorem dX8_isPane_5 : decode mX8_isPane.2.1 5 = .ok (.aload_n 0, 1) := by decide +kernel
theorem dX8_isPane_6 : decode mX8_isPane.2.1 6 = .ok (.getfield 47, 3) := by decide +kernel
theorem dX8_isPane_9 : decode mX8_isPane.2.1 9 = .ok (.if_icmp .ge 7, 3) := by decide +kernel
theorem dX8_isPane_12 : decode mX8_isPane.2.1 12 = .ok (.iconst 1, 1) := by decide +kernel
theorem dX8_isPane_13 : decode mX8_isPane.2.1 13 = .ok (.goto 4, 3) := by decide +kernel
theorem dX8_isPane_16 : decode mX8_isPane.2.1 16 = .ok (.iconst 0, 1) := by decide +kernel
theorem dX8_isPane_17 : decode mX8_isPane.2.1 17 = .ok (.ireturn, 1) := by decide +kernel
theorem dX8_isRoom_0 : decode mX8_isRoom.2.1 0 = .ok (.iload_n 1, 1) := by decide +kernel
theorem dX8_isRoom_1 : decode mX8_isRoom.2.1 1 = .ok (.ifCond .lt 15, 3) := by decide +kernel
theorem dX8_isRoom_4 : decode mX8_isRoom.2.1 4 = .ok (.iload_n 1, 1) := by decide +kernel
theorem dX8_isRoom_5 : decode mX8_isRoom.2.1 5 = .ok (.aload_n 0, 1) := by decide +kernel
theorem dX8_isRoom_6 : decode mX8_isRoom.2.1 6 = .ok (.getfield 50, 3) := by decide +kernel
theorem dX8_isRoom_9 : decode mX8_isRoom.2.1 9 = .ok (.if_icmp .ge 7, 3) := by decide +kernel
theorem dX8_isRoom_12 : decode mX8_isRoom.2.1 12 = .ok (.iconst 1, 1) := by decide +kernel
theorem dX8_isRoom_13 : decode mX8_isRoom.2.1 13 = .ok (.goto 4, 3) := by decide +kernel
theorem dX8_isRoom_16 : decode mX8_isRoom.2.1 16 = .ok (.iconst 0, 1) := by decide +kernel
theorem dX8_isRoom_17 : decode mX8_isRoom.2.1 17 = .ok (.ireturn, 1) := by decide +kernel
theorem dX8_isField_0 : decode mX8_isField.2.1 0 = .ok (.iload_n 1, 1) := by decide +kernel
theorem dX8_isField_1 : decode mX8_isField.2.1 1 = .ok (.ifCond .lt 15, 3) := by decide +kernel
theorem dX8_isField_4 : decode mX8_isField.2.1 4 = .ok (.iload_n 1, 1) := by decide +kernel
theorem dX8_isField_5 : decode mX8_isField.2.1 5 = .ok (.aload_n 0, 1) := by decide +kernel
theorem dX8_isField_6 : decode mX8_isField.2.1 6 = .ok (.invokevirtual 53, 3) := by decide +kernel
theorem dX8_isField_9 : decode mX8_isField.2.1 9 = .ok (.if_icmp .ge 7, 3) := by decide +kernel
theorem dX8_isField_12 : decode mX8_isField.2.1 12 = .ok (.iconst 1, 1) := by decide +kernel
theorem dX8_isField_13 : decode mX8_isField.2.1 13 = .ok (.goto 4, 3) := by decide +kernel
theorem dX8_isField_16 : decode mX8_isField.2.1 16 = .ok (.iconst 0, 1) := by decide +kernel
theorem dX8_isField_17 : decode mX8_isField.2.1 17 = .ok (.ireturn, 1) := by decide +kernel
theorem dX8_areThings_0 : decode mX8_areThings.2.1 0 = .ok (.iload_n 1, 1) := by decide +kernel
theorem dX8_areThings_1 : decode mX8_areThings.2.1 1 = .ok (.aload_n 0, 1) := by decide +kernel
theorem dX8_areThings_2 : decode mX8_areThings.2.1 2 = .ok (.invokevirtual 57, 3) := by decide +kernel
theorem dX8_areThings_5 : decode mX8_areThings.2.1 5 = .ok (.iconst (-1), 1) := by decide +kernel
theorem dX8_areThings_6 : decode mX8_areThings.2.1 6 = .ok (.ixor, 1) := by decide +kernel
theorem dX8_areThings_7 : decode mX8_areThings.2.1 7 = .ok (.iand, 1) := by decide +kernel
theorem dX8_areThings_8 : decode mX8_areThings.2.1 8 = .ok (.ifCond .ne 7, 3) := by decide +kernel
theorem dX8_areThings_11 : decode mX8_areThings.2.1 11 = .ok (.iconst 1, 1) := by decide +kernel
theorem dX8_areThings_12 : decode mX8_areThings.2.1 12 = .ok (.goto 4, 3) := by decide +kernel
theorem dX8_areThings_15 : decode mX8_areThings.2.1 15 = .ok (.iconst 0, 1) := by decide +kernel
theorem dX8_areThings_16 : decode mX8_areThings.2.1 16 = .ok (.ireturn, 1) := by decide +kernel
theorem dX8_fields_0 : decode mX8_fields.2.1 0 = .ok (.aload_n 0, 1) := by decide +kernel
theorem dX8_fields_1 : decode mX8_fields.2.1 1 = .ok (.getfield 9, 3) := by decide +kernel
theorem dX8_fields_4 : decode mX8_fields.2.1 4 = .ok (.aload_n 0, 1) := by decide +kernel
theorem dX8_fields_5 : decode mX8_fields.2.1 5 = .ok (.getfield 15, 3) := by decide +kernel
theorem dX8_fields_8 : decode mX8_fields.2.1 8 = .ok (.imul, 1) := by decide +kernel
theorem dX8_fields_9 : decode mX8_fields.2.1 9 = .ok (.ireturn, 1) := by decide +kernel
theorem dX8_allThings_0 : decode mX8_allThings.2.1 0 = .ok (.aload_n 0, 1) := by decide +kernel
theorem dX8_allThings_1 : decode mX8_allThings.2.1 1 = .ok (.getfield 44, 3) := by decide +kernel
theorem dX8_allThings_4 : decode mX8_allThings.2.1 4 = .ok (.invokestatic 60, 3) := by decide +kernel
theorem dX8_allThings_7 : decode mX8_allThings.2.1 7 = .ok (.ireturn, 1) := by decide +kernel
theorem dX8_readThings_0 : decode mX8_readThings.2.1 0 = .ok (.aload_n 0, 1) := by decide +kernel
theorem dX8_readThings_1 : decode mX8_readThings.2.1 1 = .ok (.getfield 44, 3) := by decide +kernel
theorem dX8_readThings_4 : decode mX8_readThings.2.1 4 = .ok (.istore_n 3, 1) := by decide +kernel
theorem dX8_readThings_5 : decode mX8_readThings.2.1 5 = .ok (.iconst 1, 1) := by decide +kernel
theorem dX8_readThings_6 : decode mX8_readThings.2.1 6 = .ok (.istore 4, 2) := by decide +kernel
theorem dX8_readThings_8 : decode mX8_readThings.2.1 8 = .ok (.iload 4, 2) := by decide +kernel
theorem dX8_readThings_10 : decode mX8_readThings.2.1 10 = .ok (.ifCond .eq 68, 3) := by decide +kernel
theorem dX8_readThings_13 : decode mX8_readThings.2.1 13 = .ok (.iload_n 3, 1) := by decide +kernel
theorem dX8_readThings_14 : decode mX8_readThings.2.1 14 = .ok (.bipush 8, 2) := by decide +kernel
theorem dX8_readThings_16 : decode mX8_readThings.2.1 16 = .ok (.if_icmp .ge 62, 3) := by decide +kernel
theorem dX8_readThings_19 : decode mX8_readThings.2.1 19 = .ok (.aload_n 0, 1) := by decide +kernel
theorem dX8_readThings_20 : decode mX8_readThings.2.1 20 = .ok (.getfield 18, 3) := by decide +kernel
theorem dX8_readThings_23 : decode mX8_readThings.2.1 23 = .ok (.iload_n 3, 1) := by decide +kernel
theorem dX8_readThings_24 : decode mX8_readThings.2.1 24 = .ok (.aload_n 1, 1) := by decide +kernel
theorem dX8_readThings_25 : decode mX8_readThings.2.1 25 = .ok (.bipush 97, 2) := by decide +kernel
theorem dX8_readThings_27 : decode mX8_readThings.2.1 27 = .ok (.bipush 8, 2) := by decide +kernel
theorem dX8_readThings_29 : decode mX8_readThings.2.1 29 = .ok (.invokevirtual 64, 3) := by decide +kernel
theorem dX8_readThings_32 : decode mX8_readThings.2.1 32 = .ok (.iastore, 1) := by decide +kernel
theorem dX8_readThings_33 : decode mX8_readThings.2.1 33 = .ok (.aload_n 0, 1) := by decide +kernel
theorem dX8_readThings_34 : decode mX8_readThings.2.1 34 = .ok (.getfield 22, 3) := by decide +kernel
theorem dX8_readThings_37 : decode mX8_readThings.2.1 37 = .ok (.iload_n 3, 1) := by decide +kernel
theorem dX8_readThings_38 : decode mX8_readThings.2.1 38 = .ok (.aload_n 1, 1) := by decide +kernel
theorem dX8_readThings_39 : decode mX8_readThings.2.1 39 = .ok (.bipush 10, 2) := by decide +kernel
theorem dX8_readThings_41 : decode mX8_readThings.2.1 41 = .ok (.invokevirtual 70, 3) := by decide +kernel
theorem dX8_readThings_44 : decode mX8_readThings.2.1 44 = .ok (.iastore, 1) := by decide +kernel
theorem dX8_readThings_45 : decode mX8_readThings.2.1 45 = .ok (.aload_n 2, 1) := by decide +kernel
theorem dX8_readThings_46 : decode mX8_readThings.2.1 46 = .ok (.getfield 73, 3) := by decide +kernel
theorem dX8_readThings_49 : decode mX8_readThings.2.1 49 = .ok (.iload_n 3, 1) := by decide +kernel
theorem dX8_readThings_50 : decode mX8_readThings.2.1 50 = .ok (.aload_n 0, 1) := by decide +kernel
theorem dX8_readThings_51 : decode mX8_readThings.2.1 51 = .ok (.aload_n 1, 1) := by decide +kernel
theorem dX8_readThings_52 : decode mX8_readThings.2.1 52 = .ok (.invokevirtual 78, 3) := by decide +kernel
theorem dX8_readThings_55 : decode mX8_readThings.2.1 55 = .ok (.iastore, 1) := by decide +kernel
theorem dX8_readThings_56 : decode mX8_readThings.2.1 56 = .ok (.aload_n 2, 1) := by decide +kernel
theorem dX8_readThings_57 : decode mX8_readThings.2.1 57 = .ok (.getfield 82, 3) := by decide +kernel
theorem dX8_readThings_60 : decode mX8_readThings.2.1 60 = .ok (.iload_n 3, 1) := by decide +kernel
theorem dX8_readThings_61 : decode mX8_readThings.2.1 61 = .ok (.aload_n 1, 1) := by decide +kernel
theorem dX8_readThings_62 : decode mX8_readThings.2.1 62 = .ok (.invokevirtual 85, 3) := by decide +kernel
theorem dX8_readThings_65 : decode mX8_readThings.2.1 65 = .ok (.iastore, 1) := by decide +kernel
theorem dX8_readThings_66 : decode mX8_readThings.2.1 66 = .ok (.aload_n 1, 1) := by decide +kernel
theorem dX8_readThings_67 : decode mX8_readThings.2.1 67 = .ok (.invokevirtual 87, 3) := by decide +kernel
theorem dX8_readThings_70 : decode mX8_readThings.2.1 70 = .ok (.istore 4, 2) := by decide +kernel
theorem dX8_readThings_72 : decode mX8_readThings.2.1 72 = .ok (.iinc 3 1, 3) := by decide +kernel
theorem dX8_readThings_75 : decode mX8_readThings.2.1 75 = .ok (.goto (-67), 3) := by decide +kernel
theorem dX8_readThings_78 : decode mX8_readThings.2.1 78 = .ok (.aload_n 1, 1) := by decide +kernel
theorem dX8_readThings_79 : decode mX8_readThings.2.1 79 = .ok (.iload 4, 2) := by decide +kernel
theorem dX8_readThings_81 : decode mX8_readThings.2.1 81 = .ok (.ifCond .ne 7, 3) := by decide +kernel
theorem dX8_readThings_84 : decode mX8_readThings.2.1 84 = .ok (.iconst 1, 1) := by decide +kernel
theorem dX8_readThings_85 : decode mX8_readThings.2.1 85 = .ok (.goto 4, 3) := by decide +kernel
theorem dX8_readThings_88 : decode mX8_readThings.2.1 88 = .ok (.iconst 0, 1) := by decide +kernel
theorem dX8_readThings_89 : decode mX8_readThings.2.1 89 = .ok (.invokevirtual 91, 3) := by decide +kernel
theorem dX8_readThings_92 : decode mX8_readThings.2.1 92 = .ok (.pop, 1) := by decide +kernel
theorem dX8_readThings_93 : decode mX8_readThings.2.1 93 = .ok (.aload_n 1, 1) := by decide +kernel
theorem dX8_readThings_94 : decode mX8_readThings.2.1 94 = .ok (.iload_n 3, 1) := by decide +kernel
theorem dX8_readThings_95 : decode mX8_readThings.2.1 95 = .ok (.aload_n 0, 1) := by decide +kernel
theorem dX8_readThings_96 : decode mX8_readThings.2.1 96 = .ok (.getfield 44, 3) := by decide +kernel
theorem dX8_readThings_99 : decode mX8_readThings.2.1 99 = .ok (.isub, 1) := by decide +kernel
theorem dX8_readThings_100 : decode mX8_readThings.2.1 100 = .ok (.invokevirtual 95, 3) := by decide +kernel
theorem dX8_readThings_103 : decode mX8_readThings.2.1 103 = .ok (.istore 5, 2) := by decide +kernel
theorem dX8_readThings_105 : decode mX8_readThings.2.1 105 = .ok (.aload_n 0, 1) := by decide +kernel
theorem dX8_readThings_106 : decode mX8_readThings.2.1 106 = .ok (.dup, 1) := by decide +kernel
theorem dX8_readThings_107 : decode mX8_readThings.2.1 107 = .ok (.getfield 44, 3) := by decide +kernel
theorem dX8_readThings_110 : decode mX8_readThings.2.1 110 = .ok (.iconst 0, 1) := by decide +kernel
theorem dX8_readThings_111 : decode mX8_readThings.2.1 111 = .ok (.iload 5, 2) := by decide +kernel
theorem dX8_readThings_113 : decode mX8_readThings.2.1 113 = .ok (.invokestatic 98, 3) := by decide +kernel
theorem dX8_readThings_116 : decode mX8_readThings.2.1 116 = .ok (.iadd, 1) := by decide +kernel
theorem dX8_readThings_117 : decode mX8_readThings.2.1 117 = .ok (.putfield 44, 3) := by decide +kernel
theorem dX8_readThings_120 : decode mX8_readThings.2.1 120 = .ok (.iload 5, 2) := by decide +kernel
theorem dX8_readThings_122 : decode mX8_readThings.2.1 122 = .ok (.ireturn, 1) := by decide +kernel
theorem dX8_readPanes_0 : decode mX8_readPanes.2.1 0 = .ok (.aload_n 0, 1) := by decide +kernel
theorem dX8_readPanes_1 : decode mX8_readPanes.2.1 1 = .ok (.getfield 47, 3) := by decide +kernel
theorem dX8_readPanes_4 : decode mX8_readPanes.2.1 4 = .ok (.istore_n 3, 1) := by decide +kernel
theorem dX8_readPanes_5 : decode mX8_readPanes.2.1 5 = .ok (.iconst 1, 1) := by decide +kernel
theorem dX8_readPanes_6 : decode mX8_readPanes.2.1 6 = .ok (.istore 4, 2) := by decide +kernel
theorem dX8_readPanes_8 : decode mX8_readPanes.2.1 8 = .ok (.iload 4, 2) := by decide +kernel
theorem dX8_readPanes_10 : decode mX8_readPanes.2.1 10 = .ok (.ifCond .eq 50, 3) := by decide +kernel
theorem dX8_readPanes_13 : decode mX8_readPanes.2.1 13 = .ok (.iload_n 3, 1) := by decide +kernel
theorem dX8_readPanes_14 : decode mX8_readPanes.2.1 14 = .ok (.bipush 8, 2) := by decide +kernel
theorem dX8_readPanes_16 : decode mX8_readPanes.2.1 16 = .ok (.if_icmp .ge 44, 3) := by decide +kernel
theorem dX8_readPanes_19 : decode mX8_readPanes.2.1 19 = .ok (.aload_n 0, 1) := by decide +kernel
theorem dX8_readPanes_20 : decode mX8_readPanes.2.1 20 = .ok (.getfield 25, 3) := by decide +kernel
theorem dX8_readPanes_23 : decode mX8_readPanes.2.1 23 = .ok (.iload_n 3, 1) := by decide +kernel
theorem dX8_readPanes_24 : decode mX8_readPanes.2.1 24 = .ok (.aload_n 1, 1) := by decide +kernel
theorem dX8_readPanes_25 : decode mX8_readPanes.2.1 25 = .ok (.bipush 10, 2) := by decide +kernel
theorem dX8_readPanes_27 : decode mX8_readPanes.2.1 27 = .ok (.invokevirtual 70, 3) := by decide +kernel
theorem dX8_readPanes_30 : decode mX8_readPanes.2.1 30 = .ok (.iastore, 1) := by decide +kernel
theorem dX8_readPanes_31 : decode mX8_readPanes.2.1 31 = .ok (.aload_n 0, 1) := by decide +kernel
theorem dX8_readPanes_32 : decode mX8_readPanes.2.1 32 = .ok (.getfield 28, 3) := by decide +kernel
theorem dX8_readPanes_35 : decode mX8_readPanes.2.1 35 = .ok (.iload_n 3, 1) := by decide +kernel
theorem dX8_readPanes_36 : decode mX8_readPanes.2.1 36 = .ok (.aload_n 1, 1) := by decide +kernel
theorem dX8_readPanes_37 : decode mX8_readPanes.2.1 37 = .ok (.invokevirtual 103, 3) := by decide +kernel
theorem dX8_readPanes_40 : decode mX8_readPanes.2.1 40 = .ok (.iastore, 1) := by decide +kernel
theorem dX8_readPanes_41 : decode mX8_readPanes.2.1 41 = .ok (.aload_n 2, 1) := by decide +kernel
theorem dX8_readPanes_42 : decode mX8_readPanes.2.1 42 = .ok (.getfield 106, 3) := by decide +kernel
theorem dX8_readPanes_45 : decode mX8_readPanes.2.1 45 = .ok (.iload_n 3, 1) := by decide +kernel
theorem dX8_readPanes_46 : decode mX8_readPanes.2.1 46 = .ok (.iconst (-1), 1) := by decide +kernel
theorem dX8_readPanes_47 : decode mX8_readPanes.2.1 47 = .ok (.iastore, 1) := by decide +kernel
theorem dX8_readPanes_48 : decode mX8_readPanes.2.1 48 = .ok (.aload_n 1, 1) := by decide +kernel
theorem dX8_readPanes_49 : decode mX8_readPanes.2.1 49 = .ok (.invokevirtual 87, 3) := by decide +kernel
theorem dX8_readPanes_52 : decode mX8_readPanes.2.1 52 = .ok (.istore 4, 2) := by decide +kernel
theorem dX8_readPanes_54 : decode mX8_readPanes.2.1 54 = .ok (.iinc 3 1, 3) := by decide +kernel
theorem dX8_readPanes_57 : decode mX8_readPanes.2.1 57 = .ok (.goto (-49), 3) := by decide +kernel
theorem dX8_readPanes_60 : decode mX8_readPanes.2.1 60 = .ok (.aload_n 1, 1) := by decide +kernel
theorem dX8_readPanes_61 : decode mX8_readPanes.2.1 61 = .ok (.iload 4, 2) := by decide +kernel
theorem dX8_readPanes_63 : decode mX8_readPanes.2.1 63 = .ok (.ifCond .ne 7, 3) := by decide +kernel
theorem dX8_readPanes_66 : decode mX8_readPanes.2.1 66 = .ok (.iconst 1, 1) := by decide +kernel
theorem dX8_readPanes_67 : decode mX8_readPanes.2.1 67 = .ok (.goto 4, 3) := by decide +kernel
theorem dX8_readPanes_70 : decode mX8_readPanes.2.1 70 = .ok (.iconst 0, 1) := by decide +kernel
theorem dX8_readPanes_71 : decode mX8_readPanes.2.1 71 = .ok (.invokevirtual 91, 3) := by decide +kernel
theorem dX8_readPanes_74 : decode mX8_readPanes.2.1 74 = .ok (.pop, 1) := by decide +kernel
theorem dX8_readPanes_75 : decode mX8_readPanes.2.1 75 = .ok (.aload_n 1, 1) := by decide +kernel
theorem dX8_readPanes_76 : decode mX8_readPanes.2.1 76 = .ok (.iload_n 3, 1) := by decide +kernel
theorem dX8_readPanes_77 : decode mX8_readPanes.2.1 77 = .ok (.aload_n 0, 1) := by decide +kernel
theorem dX8_readPanes_78 : decode mX8_readPanes.2.1 78 = .ok (.getfield 47, 3) := by decide +kernel
theorem dX8_readPanes_81 : decode mX8_readPanes.2.1 81 = .ok (.isub, 1) := by decide +kernel
theorem dX8_readPanes_82 : decode mX8_readPanes.2.1 82 = .ok (.invokevirtual 95, 3) := by decide +kernel
theorem dX8_readPanes_85 : decode mX8_readPanes.2.1 85 = .ok (.istore 5, 2) := by decide +kernel
theorem dX8_readPanes_87 : decode mX8_readPanes.2.1 87 = .ok (.aload_n 0, 1) := by decide +kernel
theorem dX8_readPanes_88 : decode mX8_readPanes.2.1 88 = .ok (.dup, 1) := by decide +kernel
theorem dX8_readPanes_89 : decode mX8_readPanes.2.1 89 = .ok (.getfield 47, 3) := by decide +kernel
theorem dX8_readPanes_92 : decode mX8_readPanes.2.1 92 = .ok (.iconst 0, 1) := by decide +kernel
theorem dX8_readPanes_93 : decode mX8_readPanes.2.1 93 = .ok (.iload 5, 2) := by decide +kernel
theorem dX8_readPanes_95 : decode mX8_readPanes.2.1 95 = .ok (.invokestatic 98, 3) := by decide +kernel
theorem dX8_readPanes_98 : decode mX8_readPanes.2.1 98 = .ok (.iadd, 1) := by decide +kernel
theorem dX8_readPanes_99 : decode mX8_readPanes.2.1 99 = .ok (.putfield 47, 3) := by decide +kernel
theorem dX8_readPanes_102 : decode mX8_readPanes.2.1 102 = .ok (.iload 5, 2) := by decide +kernel
theorem dX8_readPanes_104 : decode mX8_readPanes.2.1 104 = .ok (.ireturn, 1) := by decide +kernel
theorem dX8_readRooms_0 : decode mX8_readRooms.2.1 0 = .ok (.aload_n 0, 1) := by decide +kernel
theorem dX8_readRooms_1 : decode mX8_readRooms.2.1 1 = .ok (.getfield 50, 3) := by decide +kernel
theorem dX8_readRooms_4 : decode mX8_readRooms.2.1 4 = .ok (.istore_n 2, 1) := by decide +kernel
theorem dX8_readRooms_5 : decode mX8_readRooms.2.1 5 = .ok (.iconst 1, 1) := by decide +kernel
theorem dX8_readRooms_6 : decode mX8_readRooms.2.1 6 = .ok (.istore_n 3, 1) := by decide +kernel
theorem dX8_readRooms_7 : decode mX8_readRooms.2.1 7 = .ok (.iload_n 3, 1) := by decide +kernel
theorem dX8_readRooms_8 : decode mX8_readRooms.2.1 8 = .ok (.ifCond .eq 42, 3) := by decide +kernel
theorem dX8_readRooms_11 : decode mX8_readRooms.2.1 11 = .ok (.iload_n 2, 1) := by decide +kernel
theorem dX8_readRooms_12 : decode mX8_readRooms.2.1 12 = .ok (.iconst 4, 1) := by decide +kernel
theorem dX8_readRooms_13 : decode mX8_readRooms.2.1 13 = .ok (.if_icmp .ge 37, 3) := by decide +kernel
theorem dX8_readRooms_16 : decode mX8_readRooms.2.1 16 = .ok (.aload_n 0, 1) := by decide +kernel
theorem dX8_readRooms_17 : decode mX8_readRooms.2.1 17 = .ok (.getfield 31, 3) := by decide +kernel
theorem dX8_readRooms_20 : decode mX8_readRooms.2.1 20 = .ok (.iload_n 2, 1) := by decide +kernel
theorem dX8_readRooms_21 : decode mX8_readRooms.2.1 21 = .ok (.aload_n 0, 1) := by decide +kernel
theorem dX8_readRooms_22 : decode mX8_readRooms.2.1 22 = .ok (.aload_n 1, 1) := by decide +kernel
theorem dX8_readRooms_23 : decode mX8_readRooms.2.1 23 = .ok (.invokevirtual 78, 3) := by decide +kernel
theorem dX8_readRooms_26 : decode mX8_readRooms.2.1 26 = .ok (.iastore, 1) := by decide +kernel
theorem dX8_readRooms_27 : decode mX8_readRooms.2.1 27 = .ok (.aload_n 0, 1) := by decide +kernel
theorem dX8_readRooms_28 : decode mX8_readRooms.2.1 28 = .ok (.getfield 34, 3) := by decide +kernel
theorem dX8_readRooms_31 : decode mX8_readRooms.2.1 31 = .ok (.iload_n 2, 1) := by decide +kernel
theorem dX8_readRooms_32 : decode mX8_readRooms.2.1 32 = .ok (.aload_n 1, 1) := by decide +kernel
theorem dX8_readRooms_33 : decode mX8_readRooms.2.1 33 = .ok (.bipush 10, 2) := by decide +kernel
theorem dX8_readRooms_35 : decode mX8_readRooms.2.1 35 = .ok (.invokevirtual 70, 3) := by decide +kernel
theorem dX8_readRooms_38 : decode mX8_readRooms.2.1 38 = .ok (.iastore, 1) := by decide +kernel
theorem dX8_readRooms_39 : decode mX8_readRooms.2.1 39 = .ok (.aload_n 1, 1) := by decide +kernel
theorem dX8_readRooms_40 : decode mX8_readRooms.2.1 40 = .ok (.invokevirtual 87, 3) := by decide +kernel
theorem dX8_readRooms_43 : decode mX8_readRooms.2.1 43 = .ok (.istore_n 3, 1) := by decide +kernel
theorem dX8_readRooms_44 : decode mX8_readRooms.2.1 44 = .ok (.iinc 2 1, 3) := by decide +kernel
theorem dX8_readRooms_47 : decode mX8_readRooms.2.1 47 = .ok (.goto (-40), 3) := by decide +kernel
theorem dX8_readRooms_50 : decode mX8_readRooms.2.1 50 = .ok (.aload_n 1, 1) := by decide +kernel
theorem dX8_readRooms_51 : decode mX8_readRooms.2.1 51 = .ok (.iload_n 3, 1) := by decide +kernel
theorem dX8_readRooms_52 : decode mX8_readRooms.2.1 52 = .ok (.ifCond .ne 7, 3) := by decide +kernel
theorem dX8_readRooms_55 : decode mX8_readRooms.2.1 55 = .ok (.iconst 1, 1) := by decide +kernel
theorem dX8_readRooms_56 : decode mX8_readRooms.2.1 56 = .ok (.goto 4, 3) := by decide +kernel
theorem dX8_readRooms_59 : decode mX8_readRooms.2.1 59 = .ok (.iconst 0, 1) := by decide +kernel
theorem dX8_readRooms_60 : decode mX8_readRooms.2.1 60 = .ok (.invokevirtual 91, 3) := by decide +kernel
theorem dX8_readRooms_63 : decode mX8_readRooms.2.1 63 = .ok (.pop, 1) := by decide +kernel
theorem dX8_readRooms_64 : decode mX8_readRooms.2.1 64 = .ok (.aload_n 1, 1) := by decide +kernel
theorem dX8_readRooms_65 : decode mX8_readRooms.2.1 65 = .ok (.iload_n 2, 1) := by decide +kernel
theorem dX8_readRooms_66 : decode mX8_readRooms.2.1 66 = .ok (.aload_n 0, 1) := by decide +kernel
theorem dX8_readRooms_67 : decode mX8_readRooms.2.1 67 = .ok (.getfield 50, 3) := by decide +kernel
theorem dX8_readRooms_70 : decode mX8_readRooms.2.1 70 = .ok (.isub, 1) := by decide +kernel
theorem dX8_readRooms_71 : decode mX8_readRooms.2.1 71 = .ok (.invokevirtual 95, 3) := by decide +kernel
theorem dX8_readRooms_74 : decode mX8_readRooms.2.1 74 = .ok (.istore 4, 2) := by decide +kernel
theorem dX8_readRooms_76 : decode mX8_readRooms.2.1 76 = .ok (.aload_n 0, 1) := by decide +kernel
theorem dX8_readRooms_77 : decode mX8_readRooms.2.1 77 = .ok (.dup, 1) := by decide +kernel
theorem dX8_readRooms_78 : decode mX8_readRooms.2.1 78 = .ok (.getfield 50, 3) := by decide +kernel
theorem dX8_readRooms_81 : decode mX8_readRooms.2.1 81 = .ok (.iconst 0, 1) := by decide +kernel
theorem dX8_readRooms_82 : decode mX8_readRooms.2.1 82 = .ok (.iload 4, 2) := by decide +kernel
theorem dX8_readRooms_84 : decode mX8_readRooms.2.1 84 = .ok (.invokestatic 98, 3) := by decide +kernel
theorem dX8_readRooms_87 : decode mX8_readRooms.2.1 87 = .ok (.iadd, 1) := by decide +kernel
theorem dX8_readRooms_88 : decode mX8_readRooms.2.1 88 = .ok (.putfield 50, 3) := by decide +kernel
theorem dX8_readRooms_91 : decode mX8_readRooms.2.1 91 = .ok (.iload 4, 2) := by decide +kernel
theorem dX8_readRooms_93 : decode mX8_readRooms.2.1 93 = .ok (.ireturn, 1) := by decide +kernel
theorem dX8_readField_0 : decode mX8_readField.2.1 0 = .ok (.aload_n 1, 1) := by decide +kernel
theorem dX8_readField_1 : decode mX8_readField.2.1 1 = .ok (.aload_n 0, 1) := by decide +kernel
theorem dX8_readField_2 : decode mX8_readField.2.1 2 = .ok (.getfield 9, 3) := by decide +kernel
theorem dX8_readField_5 : decode mX8_readField.2.1 5 = .ok (.invokevirtual 70, 3) := by decide +kernel
theorem dX8_readField_8 : decode mX8_readField.2.1 8 = .ok (.istore_n 2, 1) := by decide +kernel
theorem dX8_readField_9 : decode mX8_readField.2.1 9 = .ok (.iload_n 2, 1) := by decide +kernel
theorem dX8_readField_10 : decode mX8_readField.2.1 10 = .ok (.aload_n 0, 1) := by decide +kernel
theorem dX8_readField_11 : decode mX8_readField.2.1 11 = .ok (.getfield 15, 3) := by decide +kernel
theorem dX8_readField_14 : decode mX8_readField.2.1 14 = .ok (.imul, 1) := by decide +kernel
theorem dX8_readField_15 : decode mX8_readField.2.1 15 = .ok (.aload_n 1, 1) := by decide +kernel
theorem dX8_readField_16 : decode mX8_readField.2.1 16 = .ok (.aload_n 0, 1) := by decide +kernel
theorem dX8_readField_17 : decode mX8_readField.2.1 17 = .ok (.getfield 15, 3) := by decide +kernel
theorem dX8_readField_20 : decode mX8_readField.2.1 20 = .ok (.invokevirtual 70, 3) := by decide +kernel
theorem dX8_readField_23 : decode mX8_readField.2.1 23 = .ok (.iadd, 1) := by decide +kernel
theorem dX8_readField_24 : decode mX8_readField.2.1 24 = .ok (.ireturn, 1) := by decide +kernel
theorem dX8_setShames_0 : decode mX8_setShames.2.1 0 = .ok (.iconst 0, 1) := by decide +kernel
theorem dX8_setShames_1 : decode mX8_setShames.2.1 1 = .ok (.istore 5, 2) := by decide +kernel
theorem dX8_setShames_3 : decode mX8_setShames.2.1 3 = .ok (.iconst 0, 1) := by decide +kernel
theorem dX8_setShames_4 : decode mX8_setShames.2.1 4 = .ok (.istore 6, 2) := by decide +kernel
theorem dX8_setShames_6 : decode mX8_setShames.2.1 6 = .ok (.iload 6, 2) := by decide +kernel
theorem dX8_setShames_8 : decode mX8_setShames.2.1 8 = .ok (.aload_n 0, 1) := by decide +kernel
theorem dX8_setShames_9 : decode mX8_setShames.2.1 9 = .ok (.getfield 44, 3) := by decide +kernel
theorem dX8_setShames_12 : decode mX8_setShames.2.1 12 = .ok (.if_icmp .ge 49, 3) := by decide +kernel
theorem dX8_setShames_15 : decode mX8_setShames.2.1 15 = .ok (.aload_n 0, 1) := by decide +kernel
theorem dX8_setShames_16 : decode mX8_setShames.2.1 16 = .ok (.getfield 22, 3) := by decide +kernel
theorem dX8_setShames_19 : decode mX8_setShames.2.1 19 = .ok (.iload 6, 2) := by decide +kernel
theorem dX8_setShames_21 : decode mX8_setShames.2.1 21 = .ok (.iload 6, 2) := by decide +kernel
theorem dX8_setShames_23 : decode mX8_setShames.2.1 23 = .ok (.iload_n 2, 1) := by decide +kernel
theorem dX8_setShames_24 : decode mX8_setShames.2.1 24 = .ok (.if_icmp .ge 17, 3) := by decide +kernel
theorem dX8_setShames_27 : decode mX8_setShames.2.1 27 = .ok (.iload_n 1, 1) := by decide +kernel
theorem dX8_setShames_28 : decode mX8_setShames.2.1 28 = .ok (.iload_n 3, 1) := by decide +kernel
theorem dX8_setShames_29 : decode mX8_setShames.2.1 29 = .ok (.iload 6, 2) := by decide +kernel
theorem dX8_setShames_31 : decode mX8_setShames.2.1 31 = .ok (.iload 4, 2) := by decide +kernel
theorem dX8_setShames_33 : decode mX8_setShames.2.1 33 = .ok (.imul, 1) := by decide +kernel
theorem dX8_setShames_34 : decode mX8_setShames.2.1 34 = .ok (.iadd, 1) := by decide +kernel
theorem dX8_setShames_35 : decode mX8_setShames.2.1 35 = .ok (.invokestatic 109, 3) := by decide +kernel
theorem dX8_setShames_38 : decode mX8_setShames.2.1 38 = .ok (.goto 4, 3) := by decide +kernel
theorem dX8_setShames_41 : decode mX8_setShames.2.1 41 = .ok (.iconst 0, 1) := by decide +kernel
theorem dX8_setShames_42 : decode mX8_setShames.2.1 42 = .ok (.iastore, 1) := by decide +kernel
theorem dX8_setShames_43 : decode mX8_setShames.2.1 43 = .ok (.iload 5, 2) := by decide +kernel
theorem dX8_setShames_45 : decode mX8_setShames.2.1 45 = .ok (.aload_n 0, 1) := by decide +kernel
theorem dX8_setShames_46 : decode mX8_setShames.2.1 46 = .ok (.getfield 22, 3) := by decide +kernel
theorem dX8_setShames_49 : decode mX8_setShames.2.1 49 = .ok (.iload 6, 2) := by decide +kernel
theorem dX8_setShames_51 : decode mX8_setShames.2.1 51 = .ok (.iaload, 1) := by decide +kernel
theorem dX8_setShames_52 : decode mX8_setShames.2.1 52 = .ok (.iadd, 1) := by decide +kernel
theorem dX8_setShames_53 : decode mX8_setShames.2.1 53 = .ok (.istore 5, 2) := by decide +kernel
theorem dX8_setShames_55 : decode mX8_setShames.2.1 55 = .ok (.iinc 6 1, 3) := by decide +kernel
theorem dX8_setShames_58 : decode mX8_setShames.2.1 58 = .ok (.goto (-52), 3) := by decide +kernel
theorem dX8_setShames_61 : decode mX8_setShames.2.1 61 = .ok (.iload 5, 2) := by decide +kernel
theorem dX8_setShames_63 : decode mX8_setShames.2.1 63 = .ok (.ireturn, 1) := by decide +kernel
theorem dX8_shameOf_0 : decode mX8_shameOf.2.1 0 = .ok (.iload_n 0, 1) := by decide +kernel
theorem dX8_shameOf_1 : decode mX8_shameOf.2.1 1 = .ok (.ifCond .ne 8, 3) := by decide +kernel
theorem dX8_shameOf_4 : decode mX8_shameOf.2.1 4 = .ok (.iload_n 1, 1) := by decide +kernel
theorem dX8_shameOf_5 : decode mX8_shameOf.2.1 5 = .ok (.i2b, 1) := by decide +kernel
theorem dX8_shameOf_6 : decode mX8_shameOf.2.1 6 = .ok (.goto 14, 3) := by decide +kernel
theorem dX8_shameOf_9 : decode mX8_shameOf.2.1 9 = .ok (.iload_n 0, 1) := by decide +kernel
theorem dX8_shameOf_10 : decode mX8_shameOf.2.1 10 = .ok (.iconst 1, 1) := by decide +kernel
theorem dX8_shameOf_11 : decode mX8_shameOf.2.1 11 = .ok (.if_icmp .ne 8, 3) := by decide +kernel
theorem dX8_shameOf_14 : decode mX8_shameOf.2.1 14 = .ok (.iload_n 1, 1) := by decide +kernel
theorem dX8_shameOf_15 : decode mX8_shameOf.2.1 15 = .ok (.i2s, 1) := by decide +kernel
theorem dX8_shameOf_16 : decode mX8_shameOf.2.1 16 = .ok (.goto 4, 3) := by decide +kernel
theorem dX8_shameOf_19 : decode mX8_shameOf.2.1 19 = .ok (.iload_n 1, 1) := by decide +kernel
theorem dX8_shameOf_20 : decode mX8_shameOf.2.1 20 = .ok (.istore_n 2, 1) := by decide +kernel
theorem dX8_shameOf_21 : decode mX8_shameOf.2.1 21 = .ok (.iconst 0, 1) := by decide +kernel
theorem dX8_shameOf_22 : decode mX8_shameOf.2.1 22 = .ok (.bipush 9, 2) := by decide +kernel
theorem dX8_shameOf_24 : decode mX8_shameOf.2.1 24 = .ok (.iload_n 2, 1) := by decide +kernel
theorem dX8_shameOf_25 : decode mX8_shameOf.2.1 25 = .ok (.invokestatic 112, 3) := by decide +kernel
theorem dX8_shameOf_28 : decode mX8_shameOf.2.1 28 = .ok (.invokestatic 98, 3) := by decide +kernel
theorem dX8_shameOf_31 : decode mX8_shameOf.2.1 31 = .ok (.ireturn, 1) := by decide +kernel
theorem dX8_walk_0 : decode mX8_walk.2.1 0 = .ok (.iconst 0, 1) := by decide +kernel
theorem dX8_walk_1 : decode mX8_walk.2.1 1 = .ok (.istore_n 2, 1) := by decide +kernel
theorem dX8_walk_2 : decode mX8_walk.2.1 2 = .ok (.iload_n 2, 1) := by decide +kernel
theorem dX8_walk_3 : decode mX8_walk.2.1 3 = .ok (.aload_n 0, 1) := by decide +kernel
theorem dX8_walk_4 : decode mX8_walk.2.1 4 = .ok (.getfield 44, 3) := by decide +kernel
theorem dX8_walk_7 : decode mX8_walk.2.1 7 = .ok (.if_icmp .ge 60, 3) := by decide +kernel
theorem dX8_walk_10 : decode mX8_walk.2.1 10 = .ok (.aload_n 1, 1) := by decide +kernel
theorem dX8_walk_11 : decode mX8_walk.2.1 11 = .ok (.getfield 82, 3) := by decide +kernel
theorem dX8_walk_14 : decode mX8_walk.2.1 14 = .ok (.iload_n 2, 1) := by decide +kernel
theorem dX8_walk_15 : decode mX8_walk.2.1 15 = .ok (.iaload, 1) := by decide +kernel
theorem dX8_walk_16 : decode mX8_walk.2.1 16 = .ok (.istore_n 3, 1) := by decide +kernel
theorem dX8_walk_17 : decode mX8_walk.2.1 17 = .ok (.aload_n 0, 1) := by decide +kernel
theorem dX8_walk_18 : decode mX8_walk.2.1 18 = .ok (.aload_n 1, 1) := by decide +kernel
theorem dX8_walk_19 : decode mX8_walk.2.1 19 = .ok (.getfield 73, 3) := by decide +kernel
theorem dX8_walk_22 : decode mX8_walk.2.1 22 = .ok (.iload_n 2, 1) := by decide +kernel
theorem dX8_walk_23 : decode mX8_walk.2.1 23 = .ok (.iaload, 1) := by decide +kernel
theorem dX8_walk_24 : decode mX8_walk.2.1 24 = .ok (.iload_n 3, 1) := by decide +kernel
theorem dX8_walk_25 : decode mX8_walk.2.1 25 = .ok (.invokevirtual 115, 3) := by decide +kernel
theorem dX8_walk_28 : decode mX8_walk.2.1 28 = .ok (.istore 4, 2) := by decide +kernel
theorem dX8_walk_30 : decode mX8_walk.2.1 30 = .ok (.iload 4, 2) := by decide +kernel
theorem dX8_walk_32 : decode mX8_walk.2.1 32 = .ok (.iconst (-1), 1) := by decide +kernel
theorem dX8_walk_33 : decode mX8_walk.2.1 33 = .ok (.if_icmp .eq 14, 3) := by decide +kernel
theorem dX8_walk_36 : decode mX8_walk.2.1 36 = .ok (.aload_n 1, 1) := by decide +kernel
theorem dX8_walk_37 : decode mX8_walk.2.1 37 = .ok (.getfield 73, 3) := by decide +kernel
theorem dX8_walk_40 : decode mX8_walk.2.1 40 = .ok (.iload_n 2, 1) := by decide +kernel
theorem dX8_walk_41 : decode mX8_walk.2.1 41 = .ok (.iload 4, 2) := by decide +kernel
theorem dX8_walk_43 : decode mX8_walk.2.1 43 = .ok (.iastore, 1) := by decide +kernel
theorem dX8_walk_44 : decode mX8_walk.2.1 44 = .ok (.goto 17, 3) := by decide +kernel
theorem dX8_walk_47 : decode mX8_walk.2.1 47 = .ok (.iload_n 3, 1) := by decide +kernel
theorem dX8_walk_48 : decode mX8_walk.2.1 48 = .ok (.iconst 4, 1) := by decide +kernel
theorem dX8_walk_49 : decode mX8_walk.2.1 49 = .ok (.if_icmp .eq 12, 3) := by decide +kernel
theorem dX8_walk_52 : decode mX8_walk.2.1 52 = .ok (.aload_n 1, 1) := by decide +kernel
theorem dX8_walk_53 : decode mX8_walk.2.1 53 = .ok (.getfield 82, 3) := by decide +kernel
theorem dX8_walk_56 : decode mX8_walk.2.1 56 = .ok (.iload_n 2, 1) := by decide +kernel
theorem dX8_walk_57 : decode mX8_walk.2.1 57 = .ok (.iload_n 3, 1) := by decide +kernel
theorem dX8_walk_58 : decode mX8_walk.2.1 58 = .ok (.iconst 2, 1) := by decide +kernel
theorem dX8_walk_59 : decode mX8_walk.2.1 59 = .ok (.ixor, 1) := by decide +kernel
theorem dX8_walk_60 : decode mX8_walk.2.1 60 = .ok (.iastore, 1) := by decide +kernel
theorem dX8_walk_61 : decode mX8_walk.2.1 61 = .ok (.iinc 2 1, 3) := by decide +kernel
theorem dX8_walk_64 : decode mX8_walk.2.1 64 = .ok (.goto (-62), 3) := by decide +kernel
theorem dX8_walk_67 : decode mX8_walk.2.1 67 = .ok (.aload_n 1, 1) := by decide +kernel
theorem dX8_walk_68 : decode mX8_walk.2.1 68 = .ok (.dup, 1) := by decide +kernel
theorem dX8_walk_69 : decode mX8_walk.2.1 69 = .ok (.getfield 118, 3) := by decide +kernel
theorem dX8_walk_72 : decode mX8_walk.2.1 72 = .ok (.iconst 1, 1) := by decide +kernel
theorem dX8_walk_73 : decode mX8_walk.2.1 73 = .ok (.iadd, 1) := by decide +kernel
theorem dX8_walk_74 : decode mX8_walk.2.1 74 = .ok (.putfield 118, 3) := by decide +kernel
theorem dX8_walk_77 : decode mX8_walk.2.1 77 = .ok (.return_, 1) := by decide +kernel
theorem dX8_fieldBeside_0 : decode mX8_fieldBeside.2.1 0 = .ok (.aload_n 0, 1) := by decide +kernel
theorem dX8_fieldBeside_1 : decode mX8_fieldBeside.2.1 1 = .ok (.iload_n 1, 1) := by decide +kernel
theorem dX8_fieldBeside_2 : decode mX8_fieldBeside.2.1 2 = .ok (.invokevirtual 121, 3) := by decide +kernel
theorem dX8_fieldBeside_5 : decode mX8_fieldBeside.2.1 5 = .ok (.istore_n 3, 1) := by decide +kernel
theorem dX8_fieldBeside_6 : decode mX8_fieldBeside.2.1 6 = .ok (.aload_n 0, 1) := by decide +kernel
theorem dX8_fieldBeside_7 : decode mX8_fieldBeside.2.1 7 = .ok (.iload_n 1, 1) := by decide +kernel
theorem dX8_fieldBeside_8 : decode mX8_fieldBeside.2.1 8 = .ok (.invokevirtual 124, 3) := by decide +kernel
theorem dX8_fieldBeside_11 : decode mX8_fieldBeside.2.1 11 = .ok (.istore 4, 2) := by decide +kernel
theorem dX8_fieldBeside_13 : decode mX8_fieldBeside.2.1 13 = .ok (.iload_n 2, 1) := by decide +kernel
theorem dX8_fieldBeside_14 : decode mX8_fieldBeside.2.1 14 = .ok (.tableswitch 98 0 3 #[30, 45, 64, 85], 30) := by decide +kernel
theorem dX8_fieldBeside_44 : decode mX8_fieldBeside.2.1 44 = .ok (.iload_n 3, 1) := by decide +kernel
theorem dX8_fieldBeside_45 : decode mX8_fieldBeside.2.1 45 = .ok (.ifCond .le 12, 3) := by decide +kernel
theorem dX8_fieldBeside_48 : decode mX8_fieldBeside.2.1 48 = .ok (.iload_n 1, 1) := by decide +kernel
theorem dX8_fieldBeside_49 : decode mX8_fieldBeside.2.1 49 = .ok (.aload_n 0, 1) := by decide +kernel
theorem dX8_fieldBeside_50 : decode mX8_fieldBeside.2.1 50 = .ok (.getfield 15, 3) := by decide +kernel
theorem dX8_fieldBeside_53 : decode mX8_fieldBeside.2.1 53 = .ok (.isub, 1) := by decide +kernel
theorem dX8_fieldBeside_54 : decode mX8_fieldBeside.2.1 54 = .ok (.goto 4, 3) := by decide +kernel
theorem dX8_fieldBeside_57 : decode mX8_fieldBeside.2.1 57 = .ok (.iconst (-1), 1) := by decide +kernel
theorem dX8_fieldBeside_58 : decode mX8_fieldBeside.2.1 58 = .ok (.ireturn, 1) := by decide +kernel
theorem dX8_fieldBeside_59 : decode mX8_fieldBeside.2.1 59 = .ok (.iload 4, 2) := by decide +kernel
theorem dX8_fieldBeside_61 : decode mX8_fieldBeside.2.1 61 = .ok (.aload_n 0, 1) := by decide +kernel
theorem dX8_fieldBeside_62 : decode mX8_fieldBeside.2.1 62 = .ok (.getfield 15, 3) := by decide +kernel
theorem dX8_fieldBeside_65 : decode mX8_fieldBeside.2.1 65 = .ok (.iconst 1, 1) := by decide +kernel
theorem dX8_fieldBeside_66 : decode mX8_fieldBeside.2.1 66 = .ok (.isub, 1) := by decide +kernel
theorem dX8_fieldBeside_67 : decode mX8_fieldBeside.2.1 67 = .ok (.if_icmp .ge 9, 3) := by decide +kernel
theorem dX8_fieldBeside_70 : decode mX8_fieldBeside.2.1 70 = .ok (.iload_n 1, 1) := by decide +kernel
theorem dX8_fieldBeside_71 : decode mX8_fieldBeside.2.1 71 = .ok (.iconst 1, 1) := by decide +kernel
theorem dX8_fieldBeside_72 : decode mX8_fieldBeside.2.1 72 = .ok (.iadd, 1) := by decide +kernel
theorem dX8_fieldBeside_73 : decode mX8_fieldBeside.2.1 73 = .ok (.goto 4, 3) := by decide +kernel
theorem dX8_fieldBeside_76 : decode mX8_fieldBeside.2.1 76 = .ok (.iconst (-1), 1) := by decide +kernel
theorem dX8_fieldBeside_77 : decode mX8_fieldBeside.2.1 77 = .ok (.ireturn, 1) := by decide +kernel
theorem dX8_fieldBeside_78 : decode mX8_fieldBeside.2.1 78 = .ok (.iload_n 3, 1) := by decide +kernel
theorem dX8_fieldBeside_79 : decode mX8_fieldBeside.2.1 79 = .ok (.aload_n 0, 1) := by decide +kernel
theorem dX8_fieldBeside_80 : decode mX8_fieldBeside.2.1 80 = .ok (.getfield 9, 3) := by decide +kernel
theorem dX8_fieldBeside_83 : decode mX8_fieldBeside.2.1 83 = .ok (.iconst 1, 1) := by decide +kernel
theorem dX8_fieldBeside_84 : decode mX8_fieldBeside.2.1 84 = .ok (.isub, 1) := by decide +kernel
theorem dX8_fieldBeside_85 : decode mX8_fieldBeside.2.1 85 = .ok (.if_icmp .ge 12, 3) := by decide +kernel
theorem dX8_fieldBeside_88 : decode mX8_fieldBeside.2.1 88 = .ok (.iload_n 1, 1) := by decide +kernel
theorem dX8_fieldBeside_89 : decode mX8_fieldBeside.2.1 89 = .ok (.aload_n 0, 1) := by decide +kernel
theorem dX8_fieldBeside_90 : decode mX8_fieldBeside.2.1 90 = .ok (.getfield 15, 3) := by decide +kernel
theorem dX8_fieldBeside_93 : decode mX8_fieldBeside.2.1 93 = .ok (.iadd, 1) := by decide +kernel
theorem dX8_fieldBeside_94 : decode mX8_fieldBeside.2.1 94 = .ok (.goto 4, 3) := by decide +kernel
theorem dX8_fieldBeside_97 : decode mX8_fieldBeside.2.1 97 = .ok (.iconst (-1), 1) := by decide +kernel
theorem dX8_fieldBeside_98 : decode mX8_fieldBeside.2.1 98 = .ok (.ireturn, 1) := by decide +kernel
theorem dX8_fieldBeside_99 : decode mX8_fieldBeside.2.1 99 = .ok (.iload 4, 2) := by decide +kernel
theorem dX8_fieldBeside_101 : decode mX8_fieldBeside.2.1 101 = .ok (.ifCond .le 9, 3) := by decide +kernel
theorem dX8_fieldBeside_104 : decode mX8_fieldBeside.2.1 104 = .ok (.iload_n 1, 1) := by decide +kernel
theorem dX8_fieldBeside_105 : decode mX8_fieldBeside.2.1 105 = .ok (.iconst 1, 1) := by decide +kernel
theorem dX8_fieldBeside_106 : decode mX8_fieldBeside.2.1 106 = .ok (.isub, 1) := by decide +kernel
theorem dX8_fieldBeside_107 : decode mX8_fieldBeside.2.1 107 = .ok (.goto 4, 3) := by decide +kernel
theorem dX8_fieldBeside_110 : decode mX8_fieldBeside.2.1 110 = .ok (.iconst (-1), 1) := by decide +kernel
theorem dX8_fieldBeside_111 : decode mX8_fieldBeside.2.1 111 = .ok (.ireturn, 1) := by decide +kernel
theorem dX8_fieldBeside_112 : decode mX8_fieldBeside.2.1 112 = .ok (.iconst (-1), 1) := by decide +kernel
theorem dX8_fieldBeside_113 : decode mX8_fieldBeside.2.1 113 = .ok (.ireturn, 1) := by decide +kernel
theorem dX8_rowOf_0 : decode mX8_rowOf.2.1 0 = .ok (.aload_n 0, 1) := by decide +kernel
theorem dX8_rowOf_1 : decode mX8_rowOf.2.1 1 = .ok (.getfield 15, 3) := by decide +kernel
theorem dX8_rowOf_4 : decode mX8_rowOf.2.1 4 = .ok (.ifCond .le 12, 3) := by decide +kernel
theorem dX8_rowOf_7 : decode mX8_rowOf.2.1 7 = .ok (.iload_n 1, 1) := by decide +kernel
theorem dX8_rowOf_8 : decode mX8_rowOf.2.1 8 = .ok (.aload_n 0, 1) := by decide +kernel
theorem dX8_rowOf_9 : decode mX8_rowOf.2.1 9 = .ok (.getfield 15, 3) := by decide +kernel
theorem dX8_rowOf_12 : decode mX8_rowOf.2.1 12 = .ok (.idiv, 1) := by decide +kernel
theorem dX8_rowOf_13 : decode mX8_rowOf.2.1 13 = .ok (.goto 4, 3) := by decide +kernel
theorem dX8_rowOf_16 : decode mX8_rowOf.2.1 16 = .ok (.iconst 0, 1) := by decide +kernel
theorem dX8_rowOf_17 : decode mX8_rowOf.2.1 17 = .ok (.ireturn, 1) := by decide +kernel
theorem dX8_columnOf_0 : decode mX8_columnOf.2.1 0 = .ok (.aload_n 0, 1) := by decide +kernel
theorem dX8_columnOf_1 : decode mX8_columnOf.2.1 1 = .ok (.getfield 15, 3) := by decide +kernel
theorem dX8_columnOf_4 : decode mX8_columnOf.2.1 4 = .ok (.ifCond .le 12, 3) := by decide +kernel
theorem dX8_columnOf_7 : decode mX8_columnOf.2.1 7 = .ok (.iload_n 1, 1) := by decide +kernel
theorem dX8_columnOf_8 : decode mX8_columnOf.2.1 8 = .ok (.aload_n 0, 1) := by decide +kernel
theorem dX8_columnOf_9 : decode mX8_columnOf.2.1 9 = .ok (.getfield 15, 3) := by decide +kernel
theorem dX8_columnOf_12 : decode mX8_columnOf.2.1 12 = .ok (.irem, 1) := by decide +kernel
theorem dX8_columnOf_13 : decode mX8_columnOf.2.1 13 = .ok (.goto 4, 3) := by decide +kernel
theorem dX8_columnOf_16 : decode mX8_columnOf.2.1 16 = .ok (.iconst 0, 1) := by decide +kernel
theorem dX8_columnOf_17 : decode mX8_columnOf.2.1 17 = .ok (.ireturn, 1) := by decide +kernel
theorem dX8_reaches_0 : decode mX8_reaches.2.1 0 = .ok (.aload_n 0, 1) := by decide +kernel
theorem dX8_reaches_1 : decode mX8_reaches.2.1 1 = .ok (.aload_n 0, 1) := by decide +kernel
theorem dX8_reaches_2 : decode mX8_reaches.2.1 2 = .ok (.getfield 31, 3) := by decide +kernel
theorem dX8_reaches_5 : decode mX8_reaches.2.1 5 = .ok (.iload_n 1, 1) := by decide +kernel
theorem dX8_reaches_6 : decode mX8_reaches.2.1 6 = .ok (.iaload, 1) := by decide +kernel
theorem dX8_reaches_7 : decode mX8_reaches.2.1 7 = .ok (.invokevirtual 121, 3) := by decide +kernel
theorem dX8_reaches_10 : decode mX8_reaches.2.1 10 = .ok (.aload_n 0, 1) := by decide +kernel
theorem dX8_reaches_11 : decode mX8_reaches.2.1 11 = .ok (.iload_n 2, 1) := by decide +kernel
theorem dX8_reaches_12 : decode mX8_reaches.2.1 12 = .ok (.invokevirtual 121, 3) := by decide +kernel
theorem dX8_reaches_15 : decode mX8_reaches.2.1 15 = .ok (.isub, 1) := by decide +kernel
theorem dX8_reaches_16 : decode mX8_reaches.2.1 16 = .ok (.invokestatic 127, 3) := by decide +kernel
theorem dX8_reaches_19 : decode mX8_reaches.2.1 19 = .ok (.istore_n 3, 1) := by decide +kernel
theorem dX8_reaches_20 : decode mX8_reaches.2.1 20 = .ok (.aload_n 0, 1) := by decide +kernel
theorem dX8_reaches_21 : decode mX8_reaches.2.1 21 = .ok (.aload_n 0, 1) := by decide +kernel
theorem dX8_reaches_22 : decode mX8_reaches.2.1 22 = .ok (.getfield 31, 3) := by decide +kernel
theorem dX8_reaches_25 : decode mX8_reaches.2.1 25 = .ok (.iload_n 1, 1) := by decide +kernel
theorem dX8_reaches_26 : decode mX8_reaches.2.1 26 = .ok (.iaload, 1) := by decide +kernel
theorem dX8_reaches_27 : decode mX8_reaches.2.1 27 = .ok (.invokevirtual 124, 3) := by decide +kernel
theorem dX8_reaches_30 : decode mX8_reaches.2.1 30 = .ok (.aload_n 0, 1) := by decide +kernel
theorem dX8_reaches_31 : decode mX8_reaches.2.1 31 = .ok (.iload_n 2, 1) := by decide +kernel
theorem dX8_reaches_32 : decode mX8_reaches.2.1 32 = .ok (.invokevirtual 124, 3) := by decide +kernel
theorem dX8_reaches_35 : decode mX8_reaches.2.1 35 = .ok (.isub, 1) := by decide +kernel
theorem dX8_reaches_36 : decode mX8_reaches.2.1 36 = .ok (.invokestatic 127, 3) := by decide +kernel
theorem dX8_reaches_39 : decode mX8_reaches.2.1 39 = .ok (.istore 4, 2) := by decide +kernel
theorem dX8_reaches_41 : decode mX8_reaches.2.1 41 = .ok (.iload_n 3, 1) := by decide +kernel
theorem dX8_reaches_42 : decode mX8_reaches.2.1 42 = .ok (.iload 4, 2) := by decide +kernel
theorem dX8_reaches_44 : decode mX8_reaches.2.1 44 = .ok (.iadd, 1) := by decide +kernel
theorem dX8_reaches_45 : decode mX8_reaches.2.1 45 = .ok (.aload_n 0, 1) := by decide +kernel
theorem dX8_reaches_46 : decode mX8_reaches.2.1 46 = .ok (.getfield 34, 3) := by decide +kernel
theorem dX8_reaches_49 : decode mX8_reaches.2.1 49 = .ok (.iload_n 1, 1) := by decide +kernel
theorem dX8_reaches_50 : decode mX8_reaches.2.1 50 = .ok (.iaload, 1) := by decide +kernel
theorem dX8_reaches_51 : decode mX8_reaches.2.1 51 = .ok (.if_icmp .gt 7, 3) := by decide +kernel
theorem dX8_reaches_54 : decode mX8_reaches.2.1 54 = .ok (.iconst 1, 1) := by decide +kernel
theorem dX8_reaches_55 : decode mX8_reaches.2.1 55 = .ok (.goto 4, 3) := by decide +kernel
theorem dX8_reaches_58 : decode mX8_reaches.2.1 58 = .ok (.iconst 0, 1) := by decide +kernel
theorem dX8_reaches_59 : decode mX8_reaches.2.1 59 = .ok (.ireturn, 1) := by decide +kernel
theorem dX8_near_0 : decode mX8_near.2.1 0 = .ok (.iconst 0, 1) := by decide +kernel
theorem dX8_near_1 : decode mX8_near.2.1 1 = .ok (.istore_n 3, 1) := by decide +kernel
theorem dX8_near_2 : decode mX8_near.2.1 2 = .ok (.iconst 0, 1) := by decide +kernel
theorem dX8_near_3 : decode mX8_near.2.1 3 = .ok (.istore 4, 2) := by decide +kernel
theorem dX8_near_5 : decode mX8_near.2.1 5 = .ok (.iload 4, 2) := by decide +kernel
theorem dX8_near_7 : decode mX8_near.2.1 7 = .ok (.aload_n 0, 1) := by decide +kernel
theorem dX8_near_8 : decode mX8_near.2.1 8 = .ok (.getfield 44, 3) := by decide +kernel
theorem dX8_near_11 : decode mX8_near.2.1 11 = .ok (.if_icmp .ge 31, 3) := by decide +kernel
theorem dX8_near_14 : decode mX8_near.2.1 14 = .ok (.aload_n 0, 1) := by decide +kernel
theorem dX8_near_15 : decode mX8_near.2.1 15 = .ok (.iload_n 2, 1) := by decide +kernel
theorem dX8_near_16 : decode mX8_near.2.1 16 = .ok (.aload_n 1, 1) := by decide +kernel
theorem dX8_near_17 : decode mX8_near.2.1 17 = .ok (.getfield 73, 3) := by decide +kernel
theorem dX8_near_20 : decode mX8_near.2.1 20 = .ok (.iload 4, 2) := by decide +kernel
theorem dX8_near_22 : decode mX8_near.2.1 22 = .ok (.iaload, 1) := by decide +kernel
theorem dX8_near_23 : decode mX8_near.2.1 23 = .ok (.invokevirtual 130, 3) := by decide +kernel
theorem dX8_near_26 : decode mX8_near.2.1 26 = .ok (.ifCond .eq 10, 3) := by decide +kernel
theorem dX8_near_29 : decode mX8_near.2.1 29 = .ok (.iload_n 3, 1) := by decide +kernel
theorem dX8_near_30 : decode mX8_near.2.1 30 = .ok (.iconst 1, 1) := by decide +kernel
theorem dX8_near_31 : decode mX8_near.2.1 31 = .ok (.iload 4, 2) := by decide +kernel
theorem dX8_near_33 : decode mX8_near.2.1 33 = .ok (.ishl, 1) := by decide +kernel
theorem dX8_near_34 : decode mX8_near.2.1 34 = .ok (.ior, 1) := by decide +kernel
theorem dX8_near_35 : decode mX8_near.2.1 35 = .ok (.istore_n 3, 1) := by decide +kernel
theorem dX8_near_36 : decode mX8_near.2.1 36 = .ok (.iinc 4 1, 3) := by decide +kernel
theorem dX8_near_39 : decode mX8_near.2.1 39 = .ok (.goto (-34), 3) := by decide +kernel
theorem dX8_near_42 : decode mX8_near.2.1 42 = .ok (.iload_n 3, 1) := by decide +kernel
theorem dX8_near_43 : decode mX8_near.2.1 43 = .ok (.ireturn, 1) := by decide +kernel
theorem dX8_thingsOn_0 : decode mX8_thingsOn.2.1 0 = .ok (.iconst 0, 1) := by decide +kernel
theorem dX8_thingsOn_1 : decode mX8_thingsOn.2.1 1 = .ok (.istore_n 3, 1) := by decide +kernel
theorem dX8_thingsOn_2 : decode mX8_thingsOn.2.1 2 = .ok (.iconst 0, 1) := by decide +kernel
theorem dX8_thingsOn_3 : decode mX8_thingsOn.2.1 3 = .ok (.istore 4, 2) := by decide +kernel
theorem dX8_thingsOn_5 : decode mX8_thingsOn.2.1 5 = .ok (.iload 4, 2) := by decide +kernel
theorem dX8_thingsOn_7 : decode mX8_thingsOn.2.1 7 = .ok (.aload_n 0, 1) := by decide +kernel
theorem dX8_thingsOn_8 : decode mX8_thingsOn.2.1 8 = .ok (.getfield 44, 3) := by decide +kernel
theorem dX8_thingsOn_11 : decode mX8_thingsOn.2.1 11 = .ok (.if_icmp .ge 27, 3) := by decide +kernel
theorem dX8_thingsOn_14 : decode mX8_thingsOn.2.1 14 = .ok (.aload_n 1, 1) := by decide +kernel
theorem dX8_thingsOn_15 : decode mX8_thingsOn.2.1 15 = .ok (.getfield 73, 3) := by decide +kernel
theorem dX8_thingsOn_18 : decode mX8_thingsOn.2.1 18 = .ok (.iload 4, 2) := by decide +kernel
theorem dX8_thingsOn_20 : decode mX8_thingsOn.2.1 20 = .ok (.iaload, 1) := by decide +kernel
theorem dX8_thingsOn_21 : decode mX8_thingsOn.2.1 21 = .ok (.iload_n 2, 1) := by decide +kernel
theorem dX8_thingsOn_22 : decode mX8_thingsOn.2.1 22 = .ok (.if_icmp .ne 10, 3) := by decide +kernel
theorem dX8_thingsOn_25 : decode mX8_thingsOn.2.1 25 = .ok (.iload_n 3, 1) := by decide +kernel
theorem dX8_thingsOn_26 : decode mX8_thingsOn.2.1 26 = .ok (.iconst 1, 1) := by decide +kernel
theorem dX8_thingsOn_27 : decode mX8_thingsOn.2.1 27 = .ok (.iload 4, 2) := by decide +kernel
theorem dX8_thingsOn_29 : decode mX8_thingsOn.2.1 29 = .ok (.ishl, 1) := by decide +kernel
theorem dX8_thingsOn_30 : decode mX8_thingsOn.2.1 30 = .ok (.ior, 1) := by decide +kernel
theorem dX8_thingsOn_31 : decode mX8_thingsOn.2.1 31 = .ok (.istore_n 3, 1) := by decide +kernel
theorem dX8_thingsOn_32 : decode mX8_thingsOn.2.1 32 = .ok (.iinc 4 1, 3) := by decide +kernel
theorem dX8_thingsOn_35 : decode mX8_thingsOn.2.1 35 = .ok (.goto (-30), 3) := by decide +kernel
theorem dX8_thingsOn_38 : decode mX8_thingsOn.2.1 38 = .ok (.iload_n 3, 1) := by decide +kernel
theorem dX8_thingsOn_39 : decode mX8_thingsOn.2.1 39 = .ok (.ireturn, 1) := by decide +kernel
theorem dX8_panesIn_0 : decode mX8_panesIn.2.1 0 = .ok (.iconst 0, 1) := by decide +kernel
theorem dX8_panesIn_1 : decode mX8_panesIn.2.1 1 = .ok (.istore_n 3, 1) := by decide +kernel
theorem dX8_panesIn_2 : decode mX8_panesIn.2.1 2 = .ok (.iconst 0, 1) := by decide +kernel
theorem dX8_panesIn_3 : decode mX8_panesIn.2.1 3 = .ok (.istore 4, 2) := by decide +kernel
theorem dX8_panesIn_5 : decode mX8_panesIn.2.1 5 = .ok (.iload 4, 2) := by decide +kernel
theorem dX8_panesIn_7 : decode mX8_panesIn.2.1 7 = .ok (.aload_n 0, 1) := by decide +kernel
theorem dX8_panesIn_8 : decode mX8_panesIn.2.1 8 = .ok (.getfield 47, 3) := by decide +kernel
theorem dX8_panesIn_11 : decode mX8_panesIn.2.1 11 = .ok (.if_icmp .ge 27, 3) := by decide +kernel
theorem dX8_panesIn_14 : decode mX8_panesIn.2.1 14 = .ok (.aload_n 1, 1) := by decide +kernel
theorem dX8_panesIn_15 : decode mX8_panesIn.2.1 15 = .ok (.getfield 106, 3) := by decide +kernel
theorem dX8_panesIn_18 : decode mX8_panesIn.2.1 18 = .ok (.iload 4, 2) := by decide +kernel
theorem dX8_panesIn_20 : decode mX8_panesIn.2.1 20 = .ok (.iaload, 1) := by decide +kernel
theorem dX8_panesIn_21 : decode mX8_panesIn.2.1 21 = .ok (.iload_n 2, 1) := by decide +kernel
theorem dX8_panesIn_22 : decode mX8_panesIn.2.1 22 = .ok (.if_icmp .ne 10, 3) := by decide +kernel
theorem dX8_panesIn_25 : decode mX8_panesIn.2.1 25 = .ok (.iload_n 3, 1) := by decide +kernel
theorem dX8_panesIn_26 : decode mX8_panesIn.2.1 26 = .ok (.iconst 1, 1) := by decide +kernel
theorem dX8_panesIn_27 : decode mX8_panesIn.2.1 27 = .ok (.iload 4, 2) := by decide +kernel
theorem dX8_panesIn_29 : decode mX8_panesIn.2.1 29 = .ok (.ishl, 1) := by decide +kernel
theorem dX8_panesIn_30 : decode mX8_panesIn.2.1 30 = .ok (.ior, 1) := by decide +kernel
theorem dX8_panesIn_31 : decode mX8_panesIn.2.1 31 = .ok (.istore_n 3, 1) := by decide +kernel
theorem dX8_panesIn_32 : decode mX8_panesIn.2.1 32 = .ok (.iinc 4 1, 3) := by decide +kernel
theorem dX8_panesIn_35 : decode mX8_panesIn.2.1 35 = .ok (.goto (-30), 3) := by decide +kernel
theorem dX8_panesIn_38 : decode mX8_panesIn.2.1 38 = .ok (.iload_n 3, 1) := by decide +kernel
theorem dX8_panesIn_39 : decode mX8_panesIn.2.1 39 = .ok (.ireturn, 1) := by decide +kernel
theorem dX8_panesHung_0 : decode mX8_panesHung.2.1 0 = .ok (.aload_n 0, 1) := by decide +kernel
theorem dX8_panesHung_1 : decode mX8_panesHung.2.1 1 = .ok (.getfield 47, 3) := by decide +kernel
theorem dX8_panesHung_4 : decode mX8_panesHung.2.1 4 = .ok (.invokestatic 60, 3) := by decide +kernel
theorem dX8_panesHung_7 : decode mX8_panesHung.2.1 7 = .ok (.aload_n 0, 1) := by decide +kernel
theorem dX8_panesHung_8 : decode mX8_panesHung.2.1 8 = .ok (.aload_n 1, 1) := by decide +kernel
theorem dX8_panesHung_9 : decode mX8_panesHung.2.1 9 = .ok (.iconst (-1), 1) := by decide +kernel
theorem dX8_panesHung_10 : decode mX8_panesHung.2.1 10 = .ok (.invokevirtual 134, 3) := by decide +kernel
theorem dX8_panesHung_13 : decode mX8_panesHung.2.1 13 = .ok (.iconst (-1), 1) := by decide +kernel
theorem dX8_panesHung_14 : decode mX8_panesHung.2.1 14 = .ok (.ixor, 1) := by decide +kernel
theorem dX8_panesHung_15 : decode mX8_panesHung.2.1 15 = .ok (.iand, 1) := by decide +kernel
theorem dX8_panesHung_16 : decode mX8_panesHung.2.1 16 = .ok (.ireturn, 1) := by decide +kernel
theorem dX8_panesHiding_0 : decode mX8_panesHiding.2.1 0 = .ok (.iconst 0, 1) := by decide +kernel
theorem dX8_panesHiding_1 : decode mX8_panesHiding.2.1 1 = .ok (.istore_n 2, 1) := by decide +kernel
theorem dX8_panesHiding_2 : decode mX8_panesHiding.2.1 2 = .ok (.iconst 0, 1) := by decide +kernel
theorem dX8_panesHiding_3 : decode mX8_panesHiding.2.1 3 = .ok (.istore_n 3, 1) := by decide +kernel
theorem dX8_panesHiding_4 : decode mX8_panesHiding.2.1 4 = .ok (.iload_n 3, 1) := by decide +kernel
theorem dX8_panesHiding_5 : decode mX8_panesHiding.2.1 5 = .ok (.aload_n 0, 1) := by decide +kernel
theorem dX8_panesHiding_6 : decode mX8_panesHiding.2.1 6 = .ok (.getfield 47, 3) := by decide +kernel
theorem dX8_panesHiding_9 : decode mX8_panesHiding.2.1 9 = .ok (.if_icmp .ge 28, 3) := by decide +kernel
theorem dX8_panesHiding_12 : decode mX8_panesHiding.2.1 12 = .ok (.iload_n 1, 1) := by decide +kernel
theorem dX8_panesHiding_13 : decode mX8_panesHiding.2.1 13 = .ok (.aload_n 0, 1) := by decide +kernel
theorem dX8_panesHiding_14 : decode mX8_panesHiding.2.1 14 = .ok (.getfield 28, 3) := by decide +kernel
theorem dX8_panesHiding_17 : decode mX8_panesHiding.2.1 17 = .ok (.iload_n 3, 1) := by decide +kernel
theorem dX8_panesHiding_18 : decode mX8_panesHiding.2.1 18 = .ok (.iaload, 1) := by decide +kernel
theorem dX8_panesHiding_19 : decode mX8_panesHiding.2.1 19 = .ok (.iconst (-1), 1) := by decide +kernel
theorem dX8_panesHiding_20 : decode mX8_panesHiding.2.1 20 = .ok (.ixor, 1) := by decide +kernel
theorem dX8_panesHiding_21 : decode mX8_panesHiding.2.1 21 = .ok (.iand, 1) := by decide +kernel
theorem dX8_panesHiding_22 : decode mX8_panesHiding.2.1 22 = .ok (.ifCond .ne 9, 3) := by decide +kernel
theorem dX8_panesHiding_25 : decode mX8_panesHiding.2.1 25 = .ok (.iload_n 2, 1) := by decide +kernel
theorem dX8_panesHiding_26 : decode mX8_panesHiding.2.1 26 = .ok (.iconst 1, 1) := by decide +kernel
theorem dX8_panesHiding_27 : decode mX8_panesHiding.2.1 27 = .ok (.iload_n 3, 1) := by decide +kernel
theorem dX8_panesHiding_28 : decode mX8_panesHiding.2.1 28 = .ok (.ishl, 1) := by decide +kernel
theorem dX8_panesHiding_29 : decode mX8_panesHiding.2.1 29 = .ok (.ior, 1) := by decide +kernel
theorem dX8_panesHiding_30 : decode mX8_panesHiding.2.1 30 = .ok (.istore_n 2, 1) := by decide +kernel
theorem dX8_panesHiding_31 : decode mX8_panesHiding.2.1 31 = .ok (.iinc 3 1, 3) := by decide +kernel
theorem dX8_panesHiding_34 : decode mX8_panesHiding.2.1 34 = .ok (.goto (-30), 3) := by decide +kernel
theorem dX8_panesHiding_37 : decode mX8_panesHiding.2.1 37 = .ok (.iload_n 2, 1) := by decide +kernel
theorem dX8_panesHiding_38 : decode mX8_panesHiding.2.1 38 = .ok (.ireturn, 1) := by decide +kernel
theorem dX8_lets_0 : decode mX8_lets.2.1 0 = .ok (.aload_n 1, 1) := by decide +kernel
theorem dX8_lets_1 : decode mX8_lets.2.1 1 = .ok (.iload_n 3, 1) := by decide +kernel
theorem dX8_lets_2 : decode mX8_lets.2.1 2 = .ok (.invokevirtual 138, 3) := by decide +kernel
theorem dX8_lets_5 : decode mX8_lets.2.1 5 = .ok (.ifCond .ne 30, 3) := by decide +kernel
theorem dX8_lets_8 : decode mX8_lets.2.1 8 = .ok (.aload_n 0, 1) := by decide +kernel
theorem dX8_lets_9 : decode mX8_lets.2.1 9 = .ok (.getfield 40, 3) := by decide +kernel
theorem dX8_lets_12 : decode mX8_lets.2.1 12 = .ok (.aload_n 0, 1) := by decide +kernel
theorem dX8_lets_13 : decode mX8_lets.2.1 13 = .ok (.getfield 25, 3) := by decide +kernel
theorem dX8_lets_16 : decode mX8_lets.2.1 16 = .ok (.iload_n 3, 1) := by decide +kernel
theorem dX8_lets_17 : decode mX8_lets.2.1 17 = .ok (.iaload, 1) := by decide +kernel
theorem dX8_lets_18 : decode mX8_lets.2.1 18 = .ok (.aload_n 0, 1) := by decide +kernel
theorem dX8_lets_19 : decode mX8_lets.2.1 19 = .ok (.getfield 28, 3) := by decide +kernel
theorem dX8_lets_22 : decode mX8_lets.2.1 22 = .ok (.iload_n 3, 1) := by decide +kernel
theorem dX8_lets_23 : decode mX8_lets.2.1 23 = .ok (.iaload, 1) := by decide +kernel
theorem dX8_lets_24 : decode mX8_lets.2.1 24 = .ok (.iload 4, 2) := by decide +kernel
theorem dX8_lets_26 : decode mX8_lets.2.1 26 = .ok (.iload 5, 2) := by decide +kernel
theorem dX8_lets_28 : decode mX8_lets.2.1 28 = .ok (.iload_n 2, 1) := by decide +kernel
theorem dX8_lets_29 : decode mX8_lets.2.1 29 = .ok (.invokevirtual 142, 3) := by decide +kernel
theorem dX8_lets_32 : decode mX8_lets.2.1 32 = .ok (.ifCond .eq 7, 3) := by decide +kernel
theorem dX8_lets_35 : decode mX8_lets.2.1 35 = .ok (.iconst 1, 1) := by decide +kernel
theorem dX8_lets_36 : decode mX8_lets.2.1 36 = .ok (.goto 4, 3) := by decide +kernel
theorem dX8_lets_39 : decode mX8_lets.2.1 39 = .ok (.iconst 0, 1) := by decide +kernel
theorem dX8_lets_40 : decode mX8_lets.2.1 40 = .ok (.ireturn, 1) := by decide +kernel
theorem dX8_through_0 : decode mX8_through.2.1 0 = .ok (.iconst 0, 1) := by decide +kernel
theorem dX8_through_1 : decode mX8_through.2.1 1 = .ok (.istore 4, 2) := by decide +kernel
theorem dX8_through_3 : decode mX8_through.2.1 3 = .ok (.iconst 0, 1) := by decide +kernel
theorem dX8_through_4 : decode mX8_through.2.1 4 = .ok (.istore 5, 2) := by decide +kernel
theorem dX8_through_6 : decode mX8_through.2.1 6 = .ok (.iload 5, 2) := by decide +kernel
theorem dX8_through_8 : decode mX8_through.2.1 8 = .ok (.aload_n 0, 1) := by decide +kernel
theorem dX8_through_9 : decode mX8_through.2.1 9 = .ok (.getfield 44, 3) := by decide +kernel
theorem dX8_through_12 : decode mX8_through.2.1 12 = .ok (.if_icmp .ge 54, 3) := by decide +kernel
theorem dX8_through_15 : decode mX8_through.2.1 15 = .ok (.iload_n 3, 1) := by decide +kernel
theorem dX8_through_16 : decode mX8_through.2.1 16 = .ok (.iload 5, 2) := by decide +kernel
theorem dX8_through_18 : decode mX8_through.2.1 18 = .ok (.invokestatic 146, 3) := by decide +kernel
theorem dX8_through_21 : decode mX8_through.2.1 21 = .ok (.ifCond .eq 39, 3) := by decide +kernel
theorem dX8_through_24 : decode mX8_through.2.1 24 = .ok (.aload_n 0, 1) := by decide +kernel
theorem dX8_through_25 : decode mX8_through.2.1 25 = .ok (.aload_n 1, 1) := by decide +kernel
theorem dX8_through_26 : decode mX8_through.2.1 26 = .ok (.aload_n 1, 1) := by decide +kernel
theorem dX8_through_27 : decode mX8_through.2.1 27 = .ok (.getfield 118, 3) := by decide +kernel
theorem dX8_through_30 : decode mX8_through.2.1 30 = .ok (.iload_n 2, 1) := by decide +kernel
theorem dX8_through_31 : decode mX8_through.2.1 31 = .ok (.aload_n 0, 1) := by decide +kernel
theorem dX8_through_32 : decode mX8_through.2.1 32 = .ok (.getfield 18, 3) := by decide +kernel
theorem dX8_through_35 : decode mX8_through.2.1 35 = .ok (.iload 5, 2) := by decide +kernel
theorem dX8_through_37 : decode mX8_through.2.1 37 = .ok (.iaload, 1) := by decide +kernel
theorem dX8_through_38 : decode mX8_through.2.1 38 = .ok (.aload_n 0, 1) := by decide +kernel
theorem dX8_through_39 : decode mX8_through.2.1 39 = .ok (.getfield 22, 3) := by decide +kernel
theorem dX8_through_42 : decode mX8_through.2.1 42 = .ok (.iload 5, 2) := by decide +kernel
theorem dX8_through_44 : decode mX8_through.2.1 44 = .ok (.iaload, 1) := by decide +kernel
theorem dX8_through_45 : decode mX8_through.2.1 45 = .ok (.invokevirtual 149, 3) := by decide +kernel
theorem dX8_through_48 : decode mX8_through.2.1 48 = .ok (.ifCond .eq 12, 3) := by decide +kernel
theorem dX8_through_51 : decode mX8_through.2.1 51 = .ok (.iload 4, 2) := by decide +kernel
theorem dX8_through_53 : decode mX8_through.2.1 53 = .ok (.iconst 1, 1) := by decide +kernel
theorem dX8_through_54 : decode mX8_through.2.1 54 = .ok (.iload 5, 2) := by decide +kernel
theorem dX8_through_56 : decode mX8_through.2.1 56 = .ok (.ishl, 1) := by decide +kernel
theorem dX8_through_57 : decode mX8_through.2.1 57 = .ok (.ior, 1) := by decide +kernel
theorem dX8_through_58 : decode mX8_through.2.1 58 = .ok (.istore 4, 2) := by decide +kernel
theorem dX8_through_60 : decode mX8_through.2.1 60 = .ok (.iinc 5 1, 3) := by decide +kernel
theorem dX8_through_63 : decode mX8_through.2.1 63 = .ok (.goto (-57), 3) := by decide +kernel
theorem dX8_through_66 : decode mX8_through.2.1 66 = .ok (.iload 4, 2) := by decide +kernel
theorem dX8_through_68 : decode mX8_through.2.1 68 = .ok (.ireturn, 1) := by decide +kernel
theorem dX8_pairsThrough_0 : decode mX8_pairsThrough.2.1 0 = .ok (.iconst 0, 1) := by decide +kernel
theorem dX8_pairsThrough_1 : decode mX8_pairsThrough.2.1 1 = .ok (.istore_n 2, 1) := by decide +kernel
theorem dX8_pairsThrough_2 : decode mX8_pairsThrough.2.1 2 = .ok (.iconst 0, 1) := by decide +kernel
theorem dX8_pairsThrough_3 : decode mX8_pairsThrough.2.1 3 = .ok (.istore_n 3, 1) := by decide +kernel
theorem dX8_pairsThrough_4 : decode mX8_pairsThrough.2.1 4 = .ok (.iload_n 3, 1) := by decide +kernel
theorem dX8_pairsThrough_5 : decode mX8_pairsThrough.2.1 5 = .ok (.aload_n 0, 1) := by decide +kernel
theorem dX8_pairsThrough_6 : decode mX8_pairsThrough.2.1 6 = .ok (.getfield 47, 3) := by decide +kernel
theorem dX8_pairsThrough_9 : decode mX8_pairsThrough.2.1 9 = .ok (.if_icmp .ge 25, 3) := by decide +kernel
theorem dX8_pairsThrough_12 : decode mX8_pairsThrough.2.1 12 = .ok (.iload_n 2, 1) := by decide +kernel
theorem dX8_pairsThrough_13 : decode mX8_pairsThrough.2.1 13 = .ok (.aload_n 0, 1) := by decide +kernel
theorem dX8_pairsThrough_14 : decode mX8_pairsThrough.2.1 14 = .ok (.aload_n 1, 1) := by decide +kernel
theorem dX8_pairsThrough_15 : decode mX8_pairsThrough.2.1 15 = .ok (.iload_n 3, 1) := by decide +kernel
theorem dX8_pairsThrough_16 : decode mX8_pairsThrough.2.1 16 = .ok (.aload_n 0, 1) := by decide +kernel
theorem dX8_pairsThrough_17 : decode mX8_pairsThrough.2.1 17 = .ok (.invokevirtual 57, 3) := by decide +kernel
theorem dX8_pairsThrough_20 : decode mX8_pairsThrough.2.1 20 = .ok (.invokevirtual 152, 3) := by decide +kernel
theorem dX8_pairsThrough_23 : decode mX8_pairsThrough.2.1 23 = .ok (.invokestatic 156, 3) := by decide +kernel
theorem dX8_pairsThrough_26 : decode mX8_pairsThrough.2.1 26 = .ok (.iadd, 1) := by decide +kernel
theorem dX8_pairsThrough_27 : decode mX8_pairsThrough.2.1 27 = .ok (.istore_n 2, 1) := by decide +kernel
theorem dX8_pairsThrough_28 : decode mX8_pairsThrough.2.1 28 = .ok (.iinc 3 1, 3) := by decide +kernel
theorem dX8_pairsThrough_31 : decode mX8_pairsThrough.2.1 31 = .ok (.goto (-27), 3) := by decide +kernel
theorem dX8_pairsThrough_34 : decode mX8_pairsThrough.2.1 34 = .ok (.iload_n 2, 1) := by decide +kernel
theorem dX8_pairsThrough_35 : decode mX8_pairsThrough.2.1 35 = .ok (.ireturn, 1) := by decide +kernel
theorem dX8_seenFrom_0 : decode mX8_seenFrom.2.1 0 = .ok (.aload_n 0, 1) := by decide +kernel
theorem dX8_seenFrom_1 : decode mX8_seenFrom.2.1 1 = .ok (.aload_n 1, 1) := by decide +kernel
theorem dX8_seenFrom_2 : decode mX8_seenFrom.2.1 2 = .ok (.iload_n 2, 1) := by decide +kernel
theorem dX8_seenFrom_3 : decode mX8_seenFrom.2.1 3 = .ok (.aload_n 0, 1) := by decide +kernel
theorem dX8_seenFrom_4 : decode mX8_seenFrom.2.1 4 = .ok (.invokevirtual 57, 3) := by decide +kernel
theorem dX8_seenFrom_7 : decode mX8_seenFrom.2.1 7 = .ok (.invokevirtual 161, 3) := by decide +kernel
theorem dX8_seenFrom_10 : decode mX8_seenFrom.2.1 10 = .ok (.ireturn, 1) := by decide +kernel
theorem dX8_seenOf_0 : decode mX8_seenOf.2.1 0 = .ok (.iload_n 3, 1) := by decide +kernel
theorem dX8_seenOf_1 : decode mX8_seenOf.2.1 1 = .ok (.aload_n 0, 1) := by decide +kernel
theorem dX8_seenOf_2 : decode mX8_seenOf.2.1 2 = .ok (.aload_n 1, 1) := by decide +kernel
theorem dX8_seenOf_3 : decode mX8_seenOf.2.1 3 = .ok (.iload_n 2, 1) := by decide +kernel
theorem dX8_seenOf_4 : decode mX8_seenOf.2.1 4 = .ok (.invokevirtual 164, 3) := by decide +kernel
theorem dX8_seenOf_7 : decode mX8_seenOf.2.1 7 = .ok (.iand, 1) := by decide +kernel
theorem dX8_seenOf_8 : decode mX8_seenOf.2.1 8 = .ok (.istore 4, 2) := by decide +kernel
theorem dX8_seenOf_10 : decode mX8_seenOf.2.1 10 = .ok (.iconst 0, 1) := by decide +kernel
theorem dX8_seenOf_11 : decode mX8_seenOf.2.1 11 = .ok (.istore 5, 2) := by decide +kernel
theorem dX8_seenOf_13 : decode mX8_seenOf.2.1 13 = .ok (.iconst 0, 1) := by decide +kernel
theorem dX8_seenOf_14 : decode mX8_seenOf.2.1 14 = .ok (.istore 6, 2) := by decide +kernel
theorem dX8_seenOf_16 : decode mX8_seenOf.2.1 16 = .ok (.iload 6, 2) := by decide +kernel
theorem dX8_seenOf_18 : decode mX8_seenOf.2.1 18 = .ok (.aload_n 0, 1) := by decide +kernel
theorem dX8_seenOf_19 : decode mX8_seenOf.2.1 19 = .ok (.getfield 47, 3) := by decide +kernel
theorem dX8_seenOf_22 : decode mX8_seenOf.2.1 22 = .ok (.if_icmp .ge 39, 3) := by decide +kernel
theorem dX8_seenOf_25 : decode mX8_seenOf.2.1 25 = .ok (.aload_n 1, 1) := by decide +kernel
theorem dX8_seenOf_26 : decode mX8_seenOf.2.1 26 = .ok (.getfield 106, 3) := by decide +kernel
theorem dX8_seenOf_29 : decode mX8_seenOf.2.1 29 = .ok (.iload 6, 2) := by decide +kernel
theorem dX8_seenOf_31 : decode mX8_seenOf.2.1 31 = .ok (.iaload, 1) := by decide +kernel
theorem dX8_seenOf_32 : decode mX8_seenOf.2.1 32 = .ok (.iload_n 2, 1) := by decide +kernel
theorem dX8_seenOf_33 : decode mX8_seenOf.2.1 33 = .ok (.if_icmp .ne 22, 3) := by decide +kernel
theorem dX8_seenOf_36 : decode mX8_seenOf.2.1 36 = .ok (.iload 5, 2) := by decide +kernel
theorem dX8_seenOf_38 : decode mX8_seenOf.2.1 38 = .ok (.aload_n 0, 1) := by decide +kernel
theorem dX8_seenOf_39 : decode mX8_seenOf.2.1 39 = .ok (.aload_n 1, 1) := by decide +kernel
theorem dX8_seenOf_40 : decode mX8_seenOf.2.1 40 = .ok (.iload 6, 2) := by decide +kernel
theorem dX8_seenOf_42 : decode mX8_seenOf.2.1 42 = .ok (.iload 4, 2) := by decide +kernel
theorem dX8_seenOf_44 : decode mX8_seenOf.2.1 44 = .ok (.iload 5, 2) := by decide +kernel
theorem dX8_seenOf_46 : decode mX8_seenOf.2.1 46 = .ok (.iconst (-1), 1) := by decide +kernel
theorem dX8_seenOf_47 : decode mX8_seenOf.2.1 47 = .ok (.ixor, 1) := by decide +kernel
theorem dX8_seenOf_48 : decode mX8_seenOf.2.1 48 = .ok (.iand, 1) := by decide +kernel
theorem dX8_seenOf_49 : decode mX8_seenOf.2.1 49 = .ok (.invokevirtual 152, 3) := by decide +kernel
theorem dX8_seenOf_52 : decode mX8_seenOf.2.1 52 = .ok (.ior, 1) := by decide +kernel
theorem dX8_seenOf_53 : decode mX8_seenOf.2.1 53 = .ok (.istore 5, 2) := by decide +kernel
theorem dX8_seenOf_55 : decode mX8_seenOf.2.1 55 = .ok (.iinc 6 1, 3) := by decide +kernel
theorem dX8_seenOf_58 : decode mX8_seenOf.2.1 58 = .ok (.goto (-42), 3) := by decide +kernel
theorem dX8_seenOf_61 : decode mX8_seenOf.2.1 61 = .ok (.iload 5, 2) := by decide +kernel
theorem dX8_seenOf_63 : decode mX8_seenOf.2.1 63 = .ok (.ireturn, 1) := by decide +kernel
theorem dX8_sees_0 : decode mX8_sees.2.1 0 = .ok (.aload_n 0, 1) := by decide +kernel
theorem dX8_sees_1 : decode mX8_sees.2.1 1 = .ok (.aload_n 1, 1) := by decide +kernel
theorem dX8_sees_2 : decode mX8_sees.2.1 2 = .ok (.iload_n 2, 1) := by decide +kernel
theorem dX8_sees_3 : decode mX8_sees.2.1 3 = .ok (.iconst 1, 1) := by decide +kernel
theorem dX8_sees_4 : decode mX8_sees.2.1 4 = .ok (.iload_n 3, 1) := by decide +kernel
theorem dX8_sees_5 : decode mX8_sees.2.1 5 = .ok (.ishl, 1) := by decide +kernel
theorem dX8_sees_6 : decode mX8_sees.2.1 6 = .ok (.invokevirtual 161, 3) := by decide +kernel
theorem dX8_sees_9 : decode mX8_sees.2.1 9 = .ok (.ifCond .eq 7, 3) := by decide +kernel
theorem dX8_sees_12 : decode mX8_sees.2.1 12 = .ok (.iconst 1, 1) := by decide +kernel
theorem dX8_sees_13 : decode mX8_sees.2.1 13 = .ok (.goto 4, 3) := by decide +kernel
theorem dX8_sees_16 : decode mX8_sees.2.1 16 = .ok (.iconst 0, 1) := by decide +kernel
theorem dX8_sees_17 : decode mX8_sees.2.1 17 = .ok (.ireturn, 1) := by decide +kernel
theorem dX8_roomsSeeing_0 : decode mX8_roomsSeeing.2.1 0 = .ok (.iconst 0, 1) := by decide +kernel
theorem dX8_roomsSeeing_1 : decode mX8_roomsSeeing.2.1 1 = .ok (.istore_n 3, 1) := by decide +kernel
theorem dX8_roomsSeeing_2 : decode mX8_roomsSeeing.2.1 2 = .ok (.iconst 0, 1) := by decide +kernel
theorem dX8_roomsSeeing_3 : decode mX8_roomsSeeing.2.1 3 = .ok (.istore 4, 2) := by decide +kernel
theorem dX8_roomsSeeing_5 : decode mX8_roomsSeeing.2.1 5 = .ok (.iload 4, 2) := by decide +kernel
theorem dX8_roomsSeeing_7 : decode mX8_roomsSeeing.2.1 7 = .ok (.aload_n 0, 1) := by decide +kernel
theorem dX8_roomsSeeing_8 : decode mX8_roomsSeeing.2.1 8 = .ok (.getfield 50, 3) := by decide +kernel
theorem dX8_roomsSeeing_11 : decode mX8_roomsSeeing.2.1 11 = .ok (.if_icmp .ge 29, 3) := by decide +kernel
theorem dX8_roomsSeeing_14 : decode mX8_roomsSeeing.2.1 14 = .ok (.aload_n 0, 1) := by decide +kernel
theorem dX8_roomsSeeing_15 : decode mX8_roomsSeeing.2.1 15 = .ok (.aload_n 1, 1) := by decide +kernel
theorem dX8_roomsSeeing_16 : decode mX8_roomsSeeing.2.1 16 = .ok (.iload 4, 2) := by decide +kernel
theorem dX8_roomsSeeing_18 : decode mX8_roomsSeeing.2.1 18 = .ok (.iconst 1, 1) := by decide +kernel
theorem dX8_roomsSeeing_19 : decode mX8_roomsSeeing.2.1 19 = .ok (.iload_n 2, 1) := by decide +kernel
theorem dX8_roomsSeeing_20 : decode mX8_roomsSeeing.2.1 20 = .ok (.ishl, 1) := by decide +kernel
theorem dX8_roomsSeeing_21 : decode mX8_roomsSeeing.2.1 21 = .ok (.invokevirtual 161, 3) := by decide +kernel
theorem dX8_roomsSeeing_24 : decode mX8_roomsSeeing.2.1 24 = .ok (.ifCond .eq 10, 3) := by decide +kernel
theorem dX8_roomsSeeing_27 : decode mX8_roomsSeeing.2.1 27 = .ok (.iload_n 3, 1) := by decide +kernel
theorem dX8_roomsSeeing_28 : decode mX8_roomsSeeing.2.1 28 = .ok (.iconst 1, 1) := by decide +kernel
theorem dX8_roomsSeeing_29 : decode mX8_roomsSeeing.2.1 29 = .ok (.iload 4, 2) := by decide +kernel
theorem dX8_roomsSeeing_31 : decode mX8_roomsSeeing.2.1 31 = .ok (.ishl, 1) := by decide +kernel
theorem dX8_roomsSeeing_32 : decode mX8_roomsSeeing.2.1 32 = .ok (.ior, 1) := by decide +kernel
theorem dX8_roomsSeeing_33 : decode mX8_roomsSeeing.2.1 33 = .ok (.istore_n 3, 1) := by decide +kernel
theorem dX8_roomsSeeing_34 : decode mX8_roomsSeeing.2.1 34 = .ok (.iinc 4 1, 3) := by decide +kernel
theorem dX8_roomsSeeing_37 : decode mX8_roomsSeeing.2.1 37 = .ok (.goto (-32), 3) := by decide +kernel
theorem dX8_roomsSeeing_40 : decode mX8_roomsSeeing.2.1 40 = .ok (.iload_n 3, 1) := by decide +kernel
theorem dX8_roomsSeeing_41 : decode mX8_roomsSeeing.2.1 41 = .ok (.ireturn, 1) := by decide +kernel
theorem dX9_init_0 : decode mX9_init.2.1 0 = .ok (.aload_n 0, 1) := by decide +kernel
theorem dX9_init_1 : decode mX9_init.2.1 1 = .ok (.invokespecial 3, 3) := by decide +kernel
theorem dX9_init_4 : decode mX9_init.2.1 4 = .ok (.aload_n 0, 1) := by decide +kernel
theorem dX9_init_5 : decode mX9_init.2.1 5 = .ok (.bipush 36, 2) := by decide +kernel
theorem dX9_init_7 : decode mX9_init.2.1 7 = .ok (.newarray .long, 2) := by decide +kernel
theorem dX9_init_9 : decode mX9_init.2.1 9 = .ok (.putfield 9, 3) := by decide +kernel
theorem dX9_init_12 : decode mX9_init.2.1 12 = .ok (.aload_n 0, 1) := by decide +kernel
theorem dX9_init_13 : decode mX9_init.2.1 13 = .ok (.aload_n 1, 1) := by decide +kernel
theorem dX9_init_14 : decode mX9_init.2.1 14 = .ok (.putfield 15, 3) := by decide +kernel
theorem dX9_init_17 : decode mX9_init.2.1 17 = .ok (.return_, 1) := by decide +kernel
theorem dX9_unseen_0 : decode mX9_unseen.2.1 0 = .ok (.lconst 0, 1) := by decide +kernel
theorem dX9_unseen_1 : decode mX9_unseen.2.1 1 = .ok (.lstore 5, 2) := by decide +kernel
theorem dX9_unseen_3 : decode mX9_unseen.2.1 3 = .ok (.aload_n 0, 1) := by decide +kernel
theorem dX9_unseen_4 : decode mX9_unseen.2.1 4 = .ok (.aload_n 1, 1) := by decide +kernel
theorem dX9_unseen_5 : decode mX9_unseen.2.1 5 = .ok (.iload_n 2, 1) := by decide +kernel
theorem dX9_unseen_6 : decode mX9_unseen.2.1 6 = .ok (.iload_n 3, 1) := by decide +kernel
theorem dX9_unseen_7 : decode mX9_unseen.2.1 7 = .ok (.iload 4, 2) := by decide +kernel
theorem dX9_unseen_9 : decode mX9_unseen.2.1 9 = .ok (.invokevirtual 19, 3) := by decide +kernel
theorem dX9_unseen_12 : decode mX9_unseen.2.1 12 = .ok (.istore 7, 2) := by decide +kernel
theorem dX9_unseen_14 : decode mX9_unseen.2.1 14 = .ok (.iconst 0, 1) := by decide +kernel
theorem dX9_unseen_15 : decode mX9_unseen.2.1 15 = .ok (.istore 8, 2) := by decide +kernel
theorem dX9_unseen_17 : decode mX9_unseen.2.1 17 = .ok (.iload 8, 2) := by decide +kernel
theorem dX9_unseen_19 : decode mX9_unseen.2.1 19 = .ok (.aload_n 0, 1) := by decide +kernel
theorem dX9_unseen_20 : decode mX9_unseen.2.1 20 = .ok (.getfield 15, 3) := by decide +kernel
theorem dX9_unseen_23 : decode mX9_unseen.2.1 23 = .ok (.invokevirtual 23, 3) := by decide +kernel
theorem dX9_unseen_26 : decode mX9_unseen.2.1 26 = .ok (.if_icmp .ge 29, 3) := by decide +kernel
theorem dX9_unseen_29 : decode mX9_unseen.2.1 29 = .ok (.aload_n 0, 1) := by decide +kernel
theorem dX9_unseen_30 : decode mX9_unseen.2.1 30 = .ok (.iload 7, 2) := by decide +kernel
theorem dX9_unseen_32 : decode mX9_unseen.2.1 32 = .ok (.iload 8, 2) := by decide +kernel
theorem dX9_unseen_34 : decode mX9_unseen.2.1 34 = .ok (.invokevirtual 29, 3) := by decide +kernel
theorem dX9_unseen_37 : decode mX9_unseen.2.1 37 = .ok (.ifCond .ne 12, 3) := by decide +kernel
theorem dX9_unseen_40 : decode mX9_unseen.2.1 40 = .ok (.lload 5, 2) := by decide +kernel
theorem dX9_unseen_42 : decode mX9_unseen.2.1 42 = .ok (.lconst 1, 1) := by decide +kernel
theorem dX9_unseen_43 : decode mX9_unseen.2.1 43 = .ok (.iload 8, 2) := by decide +kernel
theorem dX9_unseen_45 : decode mX9_unseen.2.1 45 = .ok (.lshl, 1) := by decide +kernel
theorem dX9_unseen_46 : decode mX9_unseen.2.1 46 = .ok (.lor, 1) := by decide +kernel
theorem dX9_unseen_47 : decode mX9_unseen.2.1 47 = .ok (.lstore 5, 2) := by decide +kernel
theorem dX9_unseen_49 : decode mX9_unseen.2.1 49 = .ok (.iinc 8 1, 3) := by decide +kernel
theorem dX9_unseen_52 : decode mX9_unseen.2.1 52 = .ok (.goto (-35), 3) := by decide +kernel
theorem dX9_unseen_55 : decode mX9_unseen.2.1 55 = .ok (.lload 5, 2) := by decide +kernel
theorem dX9_unseen_57 : decode mX9_unseen.2.1 57 = .ok (.lreturn, 1) := by decide +kernel
theorem dX9_roomsLetting_0 : decode mX9_roomsLetting.2.1 0 = .ok (.iconst 0, 1) := by decide +kernel
theorem dX9_roomsLetting_1 : decode mX9_roomsLetting.2.1 1 = .ok (.istore 5, 2) := by decide +kernel
theorem dX9_roomsLetting_3 : decode mX9_roomsLetting.2.1 3 = .ok (.iconst 0, 1) := by decide +kernel
theorem dX9_roomsLetting_4 : decode mX9_roomsLetting.2.1 4 = .ok (.istore 6, 2) := by decide +kernel
theorem dX9_roomsLetting_6 : decode mX9_roomsLetting.2.1 6 = .ok (.iload 6, 2) := by decide +kernel
theorem dX9_roomsLetting_8 : decode mX9_roomsLetting.2.1 8 = .ok (.aload_n 0, 1) := by decide +kernel
theorem dX9_roomsLetting_9 : decode mX9_roomsLetting.2.1 9 = .ok (.getfield 15, 3) := by decide +kernel
theorem dX9_roomsLetting_12 : decode mX9_roomsLetting.2.1 12 = .ok (.getfield 33, 3) := by decide +kernel
theorem dX9_roomsLetting_15 : decode mX9_roomsLetting.2.1 15 = .ok (.if_icmp .ge 60, 3) := by decide +kernel
theorem dX9_roomsLetting_18 : decode mX9_roomsLetting.2.1 18 = .ok (.aload_n 1, 1) := by decide +kernel
theorem dX9_roomsLetting_19 : decode mX9_roomsLetting.2.1 19 = .ok (.getfield 37, 3) := by decide +kernel
theorem dX9_roomsLetting_22 : decode mX9_roomsLetting.2.1 22 = .ok (.iload 6, 2) := by decide +kernel
theorem dX9_roomsLetting_24 : decode mX9_roomsLetting.2.1 24 = .ok (.iaload, 1) := by decide +kernel
theorem dX9_roomsLetting_25 : decode mX9_roomsLetting.2.1 25 = .ok (.istore 7, 2) := by decide +kernel
theorem dX9_roomsLetting_27 : decode mX9_roomsLetting.2.1 27 = .ok (.iload 7, 2) := by decide +kernel
theorem dX9_roomsLetting_29 : decode mX9_roomsLetting.2.1 29 = .ok (.iconst (-1), 1) := by decide +kernel
theorem dX9_roomsLetting_30 : decode mX9_roomsLetting.2.1 30 = .ok (.if_icmp .eq 39, 3) := by decide +kernel
theorem dX9_roomsLetting_33 : decode mX9_roomsLetting.2.1 33 = .ok (.iload 5, 2) := by decide +kernel
theorem dX9_roomsLetting_35 : decode mX9_roomsLetting.2.1 35 = .ok (.iload 7, 2) := by decide +kernel
theorem dX9_roomsLetting_37 : decode mX9_roomsLetting.2.1 37 = .ok (.invokestatic 43, 3) := by decide +kernel
theorem dX9_roomsLetting_40 : decode mX9_roomsLetting.2.1 40 = .ok (.ifCond .ne 29, 3) := by decide +kernel
theorem dX9_roomsLetting_43 : decode mX9_roomsLetting.2.1 43 = .ok (.aload_n 0, 1) := by decide +kernel
theorem dX9_roomsLetting_44 : decode mX9_roomsLetting.2.1 44 = .ok (.getfield 15, 3) := by decide +kernel
theorem dX9_roomsLetting_47 : decode mX9_roomsLetting.2.1 47 = .ok (.aload_n 1, 1) := by decide +kernel
theorem dX9_roomsLetting_48 : decode mX9_roomsLetting.2.1 48 = .ok (.iload_n 2, 1) := by decide +kernel
theorem dX9_roomsLetting_49 : decode mX9_roomsLetting.2.1 49 = .ok (.iload 6, 2) := by decide +kernel
theorem dX9_roomsLetting_51 : decode mX9_roomsLetting.2.1 51 = .ok (.iload_n 3, 1) := by decide +kernel
theorem dX9_roomsLetting_52 : decode mX9_roomsLetting.2.1 52 = .ok (.iload 4, 2) := by decide +kernel
theorem dX9_roomsLetting_54 : decode mX9_roomsLetting.2.1 54 = .ok (.invokevirtual 46, 3) := by decide +kernel
theorem dX9_roomsLetting_57 : decode mX9_roomsLetting.2.1 57 = .ok (.ifCond .eq 12, 3) := by decide +kernel
theorem dX9_roomsLetting_60 : decode mX9_roomsLetting.2.1 60 = .ok (.iload 5, 2) := by decide +kernel
theorem dX9_roomsLetting_62 : decode mX9_roomsLetting.2.1 62 = .ok (.iconst 1, 1) := by decide +kernel
theorem dX9_roomsLetting_63 : decode mX9_roomsLetting.2.1 63 = .ok (.iload 7, 2) := by decide +kernel
theorem dX9_roomsLetting_65 : decode mX9_roomsLetting.2.1 65 = .ok (.ishl, 1) := by decide +kernel
theorem dX9_roomsLetting_66 : decode mX9_roomsLetting.2.1 66 = .ok (.ior, 1) := by decide +kernel
theorem dX9_roomsLetting_67 : decode mX9_roomsLetting.2.1 67 = .ok (.istore 5, 2) := by decide +kernel
theorem dX9_roomsLetting_69 : decode mX9_roomsLetting.2.1 69 = .ok (.iinc 6 1, 3) := by decide +kernel
theorem dX9_roomsLetting_72 : decode mX9_roomsLetting.2.1 72 = .ok (.goto (-66), 3) := by decide +kernel
theorem dX9_roomsLetting_75 : decode mX9_roomsLetting.2.1 75 = .ok (.iload 5, 2) := by decide +kernel
theorem dX9_roomsLetting_77 : decode mX9_roomsLetting.2.1 77 = .ok (.ireturn, 1) := by decide +kernel
theorem dX9_isReached_0 : decode mX9_isReached.2.1 0 = .ok (.iconst 0, 1) := by decide +kernel
theorem dX9_isReached_1 : decode mX9_isReached.2.1 1 = .ok (.istore_n 3, 1) := by decide +kernel
theorem dX9_isReached_2 : decode mX9_isReached.2.1 2 = .ok (.iload_n 3, 1) := by decide +kernel
theorem dX9_isReached_3 : decode mX9_isReached.2.1 3 = .ok (.aload_n 0, 1) := by decide +kernel
theorem dX9_isReached_4 : decode mX9_isReached.2.1 4 = .ok (.getfield 15, 3) := by decide +kernel
theorem dX9_isReached_7 : decode mX9_isReached.2.1 7 = .ok (.getfield 50, 3) := by decide +kernel
theorem dX9_isReached_10 : decode mX9_isReached.2.1 10 = .ok (.if_icmp .ge 31, 3) := by decide +kernel
theorem dX9_isReached_13 : decode mX9_isReached.2.1 13 = .ok (.iload_n 1, 1) := by decide +kernel
theorem dX9_isReached_14 : decode mX9_isReached.2.1 14 = .ok (.iload_n 3, 1) := by decide +kernel
theorem dX9_isReached_15 : decode mX9_isReached.2.1 15 = .ok (.invokestatic 43, 3) := by decide +kernel
theorem dX9_isReached_18 : decode mX9_isReached.2.1 18 = .ok (.ifCond .eq 17, 3) := by decide +kernel
theorem dX9_isReached_21 : decode mX9_isReached.2.1 21 = .ok (.aload_n 0, 1) := by decide +kernel
theorem dX9_isReached_22 : decode mX9_isReached.2.1 22 = .ok (.getfield 15, 3) := by decide +kernel
theorem dX9_isReached_25 : decode mX9_isReached.2.1 25 = .ok (.iload_n 3, 1) := by decide +kernel
theorem dX9_isReached_26 : decode mX9_isReached.2.1 26 = .ok (.iload_n 2, 1) := by decide +kernel
theorem dX9_isReached_27 : decode mX9_isReached.2.1 27 = .ok (.invokevirtual 53, 3) := by decide +kernel
theorem dX9_isReached_30 : decode mX9_isReached.2.1 30 = .ok (.ifCond .eq 5, 3) := by decide +kernel
theorem dX9_isReached_33 : decode mX9_isReached.2.1 33 = .ok (.iconst 1, 1) := by decide +kernel
theorem dX9_isReached_34 : decode mX9_isReached.2.1 34 = .ok (.ireturn, 1) := by decide +kernel
theorem dX9_isReached_35 : decode mX9_isReached.2.1 35 = .ok (.iinc 3 1, 3) := by decide +kernel
theorem dX9_isReached_38 : decode mX9_isReached.2.1 38 = .ok (.goto (-36), 3) := by decide +kernel
theorem dX9_isReached_41 : decode mX9_isReached.2.1 41 = .ok (.iconst 0, 1) := by decide +kernel
theorem dX9_isReached_42 : decode mX9_isReached.2.1 42 = .ok (.ireturn, 1) := by decide +kernel
theorem dX9_beside_0 : decode mX9_beside.2.1 0 = .ok (.lconst 0, 1) := by decide +kernel
theorem dX9_beside_1 : decode mX9_beside.2.1 1 = .ok (.lstore_n 3, 1) := by decide +kernel
theorem dX9_beside_2 : decode mX9_beside.2.1 2 = .ok (.iconst 0, 1) := by decide +kernel
theorem dX9_beside_3 : decode mX9_beside.2.1 3 = .ok (.istore 5, 2) := by decide +kernel
theorem dX9_beside_5 : decode mX9_beside.2.1 5 = .ok (.iload 5, 2) := by decide +kernel
theorem dX9_beside_7 : decode mX9_beside.2.1 7 = .ok (.aload_n 0, 1) := by decide +kernel
theorem dX9_beside_8 : decode mX9_beside.2.1 8 = .ok (.getfield 15, 3) := by decide +kernel
theorem dX9_beside_11 : decode mX9_beside.2.1 11 = .ok (.invokevirtual 23, 3) := by decide +kernel
theorem dX9_beside_14 : decode mX9_beside.2.1 14 = .ok (.if_icmp .ge 29, 3) := by decide +kernel
theorem dX9_beside_17 : decode mX9_beside.2.1 17 = .ok (.lload_n 1, 1) := by decide +kernel
theorem dX9_beside_18 : decode mX9_beside.2.1 18 = .ok (.iload 5, 2) := by decide +kernel
theorem dX9_beside_20 : decode mX9_beside.2.1 20 = .ok (.lushr, 1) := by decide +kernel
theorem dX9_beside_21 : decode mX9_beside.2.1 21 = .ok (.lconst 1, 1) := by decide +kernel
theorem dX9_beside_22 : decode mX9_beside.2.1 22 = .ok (.land, 1) := by decide +kernel
theorem dX9_beside_23 : decode mX9_beside.2.1 23 = .ok (.lconst 0, 1) := by decide +kernel
theorem dX9_beside_24 : decode mX9_beside.2.1 24 = .ok (.lcmp, 1) := by decide +kernel
theorem dX9_beside_25 : decode mX9_beside.2.1 25 = .ok (.ifCond .eq 12, 3) := by decide +kernel
theorem dX9_beside_28 : decode mX9_beside.2.1 28 = .ok (.lload_n 3, 1) := by decide +kernel
theorem dX9_beside_29 : decode mX9_beside.2.1 29 = .ok (.aload_n 0, 1) := by decide +kernel
theorem dX9_beside_30 : decode mX9_beside.2.1 30 = .ok (.iload 5, 2) := by decide +kernel
theorem dX9_beside_32 : decode mX9_beside.2.1 32 = .ok (.invokevirtual 56, 3) := by decide +kernel
theorem dX9_beside_35 : decode mX9_beside.2.1 35 = .ok (.lor, 1) := by decide +kernel
theorem dX9_beside_36 : decode mX9_beside.2.1 36 = .ok (.lstore_n 3, 1) := by decide +kernel
theorem dX9_beside_37 : decode mX9_beside.2.1 37 = .ok (.iinc 5 1, 3) := by decide +kernel
theorem dX9_beside_40 : decode mX9_beside.2.1 40 = .ok (.goto (-35), 3) := by decide +kernel
theorem dX9_beside_43 : decode mX9_beside.2.1 43 = .ok (.lload_n 3, 1) := by decide +kernel
theorem dX9_beside_44 : decode mX9_beside.2.1 44 = .ok (.lreturn, 1) := by decide +kernel
theorem dX9_besideOne_0 : decode mX9_besideOne.2.1 0 = .ok (.lconst 0, 1) := by decide +kernel
theorem dX9_besideOne_1 : decode mX9_besideOne.2.1 1 = .ok (.lstore_n 2, 1) := by decide +kernel
theorem dX9_besideOne_2 : decode mX9_besideOne.2.1 2 = .ok (.iconst 0, 1) := by decide +kernel
theorem dX9_besideOne_3 : decode mX9_besideOne.2.1 3 = .ok (.istore 4, 2) := by decide +kernel
theorem dX9_besideOne_5 : decode mX9_besideOne.2.1 5 = .ok (.iload 4, 2) := by decide +kernel
theorem dX9_besideOne_7 : decode mX9_besideOne.2.1 7 = .ok (.iconst 4, 1) := by decide +kernel
theorem dX9_besideOne_8 : decode mX9_besideOne.2.1 8 = .ok (.if_icmp .ge 34, 3) := by decide +kernel
theorem dX9_besideOne_11 : decode mX9_besideOne.2.1 11 = .ok (.aload_n 0, 1) := by decide +kernel
theorem dX9_besideOne_12 : decode mX9_besideOne.2.1 12 = .ok (.getfield 15, 3) := by decide +kernel
theorem dX9_besideOne_15 : decode mX9_besideOne.2.1 15 = .ok (.iload_n 1, 1) := by decide +kernel
theorem dX9_besideOne_16 : decode mX9_besideOne.2.1 16 = .ok (.iload 4, 2) := by decide +kernel
theorem dX9_besideOne_18 : decode mX9_besideOne.2.1 18 = .ok (.invokevirtual 60, 3) := by decide +kernel
theorem dX9_besideOne_21 : decode mX9_besideOne.2.1 21 = .ok (.istore 5, 2) := by decide +kernel
theorem dX9_besideOne_23 : decode mX9_besideOne.2.1 23 = .ok (.iload 5, 2) := by decide +kernel
theorem dX9_besideOne_25 : decode mX9_besideOne.2.1 25 = .ok (.iconst (-1), 1) := by decide +kernel
theorem dX9_besideOne_26 : decode mX9_besideOne.2.1 26 = .ok (.if_icmp .eq 10, 3) := by decide +kernel
theorem dX9_besideOne_29 : decode mX9_besideOne.2.1 29 = .ok (.lload_n 2, 1) := by decide +kernel
theorem dX9_besideOne_30 : decode mX9_besideOne.2.1 30 = .ok (.lconst 1, 1) := by decide +kernel
theorem dX9_besideOne_31 : decode mX9_besideOne.2.1 31 = .ok (.iload 5, 2) := by decide +kernel
theorem dX9_besideOne_33 : decode mX9_besideOne.2.1 33 = .ok (.lshl, 1) := by decide +kernel
theorem dX9_besideOne_34 : decode mX9_besideOne.2.1 34 = .ok (.lor, 1) := by decide +kernel
theorem dX9_besideOne_35 : decode mX9_besideOne.2.1 35 = .ok (.lstore_n 2, 1) := by decide +kernel
theorem dX9_besideOne_36 : decode mX9_besideOne.2.1 36 = .ok (.iinc 4 1, 3) := by decide +kernel
theorem dX9_besideOne_39 : decode mX9_besideOne.2.1 39 = .ok (.goto (-34), 3) := by decide +kernel
theorem dX9_besideOne_42 : decode mX9_besideOne.2.1 42 = .ok (.lload_n 2, 1) := by decide +kernel
theorem dX9_besideOne_43 : decode mX9_besideOne.2.1 43 = .ok (.lreturn, 1) := by decide +kernel
theorem dX9_tellShortest_0 : decode mX9_tellShortest.2.1 0 = .ok (.aload_n 0, 1) := by decide +kernel
theorem dX9_tellShortest_1 : decode mX9_tellShortest.2.1 1 = .ok (.lload_n 1, 1) := by decide +kernel
theorem dX9_tellShortest_2 : decode mX9_tellShortest.2.1 2 = .ok (.iload_n 3, 1) := by decide +kernel
theorem dX9_tellShortest_3 : decode mX9_tellShortest.2.1 3 = .ok (.iload 4, 2) := by decide +kernel
theorem dX9_tellShortest_5 : decode mX9_tellShortest.2.1 5 = .ok (.invokevirtual 64, 3) := by decide +kernel
theorem dX9_tellShortest_8 : decode mX9_tellShortest.2.1 8 = .ok (.istore 6, 2) := by decide +kernel
theorem dX9_tellShortest_10 : decode mX9_tellShortest.2.1 10 = .ok (.iload 6, 2) := by decide +kernel
theorem dX9_tellShortest_12 : decode mX9_tellShortest.2.1 12 = .ok (.iconst (-1), 1) := by decide +kernel
theorem dX9_tellShortest_13 : decode mX9_tellShortest.2.1 13 = .ok (.if_icmp .ne 6, 3) := by decide +kernel
theorem dX9_tellShortest_16 : decode mX9_tellShortest.2.1 16 = .ok (.bipush (-2), 2) := by decide +kernel
theorem dX9_tellShortest_18 : decode mX9_tellShortest.2.1 18 = .ok (.ireturn, 1) := by decide +kernel
theorem dX9_tellShortest_19 : decode mX9_tellShortest.2.1 19 = .ok (.aload 5, 2) := by decide +kernel
theorem dX9_tellShortest_21 : decode mX9_tellShortest.2.1 21 = .ok (.iload_n 3, 1) := by decide +kernel
theorem dX9_tellShortest_22 : decode mX9_tellShortest.2.1 22 = .ok (.i2l, 1) := by decide +kernel
theorem dX9_tellShortest_23 : decode mX9_tellShortest.2.1 23 = .ok (.invokevirtual 68, 3) := by decide +kernel
theorem dX9_tellShortest_26 : decode mX9_tellShortest.2.1 26 = .ok (.iload_n 3, 1) := by decide +kernel
theorem dX9_tellShortest_27 : decode mX9_tellShortest.2.1 27 = .ok (.istore 7, 2) := by decide +kernel
theorem dX9_tellShortest_29 : decode mX9_tellShortest.2.1 29 = .ok (.iload 6, 2) := by decide +kernel
theorem dX9_tellShortest_31 : decode mX9_tellShortest.2.1 31 = .ok (.iconst 1, 1) := by decide +kernel
theorem dX9_tellShortest_32 : decode mX9_tellShortest.2.1 32 = .ok (.isub, 1) := by decide +kernel
theorem dX9_tellShortest_33 : decode mX9_tellShortest.2.1 33 = .ok (.istore 8, 2) := by decide +kernel
theorem dX9_tellShortest_35 : decode mX9_tellShortest.2.1 35 = .ok (.iload 8, 2) := by decide +kernel
theorem dX9_tellShortest_37 : decode mX9_tellShortest.2.1 37 = .ok (.ifCond .lt 36, 3) := by decide +kernel
theorem dX9_tellShortest_40 : decode mX9_tellShortest.2.1 40 = .ok (.aload_n 0, 1) := by decide +kernel
theorem dX9_tellShortest_41 : decode mX9_tellShortest.2.1 41 = .ok (.iload 7, 2) := by decide +kernel
theorem dX9_tellShortest_43 : decode mX9_tellShortest.2.1 43 = .ok (.invokevirtual 56, 3) := by decide +kernel
theorem dX9_tellShortest_46 : decode mX9_tellShortest.2.1 46 = .ok (.aload_n 0, 1) := by decide +kernel
theorem dX9_tellShortest_47 : decode mX9_tellShortest.2.1 47 = .ok (.getfield 9, 3) := by decide +kernel
theorem dX9_tellShortest_50 : decode mX9_tellShortest.2.1 50 = .ok (.iload 8, 2) := by decide +kernel
theorem dX9_tellShortest_52 : decode mX9_tellShortest.2.1 52 = .ok (.laload, 1) := by decide +kernel
theorem dX9_tellShortest_53 : decode mX9_tellShortest.2.1 53 = .ok (.land, 1) := by decide +kernel
theorem dX9_tellShortest_54 : decode mX9_tellShortest.2.1 54 = .ok (.invokestatic 74, 3) := by decide +kernel
theorem dX9_tellShortest_57 : decode mX9_tellShortest.2.1 57 = .ok (.istore 7, 2) := by decide +kernel
theorem dX9_tellShortest_59 : decode mX9_tellShortest.2.1 59 = .ok (.aload 5, 2) := by decide +kernel
theorem dX9_tellShortest_61 : decode mX9_tellShortest.2.1 61 = .ok (.iload 7, 2) := by decide +kernel
theorem dX9_tellShortest_63 : decode mX9_tellShortest.2.1 63 = .ok (.i2l, 1) := by decide +kernel
theorem dX9_tellShortest_64 : decode mX9_tellShortest.2.1 64 = .ok (.invokevirtual 78, 3) := by decide +kernel
theorem dX9_tellShortest_67 : decode mX9_tellShortest.2.1 67 = .ok (.iinc 8 (-1), 3) := by decide +kernel
theorem dX9_tellShortest_70 : decode mX9_tellShortest.2.1 70 = .ok (.goto (-35), 3) := by decide +kernel
theorem dX9_tellShortest_73 : decode mX9_tellShortest.2.1 73 = .ok (.iload 6, 2) := by decide +kernel
theorem dX9_tellShortest_75 : decode mX9_tellShortest.2.1 75 = .ok (.ireturn, 1) := by decide +kernel
theorem dX9_stepsBetween_0 : decode mX9_stepsBetween.2.1 0 = .ok (.lload_n 1, 1) := by decide +kernel
theorem dX9_stepsBetween_1 : decode mX9_stepsBetween.2.1 1 = .ok (.lstore 5, 2) := by decide +kernel
theorem dX9_stepsBetween_3 : decode mX9_stepsBetween.2.1 3 = .ok (.lconst 1, 1) := by decide +kernel
theorem dX9_stepsBetween_4 : decode mX9_stepsBetween.2.1 4 = .ok (.iload 4, 2) := by decide +kernel
theorem dX9_stepsBetween_6 : decode mX9_stepsBetween.2.1 6 = .ok (.lshl, 1) := by decide +kernel
theorem dX9_stepsBetween_7 : decode mX9_stepsBetween.2.1 7 = .ok (.lload 5, 2) := by decide +kernel
theorem dX9_stepsBetween_9 : decode mX9_stepsBetween.2.1 9 = .ok (.land, 1) := by decide +kernel
theorem dX9_stepsBetween_10 : decode mX9_stepsBetween.2.1 10 = .ok (.lstore 7, 2) := by decide +kernel
theorem dX9_stepsBetween_12 : decode mX9_stepsBetween.2.1 12 = .ok (.iconst 0, 1) := by decide +kernel
theorem dX9_stepsBetween_13 : decode mX9_stepsBetween.2.1 13 = .ok (.istore 9, 2) := by decide +kernel
theorem dX9_stepsBetween_15 : decode mX9_stepsBetween.2.1 15 = .ok (.iload 9, 2) := by decide +kernel
theorem dX9_stepsBetween_17 : decode mX9_stepsBetween.2.1 17 = .ok (.bipush 36, 2) := by decide +kernel
theorem dX9_stepsBetween_19 : decode mX9_stepsBetween.2.1 19 = .ok (.if_icmp .ge 61, 3) := by decide +kernel
theorem dX9_stepsBetween_22 : decode mX9_stepsBetween.2.1 22 = .ok (.lload 7, 2) := by decide +kernel
theorem dX9_stepsBetween_24 : decode mX9_stepsBetween.2.1 24 = .ok (.lconst 0, 1) := by decide +kernel
theorem dX9_stepsBetween_25 : decode mX9_stepsBetween.2.1 25 = .ok (.lcmp, 1) := by decide +kernel
theorem dX9_stepsBetween_26 : decode mX9_stepsBetween.2.1 26 = .ok (.ifCond .eq 54, 3) := by decide +kernel
theorem dX9_stepsBetween_29 : decode mX9_stepsBetween.2.1 29 = .ok (.aload_n 0, 1) := by decide +kernel
theorem dX9_stepsBetween_30 : decode mX9_stepsBetween.2.1 30 = .ok (.getfield 9, 3) := by decide +kernel
theorem dX9_stepsBetween_33 : decode mX9_stepsBetween.2.1 33 = .ok (.iload 9, 2) := by decide +kernel
theorem dX9_stepsBetween_35 : decode mX9_stepsBetween.2.1 35 = .ok (.lload 7, 2) := by decide +kernel
theorem dX9_stepsBetween_37 : decode mX9_stepsBetween.2.1 37 = .ok (.lastore, 1) := by decide +kernel
theorem dX9_stepsBetween_38 : decode mX9_stepsBetween.2.1 38 = .ok (.lload 7, 2) := by decide +kernel
theorem dX9_stepsBetween_40 : decode mX9_stepsBetween.2.1 40 = .ok (.iload_n 3, 1) := by decide +kernel
theorem dX9_stepsBetween_41 : decode mX9_stepsBetween.2.1 41 = .ok (.lushr, 1) := by decide +kernel
theorem dX9_stepsBetween_42 : decode mX9_stepsBetween.2.1 42 = .ok (.lconst 1, 1) := by decide +kernel
theorem dX9_stepsBetween_43 : decode mX9_stepsBetween.2.1 43 = .ok (.land, 1) := by decide +kernel
theorem dX9_stepsBetween_44 : decode mX9_stepsBetween.2.1 44 = .ok (.lconst 0, 1) := by decide +kernel
theorem dX9_stepsBetween_45 : decode mX9_stepsBetween.2.1 45 = .ok (.lcmp, 1) := by decide +kernel
theorem dX9_stepsBetween_46 : decode mX9_stepsBetween.2.1 46 = .ok (.ifCond .eq 6, 3) := by decide +kernel
theorem dX9_stepsBetween_49 : decode mX9_stepsBetween.2.1 49 = .ok (.iload 9, 2) := by decide +kernel
theorem dX9_stepsBetween_51 : decode mX9_stepsBetween.2.1 51 = .ok (.ireturn, 1) := by decide +kernel
theorem dX9_stepsBetween_52 : decode mX9_stepsBetween.2.1 52 = .ok (.lload 5, 2) := by decide +kernel
theorem dX9_stepsBetween_54 : decode mX9_stepsBetween.2.1 54 = .ok (.lload 7, 2) := by decide +kernel
theorem dX9_stepsBetween_56 : decode mX9_stepsBetween.2.1 56 = .ok (.ldc2_w 81, 3) := by decide +kernel
theorem dX9_stepsBetween_59 : decode mX9_stepsBetween.2.1 59 = .ok (.lxor, 1) := by decide +kernel
theorem dX9_stepsBetween_60 : decode mX9_stepsBetween.2.1 60 = .ok (.land, 1) := by decide +kernel
theorem dX9_stepsBetween_61 : decode mX9_stepsBetween.2.1 61 = .ok (.lstore 5, 2) := by decide +kernel
theorem dX9_stepsBetween_63 : decode mX9_stepsBetween.2.1 63 = .ok (.aload_n 0, 1) := by decide +kernel
theorem dX9_stepsBetween_64 : decode mX9_stepsBetween.2.1 64 = .ok (.lload 7, 2) := by decide +kernel
theorem dX9_stepsBetween_66 : decode mX9_stepsBetween.2.1 66 = .ok (.invokevirtual 83, 3) := by decide +kernel
theorem dX9_stepsBetween_69 : decode mX9_stepsBetween.2.1 69 = .ok (.lload 5, 2) := by decide +kernel
theorem dX9_stepsBetween_71 : decode mX9_stepsBetween.2.1 71 = .ok (.land, 1) := by decide +kernel
theorem dX9_stepsBetween_72 : decode mX9_stepsBetween.2.1 72 = .ok (.lstore 7, 2) := by decide +kernel
theorem dX9_stepsBetween_74 : decode mX9_stepsBetween.2.1 74 = .ok (.iinc 9 1, 3) := by decide +kernel
theorem dX9_stepsBetween_77 : decode mX9_stepsBetween.2.1 77 = .ok (.goto (-62), 3) := by decide +kernel
theorem dX9_stepsBetween_80 : decode mX9_stepsBetween.2.1 80 = .ok (.iconst (-1), 1) := by decide +kernel
theorem dX9_stepsBetween_81 : decode mX9_stepsBetween.2.1 81 = .ok (.ireturn, 1) := by decide +kernel
theorem dX9_lowest_0 : decode mX9_lowest.2.1 0 = .ok (.lload_n 0, 1) := by decide +kernel
theorem dX9_lowest_1 : decode mX9_lowest.2.1 1 = .ok (.lload_n 0, 1) := by decide +kernel
theorem dX9_lowest_2 : decode mX9_lowest.2.1 2 = .ok (.lneg, 1) := by decide +kernel
theorem dX9_lowest_3 : decode mX9_lowest.2.1 3 = .ok (.land, 1) := by decide +kernel
theorem dX9_lowest_4 : decode mX9_lowest.2.1 4 = .ok (.lconst 1, 1) := by decide +kernel
theorem dX9_lowest_5 : decode mX9_lowest.2.1 5 = .ok (.lsub, 1) := by decide +kernel
theorem dX9_lowest_6 : decode mX9_lowest.2.1 6 = .ok (.invokestatic 87, 3) := by decide +kernel
theorem dX9_lowest_9 : decode mX9_lowest.2.1 9 = .ok (.ireturn, 1) := by decide +kernel
theorem dX10_init_0 : decode mX10_init.2.1 0 = .ok (.aload_n 0, 1) := by decide +kernel
theorem dX10_init_1 : decode mX10_init.2.1 1 = .ok (.invokespecial 3, 3) := by decide +kernel
theorem dX10_init_4 : decode mX10_init.2.1 4 = .ok (.aload_n 0, 1) := by decide +kernel
theorem dX10_init_5 : decode mX10_init.2.1 5 = .ok (.bipush 12, 2) := by decide +kernel
theorem dX10_init_7 : decode mX10_init.2.1 7 = .ok (.newarray .int, 2) := by decide +kernel
theorem dX10_init_9 : decode mX10_init.2.1 9 = .ok (.putfield 9, 3) := by decide +kernel
theorem dX10_init_12 : decode mX10_init.2.1 12 = .ok (.aload_n 0, 1) := by decide +kernel
theorem dX10_init_13 : decode mX10_init.2.1 13 = .ok (.bipush 12, 2) := by decide +kernel
theorem dX10_init_15 : decode mX10_init.2.1 15 = .ok (.newarray .int, 2) := by decide +kernel
theorem dX10_init_17 : decode mX10_init.2.1 17 = .ok (.putfield 15, 3) := by decide +kernel
theorem dX10_init_20 : decode mX10_init.2.1 20 = .ok (.aload_n 0, 1) := by decide +kernel
theorem dX10_init_21 : decode mX10_init.2.1 21 = .ok (.bipush 12, 2) := by decide +kernel
theorem dX10_init_23 : decode mX10_init.2.1 23 = .ok (.newarray .boolean, 2) := by decide +kernel
theorem dX10_init_25 : decode mX10_init.2.1 25 = .ok (.putfield 18, 3) := by decide +kernel
theorem dX10_init_28 : decode mX10_init.2.1 28 = .ok (.aload_n 0, 1) := by decide +kernel
theorem dX10_init_29 : decode mX10_init.2.1 29 = .ok (.bipush 10, 2) := by decide +kernel
theorem dX10_init_31 : decode mX10_init.2.1 31 = .ok (.newarray .int, 2) := by decide +kernel
theorem dX10_init_33 : decode mX10_init.2.1 33 = .ok (.putfield 22, 3) := by decide +kernel
theorem dX10_init_36 : decode mX10_init.2.1 36 = .ok (.aload_n 0, 1) := by decide +kernel
theorem dX10_init_37 : decode mX10_init.2.1 37 = .ok (.bipush 10, 2) := by decide +kernel
theorem dX10_init_39 : decode mX10_init.2.1 39 = .ok (.newarray .int, 2) := by decide +kernel
theorem dX10_init_41 : decode mX10_init.2.1 41 = .ok (.putfield 25, 3) := by decide +kernel
theorem dX10_init_44 : decode mX10_init.2.1 44 = .ok (.return_, 1) := by decide +kernel
theorem dX10_add_0 : decode mX10_add.2.1 0 = .ok (.aload_n 0, 1) := by decide +kernel
theorem dX10_add_1 : decode mX10_add.2.1 1 = .ok (.getfield 28, 3) := by decide +kernel
theorem dX10_add_4 : decode mX10_add.2.1 4 = .ok (.bipush 12, 2) := by decide +kernel
theorem dX10_add_6 : decode mX10_add.2.1 6 = .ok (.if_icmp .lt 5, 3) := by decide +kernel
theorem dX10_add_9 : decode mX10_add.2.1 9 = .ok (.iconst (-1), 1) := by decide +kernel
theorem dX10_add_10 : decode mX10_add.2.1 10 = .ok (.ireturn, 1) := by decide +kernel
theorem dX10_add_11 : decode mX10_add.2.1 11 = .ok (.aload_n 0, 1) := by decide +kernel
theorem dX10_add_12 : decode mX10_add.2.1 12 = .ok (.getfield 9, 3) := by decide +kernel
theorem dX10_add_15 : decode mX10_add.2.1 15 = .ok (.aload_n 0, 1) := by decide +kernel
theorem dX10_add_16 : decode mX10_add.2.1 16 = .ok (.getfield 28, 3) := by decide +kernel
theorem dX10_add_19 : decode mX10_add.2.1 19 = .ok (.iload_n 1, 1) := by decide +kernel
theorem dX10_add_20 : decode mX10_add.2.1 20 = .ok (.iastore, 1) := by decide +kernel
theorem dX10_add_21 : decode mX10_add.2.1 21 = .ok (.aload_n 0, 1) := by decide +kernel
theorem dX10_add_22 : decode mX10_add.2.1 22 = .ok (.getfield 15, 3) := by decide +kernel
theorem dX10_add_25 : decode mX10_add.2.1 25 = .ok (.aload_n 0, 1) := by decide +kernel
theorem dX10_add_26 : decode mX10_add.2.1 26 = .ok (.getfield 28, 3) := by decide +kernel
theorem dX10_add_29 : decode mX10_add.2.1 29 = .ok (.iload_n 2, 1) := by decide +kernel
theorem dX10_add_30 : decode mX10_add.2.1 30 = .ok (.iastore, 1) := by decide +kernel
theorem dX10_add_31 : decode mX10_add.2.1 31 = .ok (.aload_n 0, 1) := by decide +kernel
theorem dX10_add_32 : decode mX10_add.2.1 32 = .ok (.getfield 18, 3) := by decide +kernel
theorem dX10_add_35 : decode mX10_add.2.1 35 = .ok (.aload_n 0, 1) := by decide +kernel
theorem dX10_add_36 : decode mX10_add.2.1 36 = .ok (.getfield 28, 3) := by decide +kernel
theorem dX10_add_39 : decode mX10_add.2.1 39 = .ok (.iload_n 3, 1) := by decide +kernel
theorem dX10_add_40 : decode mX10_add.2.1 40 = .ok (.bastore, 1) := by decide +kernel
theorem dX10_add_41 : decode mX10_add.2.1 41 = .ok (.aload_n 0, 1) := by decide +kernel
theorem dX10_add_42 : decode mX10_add.2.1 42 = .ok (.dup, 1) := by decide +kernel
theorem dX10_add_43 : decode mX10_add.2.1 43 = .ok (.getfield 28, 3) := by decide +kernel
theorem dX10_add_46 : decode mX10_add.2.1 46 = .ok (.iconst 1, 1) := by decide +kernel
theorem dX10_add_47 : decode mX10_add.2.1 47 = .ok (.iadd, 1) := by decide +kernel
theorem dX10_add_48 : decode mX10_add.2.1 48 = .ok (.putfield 28, 3) := by decide +kernel
theorem dX10_add_51 : decode mX10_add.2.1 51 = .ok (.aload_n 0, 1) := by decide +kernel
theorem dX10_add_52 : decode mX10_add.2.1 52 = .ok (.getfield 28, 3) := by decide +kernel
theorem dX10_add_55 : decode mX10_add.2.1 55 = .ok (.ireturn, 1) := by decide +kernel
theorem dX10_clear_0 : decode mX10_clear.2.1 0 = .ok (.aload_n 0, 1) := by decide +kernel
theorem dX10_clear_1 : decode mX10_clear.2.1 1 = .ok (.getfield 28, 3) := by decide +kernel
theorem dX10_clear_4 : decode mX10_clear.2.1 4 = .ok (.istore_n 1, 1) := by decide +kernel
theorem dX10_clear_5 : decode mX10_clear.2.1 5 = .ok (.aload_n 0, 1) := by decide +kernel
theorem dX10_clear_6 : decode mX10_clear.2.1 6 = .ok (.iconst 0, 1) := by decide +kernel
theorem dX10_clear_7 : decode mX10_clear.2.1 7 = .ok (.putfield 28, 3) := by decide +kernel
theorem dX10_clear_10 : decode mX10_clear.2.1 10 = .ok (.iload_n 1, 1) := by decide +kernel
theorem dX10_clear_11 : decode mX10_clear.2.1 11 = .ok (.ireturn, 1) := by decide +kernel
theorem dX10_allows_0 : decode mX10_allows.2.1 0 = .ok (.iconst 0, 1) := by decide +kernel
theorem dX10_allows_1 : decode mX10_allows.2.1 1 = .ok (.istore_n 3, 1) := by decide +kernel
theorem dX10_allows_2 : decode mX10_allows.2.1 2 = .ok (.iload_n 3, 1) := by decide +kernel
theorem dX10_allows_3 : decode mX10_allows.2.1 3 = .ok (.aload_n 0, 1) := by decide +kernel
theorem dX10_allows_4 : decode mX10_allows.2.1 4 = .ok (.getfield 28, 3) := by decide +kernel
theorem dX10_allows_7 : decode mX10_allows.2.1 7 = .ok (.if_icmp .ge 37, 3) := by decide +kernel
theorem dX10_allows_10 : decode mX10_allows.2.1 10 = .ok (.iload_n 1, 1) := by decide +kernel
theorem dX10_allows_11 : decode mX10_allows.2.1 11 = .ok (.iload_n 2, 1) := by decide +kernel
theorem dX10_allows_12 : decode mX10_allows.2.1 12 = .ok (.aload_n 0, 1) := by decide +kernel
theorem dX10_allows_13 : decode mX10_allows.2.1 13 = .ok (.getfield 9, 3) := by decide +kernel
theorem dX10_allows_16 : decode mX10_allows.2.1 16 = .ok (.iload_n 3, 1) := by decide +kernel
theorem dX10_allows_17 : decode mX10_allows.2.1 17 = .ok (.iaload, 1) := by decide +kernel
theorem dX10_allows_18 : decode mX10_allows.2.1 18 = .ok (.aload_n 0, 1) := by decide +kernel
theorem dX10_allows_19 : decode mX10_allows.2.1 19 = .ok (.getfield 15, 3) := by decide +kernel
theorem dX10_allows_22 : decode mX10_allows.2.1 22 = .ok (.iload_n 3, 1) := by decide +kernel
theorem dX10_allows_23 : decode mX10_allows.2.1 23 = .ok (.iaload, 1) := by decide +kernel
theorem dX10_allows_24 : decode mX10_allows.2.1 24 = .ok (.invokestatic 32, 3) := by decide +kernel
theorem dX10_allows_27 : decode mX10_allows.2.1 27 = .ok (.aload_n 0, 1) := by decide +kernel
theorem dX10_allows_28 : decode mX10_allows.2.1 28 = .ok (.getfield 18, 3) := by decide +kernel
theorem dX10_allows_31 : decode mX10_allows.2.1 31 = .ok (.iload_n 3, 1) := by decide +kernel
theorem dX10_allows_32 : decode mX10_allows.2.1 32 = .ok (.baload, 1) := by decide +kernel
theorem dX10_allows_33 : decode mX10_allows.2.1 33 = .ok (.if_icmp .eq 5, 3) := by decide +kernel
theorem dX10_allows_36 : decode mX10_allows.2.1 36 = .ok (.iconst 0, 1) := by decide +kernel
theorem dX10_allows_37 : decode mX10_allows.2.1 37 = .ok (.ireturn, 1) := by decide +kernel
theorem dX10_allows_38 : decode mX10_allows.2.1 38 = .ok (.iinc 3 1, 3) := by decide +kernel
theorem dX10_allows_41 : decode mX10_allows.2.1 41 = .ok (.goto (-39), 3) := by decide +kernel
theorem dX10_allows_44 : decode mX10_allows.2.1 44 = .ok (.iconst 1, 1) := by decide +kernel
theorem dX10_allows_45 : decode mX10_allows.2.1 45 = .ok (.ireturn, 1) := by decide +kernel
theorem dX10_weigh_0 : decode mX10_weigh.2.1 0 = .ok (.iconst 0, 1) := by decide +kernel
theorem dX10_weigh_1 : decode mX10_weigh.2.1 1 = .ok (.istore_n 1, 1) := by decide +kernel
theorem dX10_weigh_2 : decode mX10_weigh.2.1 2 = .ok (.iconst 0, 1) := by decide +kernel
theorem dX10_weigh_3 : decode mX10_weigh.2.1 3 = .ok (.istore_n 2, 1) := by decide +kernel
theorem dX10_weigh_4 : decode mX10_weigh.2.1 4 = .ok (.iload_n 2, 1) := by decide +kernel
theorem dX10_weigh_5 : decode mX10_weigh.2.1 5 = .ok (.bipush 10, 2) := by decide +kernel
theorem dX10_weigh_7 : decode mX10_weigh.2.1 7 = .ok (.if_icmp .ge 72, 3) := by decide +kernel
theorem dX10_weigh_10 : decode mX10_weigh.2.1 10 = .ok (.aload_n 0, 1) := by decide +kernel
theorem dX10_weigh_11 : decode mX10_weigh.2.1 11 = .ok (.iload_n 2, 1) := by decide +kernel
theorem dX10_weigh_12 : decode mX10_weigh.2.1 12 = .ok (.invokevirtual 36, 3) := by decide +kernel
theorem dX10_weigh_15 : decode mX10_weigh.2.1 15 = .ok (.aload_n 0, 1) := by decide +kernel
theorem dX10_weigh_16 : decode mX10_weigh.2.1 16 = .ok (.getfield 22, 3) := by decide +kernel
theorem dX10_weigh_19 : decode mX10_weigh.2.1 19 = .ok (.iload_n 2, 1) := by decide +kernel
theorem dX10_weigh_20 : decode mX10_weigh.2.1 20 = .ok (.iaload, 1) := by decide +kernel
theorem dX10_weigh_21 : decode mX10_weigh.2.1 21 = .ok (.aload_n 0, 1) := by decide +kernel
theorem dX10_weigh_22 : decode mX10_weigh.2.1 22 = .ok (.getfield 40, 3) := by decide +kernel
theorem dX10_weigh_25 : decode mX10_weigh.2.1 25 = .ok (.ior, 1) := by decide +kernel
theorem dX10_weigh_26 : decode mX10_weigh.2.1 26 = .ok (.istore_n 3, 1) := by decide +kernel
theorem dX10_weigh_27 : decode mX10_weigh.2.1 27 = .ok (.aload_n 0, 1) := by decide +kernel
theorem dX10_weigh_28 : decode mX10_weigh.2.1 28 = .ok (.iload_n 2, 1) := by decide +kernel
theorem dX10_weigh_29 : decode mX10_weigh.2.1 29 = .ok (.aload_n 0, 1) := by decide +kernel
theorem dX10_weigh_30 : decode mX10_weigh.2.1 30 = .ok (.getfield 22, 3) := by decide +kernel
theorem dX10_weigh_33 : decode mX10_weigh.2.1 33 = .ok (.iload_n 2, 1) := by decide +kernel
theorem dX10_weigh_34 : decode mX10_weigh.2.1 34 = .ok (.iaload, 1) := by decide +kernel
theorem dX10_weigh_35 : decode mX10_weigh.2.1 35 = .ok (.invokevirtual 43, 3) := by decide +kernel
theorem dX10_weigh_38 : decode mX10_weigh.2.1 38 = .ok (.istore 4, 2) := by decide +kernel
theorem dX10_weigh_40 : decode mX10_weigh.2.1 40 = .ok (.aload_n 0, 1) := by decide +kernel
theorem dX10_weigh_41 : decode mX10_weigh.2.1 41 = .ok (.getfield 25, 3) := by decide +kernel
theorem dX10_weigh_44 : decode mX10_weigh.2.1 44 = .ok (.iload_n 2, 1) := by decide +kernel
theorem dX10_weigh_45 : decode mX10_weigh.2.1 45 = .ok (.iload 4, 2) := by decide +kernel
theorem dX10_weigh_47 : decode mX10_weigh.2.1 47 = .ok (.ifCond .eq 15, 3) := by decide +kernel
theorem dX10_weigh_50 : decode mX10_weigh.2.1 50 = .ok (.iconst 1, 1) := by decide +kernel
theorem dX10_weigh_51 : decode mX10_weigh.2.1 51 = .ok (.bipush 8, 2) := by decide +kernel
theorem dX10_weigh_53 : decode mX10_weigh.2.1 53 = .ok (.iload_n 3, 1) := by decide +kernel
theorem dX10_weigh_54 : decode mX10_weigh.2.1 54 = .ok (.invokestatic 47, 3) := by decide +kernel
theorem dX10_weigh_57 : decode mX10_weigh.2.1 57 = .ok (.isub, 1) := by decide +kernel
theorem dX10_weigh_58 : decode mX10_weigh.2.1 58 = .ok (.ishl, 1) := by decide +kernel
theorem dX10_weigh_59 : decode mX10_weigh.2.1 59 = .ok (.goto 4, 3) := by decide +kernel
theorem dX10_weigh_62 : decode mX10_weigh.2.1 62 = .ok (.iconst 0, 1) := by decide +kernel
theorem dX10_weigh_63 : decode mX10_weigh.2.1 63 = .ok (.iastore, 1) := by decide +kernel
theorem dX10_weigh_64 : decode mX10_weigh.2.1 64 = .ok (.iload_n 1, 1) := by decide +kernel
theorem dX10_weigh_65 : decode mX10_weigh.2.1 65 = .ok (.aload_n 0, 1) := by decide +kernel
theorem dX10_weigh_66 : decode mX10_weigh.2.1 66 = .ok (.getfield 25, 3) := by decide +kernel
theorem dX10_weigh_69 : decode mX10_weigh.2.1 69 = .ok (.iload_n 2, 1) := by decide +kernel
theorem dX10_weigh_70 : decode mX10_weigh.2.1 70 = .ok (.iaload, 1) := by decide +kernel
theorem dX10_weigh_71 : decode mX10_weigh.2.1 71 = .ok (.iadd, 1) := by decide +kernel
theorem dX10_weigh_72 : decode mX10_weigh.2.1 72 = .ok (.istore_n 1, 1) := by decide +kernel
theorem dX10_weigh_73 : decode mX10_weigh.2.1 73 = .ok (.iinc 2 1, 3) := by decide +kernel
theorem dX10_weigh_76 : decode mX10_weigh.2.1 76 = .ok (.goto (-72), 3) := by decide +kernel
theorem dX10_weigh_79 : decode mX10_weigh.2.1 79 = .ok (.iload_n 1, 1) := by decide +kernel
theorem dX10_weigh_80 : decode mX10_weigh.2.1 80 = .ok (.ireturn, 1) := by decide +kernel
theorem dX10_force_0 : decode mX10_force.2.1 0 = .ok (.aload_n 0, 1) := by decide +kernel
theorem dX10_force_1 : decode mX10_force.2.1 1 = .ok (.iconst 0, 1) := by decide +kernel
theorem dX10_force_2 : decode mX10_force.2.1 2 = .ok (.putfield 40, 3) := by decide +kernel
theorem dX10_force_5 : decode mX10_force.2.1 5 = .ok (.aload_n 0, 1) := by decide +kernel
theorem dX10_force_6 : decode mX10_force.2.1 6 = .ok (.getfield 22, 3) := by decide +kernel
theorem dX10_force_9 : decode mX10_force.2.1 9 = .ok (.iload_n 1, 1) := by decide +kernel
theorem dX10_force_10 : decode mX10_force.2.1 10 = .ok (.iconst 0, 1) := by decide +kernel
theorem dX10_force_11 : decode mX10_force.2.1 11 = .ok (.iastore, 1) := by decide +kernel
theorem dX10_force_12 : decode mX10_force.2.1 12 = .ok (.iconst 0, 1) := by decide +kernel
theorem dX10_force_13 : decode mX10_force.2.1 13 = .ok (.istore_n 2, 1) := by decide +kernel
theorem dX10_force_14 : decode mX10_force.2.1 14 = .ok (.iload_n 2, 1) := by decide +kernel
theorem dX10_force_15 : decode mX10_force.2.1 15 = .ok (.aload_n 0, 1) := by decide +kernel
theorem dX10_force_16 : decode mX10_force.2.1 16 = .ok (.getfield 28, 3) := by decide +kernel
theorem dX10_force_19 : decode mX10_force.2.1 19 = .ok (.if_icmp .ge 65, 3) := by decide +kernel
theorem dX10_force_22 : decode mX10_force.2.1 22 = .ok (.aload_n 0, 1) := by decide +kernel
theorem dX10_force_23 : decode mX10_force.2.1 23 = .ok (.getfield 18, 3) := by decide +kernel
theorem dX10_force_26 : decode mX10_force.2.1 26 = .ok (.iload_n 2, 1) := by decide +kernel
theorem dX10_force_27 : decode mX10_force.2.1 27 = .ok (.baload, 1) := by decide +kernel
theorem dX10_force_28 : decode mX10_force.2.1 28 = .ok (.ifCond .eq 23, 3) := by decide +kernel
theorem dX10_force_31 : decode mX10_force.2.1 31 = .ok (.aload_n 0, 1) := by decide +kernel
theorem dX10_force_32 : decode mX10_force.2.1 32 = .ok (.dup, 1) := by decide +kernel
theorem dX10_force_33 : decode mX10_force.2.1 33 = .ok (.getfield 40, 3) := by decide +kernel
theorem dX10_force_36 : decode mX10_force.2.1 36 = .ok (.iconst 1, 1) := by decide +kernel
theorem dX10_force_37 : decode mX10_force.2.1 37 = .ok (.aload_n 0, 1) := by decide +kernel
theorem dX10_force_38 : decode mX10_force.2.1 38 = .ok (.getfield 9, 3) := by decide +kernel
theorem dX10_force_41 : decode mX10_force.2.1 41 = .ok (.iload_n 2, 1) := by decide +kernel
theorem dX10_force_42 : decode mX10_force.2.1 42 = .ok (.iaload, 1) := by decide +kernel
theorem dX10_force_43 : decode mX10_force.2.1 43 = .ok (.ishl, 1) := by decide +kernel
theorem dX10_force_44 : decode mX10_force.2.1 44 = .ok (.ior, 1) := by decide +kernel
theorem dX10_force_45 : decode mX10_force.2.1 45 = .ok (.putfield 40, 3) := by decide +kernel
theorem dX10_force_48 : decode mX10_force.2.1 48 = .ok (.goto 30, 3) := by decide +kernel
theorem dX10_force_51 : decode mX10_force.2.1 51 = .ok (.aload_n 0, 1) := by decide +kernel
theorem dX10_force_52 : decode mX10_force.2.1 52 = .ok (.getfield 15, 3) := by decide +kernel
theorem dX10_force_55 : decode mX10_force.2.1 55 = .ok (.iload_n 2, 1) := by decide +kernel
theorem dX10_force_56 : decode mX10_force.2.1 56 = .ok (.iaload, 1) := by decide +kernel
theorem dX10_force_57 : decode mX10_force.2.1 57 = .ok (.iload_n 1, 1) := by decide +kernel
theorem dX10_force_58 : decode mX10_force.2.1 58 = .ok (.if_icmp .gt 20, 3) := by decide +kernel
theorem dX10_force_61 : decode mX10_force.2.1 61 = .ok (.aload_n 0, 1) := by decide +kernel
theorem dX10_force_62 : decode mX10_force.2.1 62 = .ok (.getfield 22, 3) := by decide +kernel
theorem dX10_force_65 : decode mX10_force.2.1 65 = .ok (.iload_n 1, 1) := by decide +kernel
theorem dX10_force_66 : decode mX10_force.2.1 66 = .ok (.dup2, 1) := by decide +kernel
theorem dX10_force_67 : decode mX10_force.2.1 67 = .ok (.iaload, 1) := by decide +kernel
theorem dX10_force_68 : decode mX10_force.2.1 68 = .ok (.iconst 1, 1) := by decide +kernel
theorem dX10_force_69 : decode mX10_force.2.1 69 = .ok (.aload_n 0, 1) := by decide +kernel
theorem dX10_force_70 : decode mX10_force.2.1 70 = .ok (.getfield 9, 3) := by decide +kernel
theorem dX10_force_73 : decode mX10_force.2.1 73 = .ok (.iload_n 2, 1) := by decide +kernel
theorem dX10_force_74 : decode mX10_force.2.1 74 = .ok (.iaload, 1) := by decide +kernel
theorem dX10_force_75 : decode mX10_force.2.1 75 = .ok (.ishl, 1) := by decide +kernel
theorem dX10_force_76 : decode mX10_force.2.1 76 = .ok (.ior, 1) := by decide +kernel
theorem dX10_force_77 : decode mX10_force.2.1 77 = .ok (.iastore, 1) := by decide +kernel
theorem dX10_force_78 : decode mX10_force.2.1 78 = .ok (.iinc 2 1, 3) := by decide +kernel
theorem dX10_force_81 : decode mX10_force.2.1 81 = .ok (.goto (-67), 3) := by decide +kernel
theorem dX10_force_84 : decode mX10_force.2.1 84 = .ok (.return_, 1) := by decide +kernel
theorem dX10_hiddenAt_0 : decode mX10_hiddenAt.2.1 0 = .ok (.iload_n 1, 1) := by decide +kernel
theorem dX10_hiddenAt_1 : decode mX10_hiddenAt.2.1 1 = .ok (.ifCond .lt 18, 3) := by decide +kernel
theorem dX10_hiddenAt_4 : decode mX10_hiddenAt.2.1 4 = .ok (.iload_n 1, 1) := by decide +kernel
theorem dX10_hiddenAt_5 : decode mX10_hiddenAt.2.1 5 = .ok (.bipush 10, 2) := by decide +kernel
theorem dX10_hiddenAt_7 : decode mX10_hiddenAt.2.1 7 = .ok (.if_icmp .ge 12, 3) := by decide +kernel
theorem dX10_hiddenAt_10 : decode mX10_hiddenAt.2.1 10 = .ok (.aload_n 0, 1) := by decide +kernel
theorem dX10_hiddenAt_11 : decode mX10_hiddenAt.2.1 11 = .ok (.getfield 22, 3) := by decide +kernel
theorem dX10_hiddenAt_14 : decode mX10_hiddenAt.2.1 14 = .ok (.iload_n 1, 1) := by decide +kernel
theorem dX10_hiddenAt_15 : decode mX10_hiddenAt.2.1 15 = .ok (.iaload, 1) := by decide +kernel
theorem dX10_hiddenAt_16 : decode mX10_hiddenAt.2.1 16 = .ok (.goto 4, 3) := by decide +kernel
theorem dX10_hiddenAt_19 : decode mX10_hiddenAt.2.1 19 = .ok (.iconst 0, 1) := by decide +kernel
theorem dX10_hiddenAt_20 : decode mX10_hiddenAt.2.1 20 = .ok (.ireturn, 1) := by decide +kernel
theorem dX10_mildestLimit_0 : decode mX10_mildestLimit.2.1 0 = .ok (.iconst (-1), 1) := by decide +kernel
theorem dX10_mildestLimit_1 : decode mX10_mildestLimit.2.1 1 = .ok (.istore_n 1, 1) := by decide +kernel
theorem dX10_mildestLimit_2 : decode mX10_mildestLimit.2.1 2 = .ok (.bipush 8, 2) := by decide +kernel
theorem dX10_mildestLimit_4 : decode mX10_mildestLimit.2.1 4 = .ok (.istore_n 2, 1) := by decide +kernel
theorem dX10_mildestLimit_5 : decode mX10_mildestLimit.2.1 5 = .ok (.iconst 0, 1) := by decide +kernel
theorem dX10_mildestLimit_6 : decode mX10_mildestLimit.2.1 6 = .ok (.istore_n 3, 1) := by decide +kernel
theorem dX10_mildestLimit_7 : decode mX10_mildestLimit.2.1 7 = .ok (.iload_n 3, 1) := by decide +kernel
theorem dX10_mildestLimit_8 : decode mX10_mildestLimit.2.1 8 = .ok (.bipush 10, 2) := by decide +kernel
theorem dX10_mildestLimit_10 : decode mX10_mildestLimit.2.1 10 = .ok (.if_icmp .ge 40, 3) := by decide +kernel
theorem dX10_mildestLimit_13 : decode mX10_mildestLimit.2.1 13 = .ok (.aload_n 0, 1) := by decide +kernel
theorem dX10_mildestLimit_14 : decode mX10_mildestLimit.2.1 14 = .ok (.getfield 22, 3) := by decide +kernel
theorem dX10_mildestLimit_17 : decode mX10_mildestLimit.2.1 17 = .ok (.iload_n 3, 1) := by decide +kernel
theorem dX10_mildestLimit_18 : decode mX10_mildestLimit.2.1 18 = .ok (.iaload, 1) := by decide +kernel
theorem dX10_mildestLimit_19 : decode mX10_mildestLimit.2.1 19 = .ok (.invokestatic 47, 3) := by decide +kernel
theorem dX10_mildestLimit_22 : decode mX10_mildestLimit.2.1 22 = .ok (.istore 4, 2) := by decide +kernel
theorem dX10_mildestLimit_24 : decode mX10_mildestLimit.2.1 24 = .ok (.aload_n 0, 1) := by decide +kernel
theorem dX10_mildestLimit_25 : decode mX10_mildestLimit.2.1 25 = .ok (.getfield 25, 3) := by decide +kernel
theorem dX10_mildestLimit_28 : decode mX10_mildestLimit.2.1 28 = .ok (.iload_n 3, 1) := by decide +kernel
theorem dX10_mildestLimit_29 : decode mX10_mildestLimit.2.1 29 = .ok (.iaload, 1) := by decide +kernel
theorem dX10_mildestLimit_30 : decode mX10_mildestLimit.2.1 30 = .ok (.ifCond .le 14, 3) := by decide +kernel
theorem dX10_mildestLimit_33 : decode mX10_mildestLimit.2.1 33 = .ok (.iload 4, 2) := by decide +kernel
theorem dX10_mildestLimit_35 : decode mX10_mildestLimit.2.1 35 = .ok (.iload_n 2, 1) := by decide +kernel
theorem dX10_mildestLimit_36 : decode mX10_mildestLimit.2.1 36 = .ok (.if_icmp .gt 8, 3) := by decide +kernel
theorem dX10_mildestLimit_39 : decode mX10_mildestLimit.2.1 39 = .ok (.iload_n 3, 1) := by decide +kernel
theorem dX10_mildestLimit_40 : decode mX10_mildestLimit.2.1 40 = .ok (.istore_n 1, 1) := by decide +kernel
theorem dX10_mildestLimit_41 : decode mX10_mildestLimit.2.1 41 = .ok (.iload 4, 2) := by decide +kernel
theorem dX10_mildestLimit_43 : decode mX10_mildestLimit.2.1 43 = .ok (.istore_n 2, 1) := by decide +kernel
theorem dX10_mildestLimit_44 : decode mX10_mildestLimit.2.1 44 = .ok (.iinc 3 1, 3) := by decide +kernel
theorem dX10_mildestLimit_47 : decode mX10_mildestLimit.2.1 47 = .ok (.goto (-40), 3) := by decide +kernel
theorem dX10_mildestLimit_50 : decode mX10_mildestLimit.2.1 50 = .ok (.iload_n 1, 1) := by decide +kernel
theorem dX10_mildestLimit_51 : decode mX10_mildestLimit.2.1 51 = .ok (.ireturn, 1) := by decide +kernel
theorem dX10_fittingIfSeen_0 : decode mX10_fittingIfSeen.2.1 0 = .ok (.iconst 0, 1) := by decide +kernel
theorem dX10_fittingIfSeen_1 : decode mX10_fittingIfSeen.2.1 1 = .ok (.istore_n 3, 1) := by decide +kernel
theorem dX10_fittingIfSeen_2 : decode mX10_fittingIfSeen.2.1 2 = .ok (.iconst 0, 1) := by decide +kernel
theorem dX10_fittingIfSeen_3 : decode mX10_fittingIfSeen.2.1 3 = .ok (.iload_n 2, 1) := by decide +kernel
theorem dX10_fittingIfSeen_4 : decode mX10_fittingIfSeen.2.1 4 = .ok (.invokestatic 53, 3) := by decide +kernel
theorem dX10_fittingIfSeen_7 : decode mX10_fittingIfSeen.2.1 7 = .ok (.istore 4, 2) := by decide +kernel
theorem dX10_fittingIfSeen_9 : decode mX10_fittingIfSeen.2.1 9 = .ok (.iload 4, 2) := by decide +kernel
theorem dX10_fittingIfSeen_11 : decode mX10_fittingIfSeen.2.1 11 = .ok (.bipush 10, 2) := by decide +kernel
theorem dX10_fittingIfSeen_13 : decode mX10_fittingIfSeen.2.1 13 = .ok (.if_icmp .ge 59, 3) := by decide +kernel
theorem dX10_fittingIfSeen_16 : decode mX10_fittingIfSeen.2.1 16 = .ok (.aload_n 0, 1) := by decide +kernel
theorem dX10_fittingIfSeen_17 : decode mX10_fittingIfSeen.2.1 17 = .ok (.getfield 40, 3) := by decide +kernel
theorem dX10_fittingIfSeen_20 : decode mX10_fittingIfSeen.2.1 20 = .ok (.iload_n 1, 1) := by decide +kernel
theorem dX10_fittingIfSeen_21 : decode mX10_fittingIfSeen.2.1 21 = .ok (.invokestatic 59, 3) := by decide +kernel
theorem dX10_fittingIfSeen_24 : decode mX10_fittingIfSeen.2.1 24 = .ok (.ifCond .eq 16, 3) := by decide +kernel
theorem dX10_fittingIfSeen_27 : decode mX10_fittingIfSeen.2.1 27 = .ok (.iload_n 3, 1) := by decide +kernel
theorem dX10_fittingIfSeen_28 : decode mX10_fittingIfSeen.2.1 28 = .ok (.aload_n 0, 1) := by decide +kernel
theorem dX10_fittingIfSeen_29 : decode mX10_fittingIfSeen.2.1 29 = .ok (.getfield 25, 3) := by decide +kernel
theorem dX10_fittingIfSeen_32 : decode mX10_fittingIfSeen.2.1 32 = .ok (.iload 4, 2) := by decide +kernel
theorem dX10_fittingIfSeen_34 : decode mX10_fittingIfSeen.2.1 34 = .ok (.iaload, 1) := by decide +kernel
theorem dX10_fittingIfSeen_35 : decode mX10_fittingIfSeen.2.1 35 = .ok (.iadd, 1) := by decide +kernel
theorem dX10_fittingIfSeen_36 : decode mX10_fittingIfSeen.2.1 36 = .ok (.istore_n 3, 1) := by decide +kernel
theorem dX10_fittingIfSeen_37 : decode mX10_fittingIfSeen.2.1 37 = .ok (.goto 29, 3) := by decide +kernel
theorem dX10_fittingIfSeen_40 : decode mX10_fittingIfSeen.2.1 40 = .ok (.aload_n 0, 1) := by decide +kernel
theorem dX10_fittingIfSeen_41 : decode mX10_fittingIfSeen.2.1 41 = .ok (.getfield 22, 3) := by decide +kernel
theorem dX10_fittingIfSeen_44 : decode mX10_fittingIfSeen.2.1 44 = .ok (.iload 4, 2) := by decide +kernel
theorem dX10_fittingIfSeen_46 : decode mX10_fittingIfSeen.2.1 46 = .ok (.iaload, 1) := by decide +kernel
theorem dX10_fittingIfSeen_47 : decode mX10_fittingIfSeen.2.1 47 = .ok (.iload_n 1, 1) := by decide +kernel
theorem dX10_fittingIfSeen_48 : decode mX10_fittingIfSeen.2.1 48 = .ok (.invokestatic 59, 3) := by decide +kernel
theorem dX10_fittingIfSeen_51 : decode mX10_fittingIfSeen.2.1 51 = .ok (.ifCond .ne 15, 3) := by decide +kernel
theorem dX10_fittingIfSeen_54 : decode mX10_fittingIfSeen.2.1 54 = .ok (.iload_n 3, 1) := by decide +kernel
theorem dX10_fittingIfSeen_55 : decode mX10_fittingIfSeen.2.1 55 = .ok (.aload_n 0, 1) := by decide +kernel
theorem dX10_fittingIfSeen_56 : decode mX10_fittingIfSeen.2.1 56 = .ok (.getfield 25, 3) := by decide +kernel
theorem dX10_fittingIfSeen_59 : decode mX10_fittingIfSeen.2.1 59 = .ok (.iload 4, 2) := by decide +kernel
theorem dX10_fittingIfSeen_61 : decode mX10_fittingIfSeen.2.1 61 = .ok (.iaload, 1) := by decide +kernel
theorem dX10_fittingIfSeen_62 : decode mX10_fittingIfSeen.2.1 62 = .ok (.iconst 2, 1) := by decide +kernel
theorem dX10_fittingIfSeen_63 : decode mX10_fittingIfSeen.2.1 63 = .ok (.idiv, 1) := by decide +kernel
theorem dX10_fittingIfSeen_64 : decode mX10_fittingIfSeen.2.1 64 = .ok (.iadd, 1) := by decide +kernel
theorem dX10_fittingIfSeen_65 : decode mX10_fittingIfSeen.2.1 65 = .ok (.istore_n 3, 1) := by decide +kernel
theorem dX10_fittingIfSeen_66 : decode mX10_fittingIfSeen.2.1 66 = .ok (.iinc 4 1, 3) := by decide +kernel
theorem dX10_fittingIfSeen_69 : decode mX10_fittingIfSeen.2.1 69 = .ok (.goto (-60), 3) := by decide +kernel
theorem dX10_fittingIfSeen_72 : decode mX10_fittingIfSeen.2.1 72 = .ok (.iload_n 3, 1) := by decide +kernel
theorem dX10_fittingIfSeen_73 : decode mX10_fittingIfSeen.2.1 73 = .ok (.ireturn, 1) := by decide +kernel
theorem dX11_init_0 : decode mX11_init.2.1 0 = .ok (.aload_n 0, 1) := by decide +kernel
theorem dX11_init_1 : decode mX11_init.2.1 1 = .ok (.invokespecial 1, 3) := by decide +kernel
theorem dX11_init_4 : decode mX11_init.2.1 4 = .ok (.aload_n 0, 1) := by decide +kernel
theorem dX11_init_5 : decode mX11_init.2.1 5 = .ok (.new 7, 3) := by decide +kernel
theorem dX11_init_8 : decode mX11_init.2.1 8 = .ok (.dup, 1) := by decide +kernel
theorem dX11_init_9 : decode mX11_init.2.1 9 = .ok (.invokespecial 9, 3) := by decide +kernel
theorem dX11_init_12 : decode mX11_init.2.1 12 = .ok (.putfield 10, 3) := by decide +kernel
theorem dX11_init_15 : decode mX11_init.2.1 15 = .ok (.aload_n 0, 1) := by decide +kernel
theorem dX11_init_16 : decode mX11_init.2.1 16 = .ok (.new 16, 3) := by decide +kernel
theorem dX11_init_19 : decode mX11_init.2.1 19 = .ok (.dup, 1) := by decide +kernel
theorem dX11_init_20 : decode mX11_init.2.1 20 = .ok (.aload_n 0, 1) := by decide +kernel
theorem dX11_init_21 : decode mX11_init.2.1 21 = .ok (.getfield 10, 3) := by decide +kernel
theorem dX11_init_24 : decode mX11_init.2.1 24 = .ok (.invokespecial 18, 3) := by decide +kernel
theorem dX11_init_27 : decode mX11_init.2.1 27 = .ok (.putfield 21, 3) := by decide +kernel
theorem dX11_init_30 : decode mX11_init.2.1 30 = .ok (.aload_n 0, 1) := by decide +kernel
theorem dX11_init_31 : decode mX11_init.2.1 31 = .ok (.new 25, 3) := by decide +kernel
theorem dX11_init_34 : decode mX11_init.2.1 34 = .ok (.dup, 1) := by decide +kernel
theorem dX11_init_35 : decode mX11_init.2.1 35 = .ok (.invokespecial 27, 3) := by decide +kernel
theorem dX11_init_38 : decode mX11_init.2.1 38 = .ok (.putfield 28, 3) := by decide +kernel
theorem dX11_init_41 : decode mX11_init.2.1 41 = .ok (.aload_n 0, 1) := by decide +kernel
theorem dX11_init_42 : decode mX11_init.2.1 42 = .ok (.new 32, 3) := by decide +kernel
theorem dX11_init_45 : decode mX11_init.2.1 45 = .ok (.dup, 1) := by decide +kernel
theorem dX11_init_46 : decode mX11_init.2.1 46 = .ok (.invokespecial 34, 3) := by decide +kernel
theorem dX11_init_49 : decode mX11_init.2.1 49 = .ok (.putfield 35, 3) := by decide +kernel
theorem dX11_init_52 : decode mX11_init.2.1 52 = .ok (.aload_n 0, 1) := by decide +kernel
theorem dX11_init_53 : decode mX11_init.2.1 53 = .ok (.new 32, 3) := by decide +kernel
theorem dX11_init_56 : decode mX11_init.2.1 56 = .ok (.dup, 1) := by decide +kernel
theorem dX11_init_57 : decode mX11_init.2.1 57 = .ok (.invokespecial 34, 3) := by decide +kernel
theorem dX11_init_60 : decode mX11_init.2.1 60 = .ok (.putfield 39, 3) := by decide +kernel
theorem dX11_init_63 : decode mX11_init.2.1 63 = .ok (.aload_n 0, 1) := by decide +kernel
theorem dX11_init_64 : decode mX11_init.2.1 64 = .ok (.new 32, 3) := by decide +kernel
theorem dX11_init_67 : decode mX11_init.2.1 67 = .ok (.dup, 1) := by decide +kernel
theorem dX11_init_68 : decode mX11_init.2.1 68 = .ok (.invokespecial 34, 3) := by decide +kernel
theorem dX11_init_71 : decode mX11_init.2.1 71 = .ok (.putfield 42, 3) := by decide +kernel
theorem dX11_init_74 : decode mX11_init.2.1 74 = .ok (.aload_n 0, 1) := by decide +kernel
theorem dX11_init_75 : decode mX11_init.2.1 75 = .ok (.new 45, 3) := by decide +kernel
theorem dX11_init_78 : decode mX11_init.2.1 78 = .ok (.dup, 1) := by decide +kernel
theorem dX11_init_79 : decode mX11_init.2.1 79 = .ok (.invokespecial 47, 3) := by decide +kernel
theorem dX11_init_82 : decode mX11_init.2.1 82 = .ok (.putfield 48, 3) := by decide +kernel
theorem dX11_init_85 : decode mX11_init.2.1 85 = .ok (.aload_n 0, 1) := by decide +kernel
theorem dX11_init_86 : decode mX11_init.2.1 86 = .ok (.new 52, 3) := by decide +kernel
theorem dX11_init_89 : decode mX11_init.2.1 89 = .ok (.dup, 1) := by decide +kernel
theorem dX11_init_90 : decode mX11_init.2.1 90 = .ok (.invokespecial 54, 3) := by decide +kernel
theorem dX11_init_93 : decode mX11_init.2.1 93 = .ok (.putfield 55, 3) := by decide +kernel
theorem dX11_init_96 : decode mX11_init.2.1 96 = .ok (.aload_n 0, 1) := by decide +kernel
theorem dX11_init_97 : decode mX11_init.2.1 97 = .ok (.new 59, 3) := by decide +kernel
theorem dX11_init_100 : decode mX11_init.2.1 100 = .ok (.dup, 1) := by decide +kernel
theorem dX11_init_101 : decode mX11_init.2.1 101 = .ok (.invokespecial 61, 3) := by decide +kernel
theorem dX11_init_104 : decode mX11_init.2.1 104 = .ok (.putfield 62, 3) := by decide +kernel
theorem dX11_init_107 : decode mX11_init.2.1 107 = .ok (.aload_n 0, 1) := by decide +kernel
theorem dX11_init_108 : decode mX11_init.2.1 108 = .ok (.new 66, 3) := by decide +kernel
theorem dX11_init_111 : decode mX11_init.2.1 111 = .ok (.dup, 1) := by decide +kernel
theorem dX11_init_112 : decode mX11_init.2.1 112 = .ok (.aload_n 0, 1) := by decide +kernel
theorem dX11_init_113 : decode mX11_init.2.1 113 = .ok (.getfield 28, 3) := by decide +kernel
theorem dX11_init_116 : decode mX11_init.2.1 116 = .ok (.invokespecial 68, 3) := by decide +kernel
theorem dX11_init_119 : decode mX11_init.2.1 119 = .ok (.putfield 71, 3) := by decide +kernel
theorem dX11_init_122 : decode mX11_init.2.1 122 = .ok (.aload_n 0, 1) := by decide +kernel
theorem dX11_init_123 : decode mX11_init.2.1 123 = .ok (.new 75, 3) := by decide +kernel
theorem dX11_init_126 : decode mX11_init.2.1 126 = .ok (.dup, 1) := by decide +kernel
theorem dX11_init_127 : decode mX11_init.2.1 127 = .ok (.invokespecial 77, 3) := by decide +kernel
theorem dX11_init_130 : decode mX11_init.2.1 130 = .ok (.putfield 78, 3) := by decide +kernel
theorem dX11_init_133 : decode mX11_init.2.1 133 = .ok (.aload_n 0, 1) := by decide +kernel
theorem dX11_init_134 : decode mX11_init.2.1 134 = .ok (.new 82, 3) := by decide +kernel
theorem dX11_init_137 : decode mX11_init.2.1 137 = .ok (.dup, 1) := by decide +kernel
theorem dX11_init_138 : decode mX11_init.2.1 138 = .ok (.invokespecial 84, 3) := by decide +kernel
theorem dX11_init_141 : decode mX11_init.2.1 141 = .ok (.putfield 85, 3) := by decide +kernel
theorem dX11_init_144 : decode mX11_init.2.1 144 = .ok (.aload_n 0, 1) := by decide +kernel
theorem dX11_init_145 : decode mX11_init.2.1 145 = .ok (.new 89, 3) := by decide +kernel
theorem dX11_init_148 : decode mX11_init.2.1 148 = .ok (.dup, 1) := by decide +kernel
theorem dX11_init_149 : decode mX11_init.2.1 149 = .ok (.invokespecial 91, 3) := by decide +kernel
theorem dX11_init_152 : decode mX11_init.2.1 152 = .ok (.putfield 92, 3) := by decide +kernel
theorem dX11_init_155 : decode mX11_init.2.1 155 = .ok (.return_, 1) := by decide +kernel
theorem dX11_sign_0 : decode mX11_sign.2.1 0 = .ok (.aload_n 0, 1) := by decide +kernel
theorem dX11_sign_1 : decode mX11_sign.2.1 1 = .ok (.getfield 10, 3) := by decide +kernel
theorem dX11_sign_4 : decode mX11_sign.2.1 4 = .ok (.iload_n 1, 1) := by decide +kernel
theorem dX11_sign_5 : decode mX11_sign.2.1 5 = .ok (.invokevirtual 96, 3) := by decide +kernel
theorem dX11_sign_8 : decode mX11_sign.2.1 8 = .ok (.ireturn, 1) := by decide +kernel
theorem dX11_end_0 : decode mX11_end.2.1 0 = .ok (.aload_n 0, 1) := by decide +kernel
theorem dX11_end_1 : decode mX11_end.2.1 1 = .ok (.getfield 10, 3) := by decide +kernel
theorem dX11_end_4 : decode mX11_end.2.1 4 = .ok (.iload_n 1, 1) := by decide +kernel
theorem dX11_end_5 : decode mX11_end.2.1 5 = .ok (.invokevirtual 100, 3) := by decide +kernel
theorem dX11_end_8 : decode mX11_end.2.1 8 = .ok (.ireturn, 1) := by decide +kernel
theorem dX11_square_0 : decode mX11_square.2.1 0 = .ok (.aload_n 0, 1) := by decide +kernel
theorem dX11_square_1 : decode mX11_square.2.1 1 = .ok (.getfield 21, 3) := by decide +kernel
theorem dX11_square_4 : decode mX11_square.2.1 4 = .ok (.iconst 2, 1) := by decide +kernel
theorem dX11_square_5 : decode mX11_square.2.1 5 = .ok (.invokevirtual 104, 3) := by decide +kernel
theorem dX11_square_8 : decode mX11_square.2.1 8 = .ok (.iconst 1, 1) := by decide +kernel
theorem dX11_square_9 : decode mX11_square.2.1 9 = .ok (.aload_n 0, 1) := by decide +kernel
theorem dX11_square_10 : decode mX11_square.2.1 10 = .ok (.getfield 21, 3) := by decide +kernel
theorem dX11_square_13 : decode mX11_square.2.1 13 = .ok (.bipush 49, 2) := by decide +kernel
theorem dX11_square_15 : decode mX11_square.2.1 15 = .ok (.bipush 6, 2) := by decide +kernel
theorem dX11_square_17 : decode mX11_square.2.1 17 = .ok (.invokevirtual 108, 3) := by decide +kernel
theorem dX11_square_20 : decode mX11_square.2.1 20 = .ok (.iadd, 1) := by decide +kernel
theorem dX11_square_21 : decode mX11_square.2.1 21 = .ok (.istore_n 1, 1) := by decide +kernel
theorem dX11_square_22 : decode mX11_square.2.1 22 = .ok (.iconst 1, 1) := by decide +kernel
theorem dX11_square_23 : decode mX11_square.2.1 23 = .ok (.aload_n 0, 1) := by decide +kernel
theorem dX11_square_24 : decode mX11_square.2.1 24 = .ok (.getfield 21, 3) := by decide +kernel
theorem dX11_square_27 : decode mX11_square.2.1 27 = .ok (.bipush 49, 2) := by decide +kernel
theorem dX11_square_29 : decode mX11_square.2.1 29 = .ok (.bipush 6, 2) := by decide +kernel
theorem dX11_square_31 : decode mX11_square.2.1 31 = .ok (.invokevirtual 108, 3) := by decide +kernel
theorem dX11_square_34 : decode mX11_square.2.1 34 = .ok (.iadd, 1) := by decide +kernel
theorem dX11_square_35 : decode mX11_square.2.1 35 = .ok (.istore_n 2, 1) := by decide +kernel
theorem dX11_square_36 : decode mX11_square.2.1 36 = .ok (.aload_n 0, 1) := by decide +kernel
theorem dX11_square_37 : decode mX11_square.2.1 37 = .ok (.getfield 21, 3) := by decide +kernel
theorem dX11_square_40 : decode mX11_square.2.1 40 = .ok (.iload_n 1, 1) := by decide +kernel
theorem dX11_square_41 : decode mX11_square.2.1 41 = .ok (.iload_n 2, 1) := by decide +kernel
theorem dX11_square_42 : decode mX11_square.2.1 42 = .ok (.imul, 1) := by decide +kernel
theorem dX11_square_43 : decode mX11_square.2.1 43 = .ok (.invokevirtual 112, 3) := by decide +kernel
theorem dX11_square_46 : decode mX11_square.2.1 46 = .ok (.istore_n 3, 1) := by decide +kernel
theorem dX11_square_47 : decode mX11_square.2.1 47 = .ok (.aload_n 0, 1) := by decide +kernel
theorem dX11_square_48 : decode mX11_square.2.1 48 = .ok (.getfield 10, 3) := by decide +kernel
theorem dX11_square_51 : decode mX11_square.2.1 51 = .ok (.invokevirtual 115, 3) := by decide +kernel
theorem dX11_square_54 : decode mX11_square.2.1 54 = .ok (.iload_n 3, 1) := by decide +kernel
theorem dX11_square_55 : decode mX11_square.2.1 55 = .ok (.ifCond .le 34, 3) := by decide +kernel
theorem dX11_square_58 : decode mX11_square.2.1 58 = .ok (.aload_n 0, 1) := by decide +kernel
theorem dX11_square_59 : decode mX11_square.2.1 59 = .ok (.getfield 28, 3) := by decide +kernel
theorem dX11_square_62 : decode mX11_square.2.1 62 = .ok (.iload_n 1, 1) := by decide +kernel
theorem dX11_square_63 : decode mX11_square.2.1 63 = .ok (.iload_n 2, 1) := by decide +kernel
theorem dX11_square_64 : decode mX11_square.2.1 64 = .ok (.invokevirtual 118, 3) := by decide +kernel
theorem dX11_square_67 : decode mX11_square.2.1 67 = .ok (.aload_n 0, 1) := by decide +kernel
theorem dX11_square_68 : decode mX11_square.2.1 68 = .ok (.getfield 35, 3) := by decide +kernel
theorem dX11_square_71 : decode mX11_square.2.1 71 = .ok (.invokevirtual 122, 3) := by decide +kernel
theorem dX11_square_74 : decode mX11_square.2.1 74 = .ok (.aload_n 0, 1) := by decide +kernel
theorem dX11_square_75 : decode mX11_square.2.1 75 = .ok (.getfield 48, 3) := by decide +kernel
theorem dX11_square_78 : decode mX11_square.2.1 78 = .ok (.invokevirtual 123, 3) := by decide +kernel
theorem dX11_square_81 : decode mX11_square.2.1 81 = .ok (.aload_n 0, 1) := by decide +kernel
theorem dX11_square_82 : decode mX11_square.2.1 82 = .ok (.getfield 78, 3) := by decide +kernel
theorem dX11_square_85 : decode mX11_square.2.1 85 = .ok (.invokevirtual 126, 3) := by decide +kernel
theorem dX11_square_88 : decode mX11_square.2.1 88 = .ok (.pop, 1) := by decide +kernel
theorem dX11_square_89 : decode mX11_square.2.1 89 = .ok (.iload_n 3, 1) := by decide +kernel
theorem dX11_square_90 : decode mX11_square.2.1 90 = .ok (.ireturn, 1) := by decide +kernel
theorem dX11_things_0 : decode mX11_things.2.1 0 = .ok (.aload_n 0, 1) := by decide +kernel
theorem dX11_things_1 : decode mX11_things.2.1 1 = .ok (.getfield 10, 3) := by decide +kernel
theorem dX11_things_4 : decode mX11_things.2.1 4 = .ok (.invokevirtual 129, 3) := by decide +kernel
theorem dX11_things_7 : decode mX11_things.2.1 7 = .ok (.ifCond .eq 5, 3) := by decide +kernel
theorem dX11_things_10 : decode mX11_things.2.1 10 = .ok (.iconst 0, 1) := by decide +kernel
theorem dX11_things_11 : decode mX11_things.2.1 11 = .ok (.ireturn, 1) := by decide +kernel
theorem dX11_things_12 : decode mX11_things.2.1 12 = .ok (.aload_n 0, 1) := by decide +kernel
theorem dX11_things_13 : decode mX11_things.2.1 13 = .ok (.getfield 21, 3) := by decide +kernel
theorem dX11_things_16 : decode mX11_things.2.1 16 = .ok (.bipush 47, 2) := by decide +kernel
theorem dX11_things_18 : decode mX11_things.2.1 18 = .ok (.invokevirtual 104, 3) := by decide +kernel
theorem dX11_things_21 : decode mX11_things.2.1 21 = .ok (.aload_n 0, 1) := by decide +kernel
theorem dX11_things_22 : decode mX11_things.2.1 22 = .ok (.aload_n 0, 1) := by decide +kernel
theorem dX11_things_23 : decode mX11_things.2.1 23 = .ok (.getfield 28, 3) := by decide +kernel
theorem dX11_things_26 : decode mX11_things.2.1 26 = .ok (.aload_n 0, 1) := by decide +kernel
theorem dX11_things_27 : decode mX11_things.2.1 27 = .ok (.getfield 21, 3) := by decide +kernel
theorem dX11_things_30 : decode mX11_things.2.1 30 = .ok (.aload_n 0, 1) := by decide +kernel
theorem dX11_things_31 : decode mX11_things.2.1 31 = .ok (.getfield 35, 3) := by decide +kernel
theorem dX11_things_34 : decode mX11_things.2.1 34 = .ok (.invokevirtual 133, 3) := by decide +kernel
theorem dX11_things_37 : decode mX11_things.2.1 37 = .ok (.invokevirtual 137, 3) := by decide +kernel
theorem dX11_things_40 : decode mX11_things.2.1 40 = .ok (.ireturn, 1) := by decide +kernel
theorem dX11_panes_0 : decode mX11_panes.2.1 0 = .ok (.aload_n 0, 1) := by decide +kernel
theorem dX11_panes_1 : decode mX11_panes.2.1 1 = .ok (.getfield 10, 3) := by decide +kernel
theorem dX11_panes_4 : decode mX11_panes.2.1 4 = .ok (.invokevirtual 129, 3) := by decide +kernel
theorem dX11_panes_7 : decode mX11_panes.2.1 7 = .ok (.ifCond .eq 5, 3) := by decide +kernel
theorem dX11_panes_10 : decode mX11_panes.2.1 10 = .ok (.iconst 0, 1) := by decide +kernel
theorem dX11_panes_11 : decode mX11_panes.2.1 11 = .ok (.ireturn, 1) := by decide +kernel
theorem dX11_panes_12 : decode mX11_panes.2.1 12 = .ok (.aload_n 0, 1) := by decide +kernel
theorem dX11_panes_13 : decode mX11_panes.2.1 13 = .ok (.getfield 21, 3) := by decide +kernel
theorem dX11_panes_16 : decode mX11_panes.2.1 16 = .ok (.bipush 79, 2) := by decide +kernel
theorem dX11_panes_18 : decode mX11_panes.2.1 18 = .ok (.invokevirtual 104, 3) := by decide +kernel
theorem dX11_panes_21 : decode mX11_panes.2.1 21 = .ok (.aload_n 0, 1) := by decide +kernel
theorem dX11_panes_22 : decode mX11_panes.2.1 22 = .ok (.aload_n 0, 1) := by decide +kernel
theorem dX11_panes_23 : decode mX11_panes.2.1 23 = .ok (.getfield 28, 3) := by decide +kernel
theorem dX11_panes_26 : decode mX11_panes.2.1 26 = .ok (.aload_n 0, 1) := by decide +kernel
theorem dX11_panes_27 : decode mX11_panes.2.1 27 = .ok (.getfield 21, 3) := by decide +kernel
theorem dX11_panes_30 : decode mX11_panes.2.1 30 = .ok (.aload_n 0, 1) := by decide +kernel
theorem dX11_panes_31 : decode mX11_panes.2.1 31 = .ok (.getfield 35, 3) := by decide +kernel
theorem dX11_panes_34 : decode mX11_panes.2.1 34 = .ok (.invokevirtual 140, 3) := by decide +kernel
theorem dX11_panes_37 : decode mX11_panes.2.1 37 = .ok (.invokevirtual 137, 3) := by decide +kernel
theorem dX11_panes_40 : decode mX11_panes.2.1 40 = .ok (.ireturn, 1) := by decide +kernel
theorem dX11_rooms_0 : decode mX11_rooms.2.1 0 = .ok (.aload_n 0, 1) := by decide +kernel
theorem dX11_rooms_1 : decode mX11_rooms.2.1 1 = .ok (.getfield 10, 3) := by decide +kernel
theorem dX11_rooms_4 : decode mX11_rooms.2.1 4 = .ok (.invokevirtual 129, 3) := by decide +kernel
theorem dX11_rooms_7 : decode mX11_rooms.2.1 7 = .ok (.ifCond .eq 5, 3) := by decide +kernel
theorem dX11_rooms_10 : decode mX11_rooms.2.1 10 = .ok (.iconst 0, 1) := by decide +kernel
theorem dX11_rooms_11 : decode mX11_rooms.2.1 11 = .ok (.ireturn, 1) := by decide +kernel
theorem dX11_rooms_12 : decode mX11_rooms.2.1 12 = .ok (.aload_n 0, 1) := by decide +kernel
theorem dX11_rooms_13 : decode mX11_rooms.2.1 13 = .ok (.getfield 21, 3) := by decide +kernel
theorem dX11_rooms_16 : decode mX11_rooms.2.1 16 = .ok (.bipush 15, 2) := by decide +kernel
theorem dX11_rooms_18 : decode mX11_rooms.2.1 18 = .ok (.invokevirtual 104, 3) := by decide +kernel
theorem dX11_rooms_21 : decode mX11_rooms.2.1 21 = .ok (.aload_n 0, 1) := by decide +kernel
theorem dX11_rooms_22 : decode mX11_rooms.2.1 22 = .ok (.aload_n 0, 1) := by decide +kernel
theorem dX11_rooms_23 : decode mX11_rooms.2.1 23 = .ok (.getfield 28, 3) := by decide +kernel
theorem dX11_rooms_26 : decode mX11_rooms.2.1 26 = .ok (.aload_n 0, 1) := by decide +kernel
theorem dX11_rooms_27 : decode mX11_rooms.2.1 27 = .ok (.getfield 21, 3) := by decide +kernel
theorem dX11_rooms_30 : decode mX11_rooms.2.1 30 = .ok (.invokevirtual 143, 3) := by decide +kernel
theorem dX11_rooms_33 : decode mX11_rooms.2.1 33 = .ok (.invokevirtual 137, 3) := by decide +kernel
theorem dX11_rooms_36 : decode mX11_rooms.2.1 36 = .ok (.ireturn, 1) := by decide +kernel
theorem dX11_arrived_0 : decode mX11_arrived.2.1 0 = .ok (.aload_n 0, 1) := by decide +kernel
theorem dX11_arrived_1 : decode mX11_arrived.2.1 1 = .ok (.getfield 10, 3) := by decide +kernel
theorem dX11_arrived_4 : decode mX11_arrived.2.1 4 = .ok (.invokevirtual 115, 3) := by decide +kernel
theorem dX11_arrived_7 : decode mX11_arrived.2.1 7 = .ok (.iload_n 1, 1) := by decide +kernel
theorem dX11_arrived_8 : decode mX11_arrived.2.1 8 = .ok (.ifCond .le 10, 3) := by decide +kernel
theorem dX11_arrived_11 : decode mX11_arrived.2.1 11 = .ok (.aload_n 0, 1) := by decide +kernel
theorem dX11_arrived_12 : decode mX11_arrived.2.1 12 = .ok (.getfield 48, 3) := by decide +kernel
theorem dX11_arrived_15 : decode mX11_arrived.2.1 15 = .ok (.invokevirtual 123, 3) := by decide +kernel
theorem dX11_arrived_18 : decode mX11_arrived.2.1 18 = .ok (.iload_n 1, 1) := by decide +kernel
theorem dX11_arrived_19 : decode mX11_arrived.2.1 19 = .ok (.ireturn, 1) := by decide +kernel
theorem dX11_rule_0 : decode mX11_rule.2.1 0 = .ok (.aload_n 0, 1) := by decide +kernel
theorem dX11_rule_1 : decode mX11_rule.2.1 1 = .ok (.invokevirtual 147, 3) := by decide +kernel
theorem dX11_rule_4 : decode mX11_rule.2.1 4 = .ok (.istore_n 1, 1) := by decide +kernel
theorem dX11_rule_5 : decode mX11_rule.2.1 5 = .ok (.iload_n 1, 1) := by decide +kernel
theorem dX11_rule_6 : decode mX11_rule.2.1 6 = .ok (.iconst (-1), 1) := by decide +kernel
theorem dX11_rule_7 : decode mX11_rule.2.1 7 = .ok (.if_icmp .eq 7, 3) := by decide +kernel
theorem dX11_rule_10 : decode mX11_rule.2.1 10 = .ok (.iconst (-1), 1) := by decide +kernel
theorem dX11_rule_11 : decode mX11_rule.2.1 11 = .ok (.iload_n 1, 1) := by decide +kernel
theorem dX11_rule_12 : decode mX11_rule.2.1 12 = .ok (.isub, 1) := by decide +kernel
theorem dX11_rule_13 : decode mX11_rule.2.1 13 = .ok (.ireturn, 1) := by decide +kernel
theorem dX11_rule_14 : decode mX11_rule.2.1 14 = .ok (.aload_n 0, 1) := by decide +kernel
theorem dX11_rule_15 : decode mX11_rule.2.1 15 = .ok (.invokevirtual 150, 3) := by decide +kernel
theorem dX11_rule_18 : decode mX11_rule.2.1 18 = .ok (.iconst 0, 1) := by decide +kernel
theorem dX11_rule_19 : decode mX11_rule.2.1 19 = .ok (.ireturn, 1) := by decide +kernel
theorem dX11_readSpare_0 : decode mX11_readSpare.2.1 0 = .ok (.aload_n 0, 1) := by decide +kernel
theorem dX11_readSpare_1 : decode mX11_readSpare.2.1 1 = .ok (.getfield 92, 3) := by decide +kernel
theorem dX11_readSpare_4 : decode mX11_readSpare.2.1 4 = .ok (.invokevirtual 153, 3) := by decide +kernel
theorem dX11_readSpare_7 : decode mX11_readSpare.2.1 7 = .ok (.iconst (-1), 1) := by decide +kernel
theorem dX11_readSpare_8 : decode mX11_readSpare.2.1 8 = .ok (.istore_n 1, 1) := by decide +kernel
theorem dX11_readSpare_9 : decode mX11_readSpare.2.1 9 = .ok (.aload_n 0, 1) := by decide +kernel
theorem dX11_readSpare_10 : decode mX11_readSpare.2.1 10 = .ok (.getfield 10, 3) := by decide +kernel
theorem dX11_readSpare_13 : decode mX11_readSpare.2.1 13 = .ok (.invokevirtual 129, 3) := by decide +kernel
theorem dX11_readSpare_16 : decode mX11_readSpare.2.1 16 = .ok (.ifCond .ne 31, 3) := by decide +kernel
theorem dX11_readSpare_19 : decode mX11_readSpare.2.1 19 = .ok (.aload_n 0, 1) := by decide +kernel
theorem dX11_readSpare_20 : decode mX11_readSpare.2.1 20 = .ok (.getfield 21, 3) := by decide +kernel
theorem dX11_readSpare_23 : decode mX11_readSpare.2.1 23 = .ok (.bipush 40, 2) := by decide +kernel
theorem dX11_readSpare_25 : decode mX11_readSpare.2.1 25 = .ok (.invokevirtual 104, 3) := by decide +kernel
theorem dX11_readSpare_28 : decode mX11_readSpare.2.1 28 = .ok (.aload_n 0, 1) := by decide +kernel
theorem dX11_readSpare_29 : decode mX11_readSpare.2.1 29 = .ok (.getfield 92, 3) := by decide +kernel
theorem dX11_readSpare_32 : decode mX11_readSpare.2.1 32 = .ok (.aload_n 0, 1) := by decide +kernel
theorem dX11_readSpare_33 : decode mX11_readSpare.2.1 33 = .ok (.getfield 21, 3) := by decide +kernel
theorem dX11_readSpare_36 : decode mX11_readSpare.2.1 36 = .ok (.invokevirtual 154, 3) := by decide +kernel
theorem dX11_readSpare_39 : decode mX11_readSpare.2.1 39 = .ok (.aload_n 0, 1) := by decide +kernel
theorem dX11_readSpare_40 : decode mX11_readSpare.2.1 40 = .ok (.getfield 21, 3) := by decide +kernel
theorem dX11_readSpare_43 : decode mX11_readSpare.2.1 43 = .ok (.invokevirtual 158, 3) := by decide +kernel
theorem dX11_readSpare_46 : decode mX11_readSpare.2.1 46 = .ok (.istore_n 1, 1) := by decide +kernel
theorem dX11_readSpare_47 : decode mX11_readSpare.2.1 47 = .ok (.aload_n 0, 1) := by decide +kernel
theorem dX11_readSpare_48 : decode mX11_readSpare.2.1 48 = .ok (.getfield 10, 3) := by decide +kernel
theorem dX11_readSpare_51 : decode mX11_readSpare.2.1 51 = .ok (.invokevirtual 115, 3) := by decide +kernel
theorem dX11_readSpare_54 : decode mX11_readSpare.2.1 54 = .ok (.iload_n 1, 1) := by decide +kernel
theorem dX11_readSpare_55 : decode mX11_readSpare.2.1 55 = .ok (.ireturn, 1) := by decide +kernel
theorem dX11_swapRules_0 : decode mX11_swapRules.2.1 0 = .ok (.aload_n 0, 1) := by decide +kernel
theorem dX11_swapRules_1 : decode mX11_swapRules.2.1 1 = .ok (.getfield 28, 3) := by decide +kernel
theorem dX11_swapRules_4 : decode mX11_swapRules.2.1 4 = .ok (.getfield 161, 3) := by decide +kernel
theorem dX11_swapRules_7 : decode mX11_swapRules.2.1 7 = .ok (.astore_n 1, 1) := by decide +kernel
theorem dX11_swapRules_8 : decode mX11_swapRules.2.1 8 = .ok (.aload_n 0, 1) := by decide +kernel
theorem dX11_swapRules_9 : decode mX11_swapRules.2.1 9 = .ok (.getfield 28, 3) := by decide +kernel
theorem dX11_swapRules_12 : decode mX11_swapRules.2.1 12 = .ok (.aload_n 0, 1) := by decide +kernel
theorem dX11_swapRules_13 : decode mX11_swapRules.2.1 13 = .ok (.getfield 92, 3) := by decide +kernel
theorem dX11_swapRules_16 : decode mX11_swapRules.2.1 16 = .ok (.putfield 161, 3) := by decide +kernel
theorem dX11_swapRules_19 : decode mX11_swapRules.2.1 19 = .ok (.aload_n 0, 1) := by decide +kernel
theorem dX11_swapRules_20 : decode mX11_swapRules.2.1 20 = .ok (.aload_n 1, 1) := by decide +kernel
theorem dX11_swapRules_21 : decode mX11_swapRules.2.1 21 = .ok (.putfield 92, 3) := by decide +kernel
theorem dX11_swapRules_24 : decode mX11_swapRules.2.1 24 = .ok (.return_, 1) := by decide +kernel
theorem dX11_thing_0 : decode mX11_thing.2.1 0 = .ok (.aload_n 0, 1) := by decide +kernel
theorem dX11_thing_1 : decode mX11_thing.2.1 1 = .ok (.getfield 28, 3) := by decide +kernel
theorem dX11_thing_4 : decode mX11_thing.2.1 4 = .ok (.iload_n 1, 1) := by decide +kernel
theorem dX11_thing_5 : decode mX11_thing.2.1 5 = .ok (.invokevirtual 164, 3) := by decide +kernel
theorem dX11_thing_8 : decode mX11_thing.2.1 8 = .ok (.ifCond .ne 11, 3) := by decide +kernel
theorem dX11_thing_11 : decode mX11_thing.2.1 11 = .ok (.new 167, 3) := by decide +kernel
theorem dX11_thing_14 : decode mX11_thing.2.1 14 = .ok (.dup, 1) := by decide +kernel
theorem dX11_thing_15 : decode mX11_thing.2.1 15 = .ok (.invokespecial 169, 3) := by decide +kernel
theorem dX11_thing_18 : decode mX11_thing.2.1 18 = .ok (.athrow, 1) := by decide +kernel
theorem dX11_thing_19 : decode mX11_thing.2.1 19 = .ok (.iload_n 2, 1) := by decide +kernel
theorem dX11_thing_20 : decode mX11_thing.2.1 20 = .ok (.tableswitch 89 0 4 #[36, 46, 56, 66, 76], 36) := by decide +kernel
theorem dX11_thing_56 : decode mX11_thing.2.1 56 = .ok (.aload_n 0, 1) := by decide +kernel
theorem dX11_thing_57 : decode mX11_thing.2.1 57 = .ok (.getfield 28, 3) := by decide +kernel
theorem dX11_thing_60 : decode mX11_thing.2.1 60 = .ok (.getfield 170, 3) := by decide +kernel
theorem dX11_thing_63 : decode mX11_thing.2.1 63 = .ok (.iload_n 1, 1) := by decide +kernel
theorem dX11_thing_64 : decode mX11_thing.2.1 64 = .ok (.iaload, 1) := by decide +kernel
theorem dX11_thing_65 : decode mX11_thing.2.1 65 = .ok (.ireturn, 1) := by decide +kernel
theorem dX11_thing_66 : decode mX11_thing.2.1 66 = .ok (.aload_n 0, 1) := by decide +kernel
theorem dX11_thing_67 : decode mX11_thing.2.1 67 = .ok (.getfield 28, 3) := by decide +kernel
theorem dX11_thing_70 : decode mX11_thing.2.1 70 = .ok (.getfield 174, 3) := by decide +kernel
theorem dX11_thing_73 : decode mX11_thing.2.1 73 = .ok (.iload_n 1, 1) := by decide +kernel
theorem dX11_thing_74 : decode mX11_thing.2.1 74 = .ok (.iaload, 1) := by decide +kernel
theorem dX11_thing_75 : decode mX11_thing.2.1 75 = .ok (.ireturn, 1) := by decide +kernel
theorem dX11_thing_76 : decode mX11_thing.2.1 76 = .ok (.aload_n 0, 1) := by decide +kernel
theorem dX11_thing_77 : decode mX11_thing.2.1 77 = .ok (.getfield 35, 3) := by decide +kernel
theorem dX11_thing_80 : decode mX11_thing.2.1 80 = .ok (.getfield 177, 3) := by decide +kernel
theorem dX11_thing_83 : decode mX11_thing.2.1 83 = .ok (.iload_n 1, 1) := by decide +kernel
theorem dX11_thing_84 : decode mX11_thing.2.1 84 = .ok (.iaload, 1) := by decide +kernel
theorem dX11_thing_85 : decode mX11_thing.2.1 85 = .ok (.ireturn, 1) := by decide +kernel
theorem dX11_thing_86 : decode mX11_thing.2.1 86 = .ok (.aload_n 0, 1) := by decide +kernel
theorem dX11_thing_87 : decode mX11_thing.2.1 87 = .ok (.getfield 35, 3) := by decide +kernel
theorem dX11_thing_90 : decode mX11_thing.2.1 90 = .ok (.getfield 180, 3) := by decide +kernel
theorem dX11_thing_93 : decode mX11_thing.2.1 93 = .ok (.iload_n 1, 1) := by decide +kernel
theorem dX11_thing_94 : decode mX11_thing.2.1 94 = .ok (.iaload, 1) := by decide +kernel
theorem dX11_thing_95 : decode mX11_thing.2.1 95 = .ok (.ireturn, 1) := by decide +kernel
theorem dX11_thing_96 : decode mX11_thing.2.1 96 = .ok (.aload_n 0, 1) := by decide +kernel
theorem dX11_thing_97 : decode mX11_thing.2.1 97 = .ok (.getfield 28, 3) := by decide +kernel
theorem dX11_thing_100 : decode mX11_thing.2.1 100 = .ok (.aload_n 0, 1) := by decide +kernel
theorem dX11_thing_101 : decode mX11_thing.2.1 101 = .ok (.getfield 35, 3) := by decide +kernel
theorem dX11_thing_104 : decode mX11_thing.2.1 104 = .ok (.iload_n 1, 1) := by decide +kernel
theorem dX11_thing_105 : decode mX11_thing.2.1 105 = .ok (.invokevirtual 183, 3) := by decide +kernel
theorem dX11_thing_108 : decode mX11_thing.2.1 108 = .ok (.ireturn, 1) := by decide +kernel
theorem dX11_thing_109 : decode mX11_thing.2.1 109 = .ok (.new 167, 3) := by decide +kernel
theorem dX11_thing_112 : decode mX11_thing.2.1 112 = .ok (.dup, 1) := by decide +kernel
theorem dX11_thing_113 : decode mX11_thing.2.1 113 = .ok (.invokespecial 169, 3) := by decide +kernel
theorem dX11_thing_116 : decode mX11_thing.2.1 116 = .ok (.athrow, 1) := by decide +kernel
theorem dX11_pane_0 : decode mX11_pane.2.1 0 = .ok (.aload_n 0, 1) := by decide +kernel
theorem dX11_pane_1 : decode mX11_pane.2.1 1 = .ok (.getfield 28, 3) := by decide +kernel
theorem dX11_pane_4 : decode mX11_pane.2.1 4 = .ok (.iload_n 1, 1) := by decide +kernel
theorem dX11_pane_5 : decode mX11_pane.2.1 5 = .ok (.invokevirtual 187, 3) := by decide +kernel
theorem dX11_pane_8 : decode mX11_pane.2.1 8 = .ok (.ifCond .ne 11, 3) := by decide +kernel
theorem dX11_pane_11 : decode mX11_pane.2.1 11 = .ok (.new 167, 3) := by decide +kernel
theorem dX11_pane_14 : decode mX11_pane.2.1 14 = .ok (.dup, 1) := by decide +kernel
theorem dX11_pane_15 : decode mX11_pane.2.1 15 = .ok (.invokespecial 169, 3) := by decide +kernel
theorem dX11_pane_18 : decode mX11_pane.2.1 18 = .ok (.athrow, 1) := by decide +kernel
theorem dX11_pane_19 : decode mX11_pane.2.1 19 = .ok (.iload_n 2, 1) := by decide +kernel
theorem dX11_pane_20 : decode mX11_pane.2.1 20 = .ok (.tableswitch 103 0 4 #[36, 46, 56, 66, 83], 36) := by decide +kernel
theorem dX11_pane_56 : decode mX11_pane.2.1 56 = .ok (.aload_n 0, 1) := by decide +kernel
theorem dX11_pane_57 : decode mX11_pane.2.1 57 = .ok (.getfield 28, 3) := by decide +kernel
theorem dX11_pane_60 : decode mX11_pane.2.1 60 = .ok (.getfield 190, 3) := by decide +kernel
theorem dX11_pane_63 : decode mX11_pane.2.1 63 = .ok (.iload_n 1, 1) := by decide +kernel
theorem dX11_pane_64 : decode mX11_pane.2.1 64 = .ok (.iaload, 1) := by decide +kernel
theorem dX11_pane_65 : decode mX11_pane.2.1 65 = .ok (.ireturn, 1) := by decide +kernel
theorem dX11_pane_66 : decode mX11_pane.2.1 66 = .ok (.aload_n 0, 1) := by decide +kernel
theorem dX11_pane_67 : decode mX11_pane.2.1 67 = .ok (.getfield 28, 3) := by decide +kernel
theorem dX11_pane_70 : decode mX11_pane.2.1 70 = .ok (.getfield 193, 3) := by decide +kernel
theorem dX11_pane_73 : decode mX11_pane.2.1 73 = .ok (.iload_n 1, 1) := by decide +kernel
theorem dX11_pane_74 : decode mX11_pane.2.1 74 = .ok (.iaload, 1) := by decide +kernel
theorem dX11_pane_75 : decode mX11_pane.2.1 75 = .ok (.ireturn, 1) := by decide +kernel
theorem dX11_pane_76 : decode mX11_pane.2.1 76 = .ok (.aload_n 0, 1) := by decide +kernel
theorem dX11_pane_77 : decode mX11_pane.2.1 77 = .ok (.getfield 35, 3) := by decide +kernel
theorem dX11_pane_80 : decode mX11_pane.2.1 80 = .ok (.getfield 196, 3) := by decide +kernel
theorem dX11_pane_83 : decode mX11_pane.2.1 83 = .ok (.iload_n 1, 1) := by decide +kernel
theorem dX11_pane_84 : decode mX11_pane.2.1 84 = .ok (.iaload, 1) := by decide +kernel
theorem dX11_pane_85 : decode mX11_pane.2.1 85 = .ok (.ireturn, 1) := by decide +kernel
theorem dX11_pane_86 : decode mX11_pane.2.1 86 = .ok (.aload_n 0, 1) := by decide +kernel
theorem dX11_pane_87 : decode mX11_pane.2.1 87 = .ok (.getfield 35, 3) := by decide +kernel
theorem dX11_pane_90 : decode mX11_pane.2.1 90 = .ok (.iload_n 1, 1) := by decide +kernel
theorem dX11_pane_91 : decode mX11_pane.2.1 91 = .ok (.invokevirtual 199, 3) := by decide +kernel
theorem dX11_pane_94 : decode mX11_pane.2.1 94 = .ok (.ifCond .eq 7, 3) := by decide +kernel
theorem dX11_pane_97 : decode mX11_pane.2.1 97 = .ok (.iconst 1, 1) := by decide +kernel
theorem dX11_pane_98 : decode mX11_pane.2.1 98 = .ok (.goto 4, 3) := by decide +kernel
theorem dX11_pane_101 : decode mX11_pane.2.1 101 = .ok (.iconst 0, 1) := by decide +kernel
theorem dX11_pane_102 : decode mX11_pane.2.1 102 = .ok (.ireturn, 1) := by decide +kernel
theorem dX11_pane_103 : decode mX11_pane.2.1 103 = .ok (.aload_n 0, 1) := by decide +kernel
theorem dX11_pane_104 : decode mX11_pane.2.1 104 = .ok (.getfield 28, 3) := by decide +kernel
theorem dX11_pane_107 : decode mX11_pane.2.1 107 = .ok (.aload_n 0, 1) := by decide +kernel
theorem dX11_pane_108 : decode mX11_pane.2.1 108 = .ok (.getfield 35, 3) := by decide +kernel
theorem dX11_pane_111 : decode mX11_pane.2.1 111 = .ok (.iload_n 1, 1) := by decide +kernel
theorem dX11_pane_112 : decode mX11_pane.2.1 112 = .ok (.aload_n 0, 1) := by decide +kernel
theorem dX11_pane_113 : decode mX11_pane.2.1 113 = .ok (.getfield 28, 3) := by decide +kernel
theorem dX11_pane_116 : decode mX11_pane.2.1 116 = .ok (.invokevirtual 202, 3) := by decide +kernel
theorem dX11_pane_119 : decode mX11_pane.2.1 119 = .ok (.invokevirtual 205, 3) := by decide +kernel
theorem dX11_pane_122 : decode mX11_pane.2.1 122 = .ok (.ireturn, 1) := by decide +kernel
theorem dX11_pane_123 : decode mX11_pane.2.1 123 = .ok (.new 167, 3) := by decide +kernel
theorem dX11_pane_126 : decode mX11_pane.2.1 126 = .ok (.dup, 1) := by decide +kernel
theorem dX11_pane_127 : decode mX11_pane.2.1 127 = .ok (.invokespecial 169, 3) := by decide +kernel
theorem dX11_pane_130 : decode mX11_pane.2.1 130 = .ok (.athrow, 1) := by decide +kernel
theorem dX11_room_0 : decode mX11_room.2.1 0 = .ok (.aload_n 0, 1) := by decide +kernel
theorem dX11_room_1 : decode mX11_room.2.1 1 = .ok (.getfield 28, 3) := by decide +kernel
theorem dX11_room_4 : decode mX11_room.2.1 4 = .ok (.iload_n 1, 1) := by decide +kernel
theorem dX11_room_5 : decode mX11_room.2.1 5 = .ok (.invokevirtual 209, 3) := by decide +kernel
theorem dX11_room_8 : decode mX11_room.2.1 8 = .ok (.ifCond .ne 11, 3) := by decide +kernel
theorem dX11_room_11 : decode mX11_room.2.1 11 = .ok (.new 167, 3) := by decide +kernel
theorem dX11_room_14 : decode mX11_room.2.1 14 = .ok (.dup, 1) := by decide +kernel
theorem dX11_room_15 : decode mX11_room.2.1 15 = .ok (.invokespecial 169, 3) := by decide +kernel
theorem dX11_room_18 : decode mX11_room.2.1 18 = .ok (.athrow, 1) := by decide +kernel
theorem dX11_room_19 : decode mX11_room.2.1 19 = .ok (.iload_n 2, 1) := by decide +kernel
theorem dX11_room_20 : decode mX11_room.2.1 20 = .ok (.tableswitch 95 0 4 #[36, 46, 56, 69, 82], 36) := by decide +kernel
theorem dX11_room_56 : decode mX11_room.2.1 56 = .ok (.aload_n 0, 1) := by decide +kernel
theorem dX11_room_57 : decode mX11_room.2.1 57 = .ok (.getfield 28, 3) := by decide +kernel
theorem dX11_room_60 : decode mX11_room.2.1 60 = .ok (.getfield 212, 3) := by decide +kernel
theorem dX11_room_63 : decode mX11_room.2.1 63 = .ok (.iload_n 1, 1) := by decide +kernel
theorem dX11_room_64 : decode mX11_room.2.1 64 = .ok (.iaload, 1) := by decide +kernel
theorem dX11_room_65 : decode mX11_room.2.1 65 = .ok (.ireturn, 1) := by decide +kernel
theorem dX11_room_66 : decode mX11_room.2.1 66 = .ok (.aload_n 0, 1) := by decide +kernel
theorem dX11_room_67 : decode mX11_room.2.1 67 = .ok (.getfield 28, 3) := by decide +kernel
theorem dX11_room_70 : decode mX11_room.2.1 70 = .ok (.getfield 215, 3) := by decide +kernel
theorem dX11_room_73 : decode mX11_room.2.1 73 = .ok (.iload_n 1, 1) := by decide +kernel
theorem dX11_room_74 : decode mX11_room.2.1 74 = .ok (.iaload, 1) := by decide +kernel
theorem dX11_room_75 : decode mX11_room.2.1 75 = .ok (.ireturn, 1) := by decide +kernel
theorem dX11_room_76 : decode mX11_room.2.1 76 = .ok (.aload_n 0, 1) := by decide +kernel
theorem dX11_room_77 : decode mX11_room.2.1 77 = .ok (.getfield 28, 3) := by decide +kernel
theorem dX11_room_80 : decode mX11_room.2.1 80 = .ok (.aload_n 0, 1) := by decide +kernel
theorem dX11_room_81 : decode mX11_room.2.1 81 = .ok (.getfield 35, 3) := by decide +kernel
theorem dX11_room_84 : decode mX11_room.2.1 84 = .ok (.iload_n 1, 1) := by decide +kernel
theorem dX11_room_85 : decode mX11_room.2.1 85 = .ok (.invokevirtual 218, 3) := by decide +kernel
theorem dX11_room_88 : decode mX11_room.2.1 88 = .ok (.ireturn, 1) := by decide +kernel
theorem dX11_room_89 : decode mX11_room.2.1 89 = .ok (.aload_n 0, 1) := by decide +kernel
theorem dX11_room_90 : decode mX11_room.2.1 90 = .ok (.getfield 28, 3) := by decide +kernel
theorem dX11_room_93 : decode mX11_room.2.1 93 = .ok (.aload_n 0, 1) := by decide +kernel
theorem dX11_room_94 : decode mX11_room.2.1 94 = .ok (.getfield 35, 3) := by decide +kernel
theorem dX11_room_97 : decode mX11_room.2.1 97 = .ok (.iload_n 1, 1) := by decide +kernel
theorem dX11_room_98 : decode mX11_room.2.1 98 = .ok (.invokevirtual 221, 3) := by decide +kernel
theorem dX11_room_101 : decode mX11_room.2.1 101 = .ok (.ireturn, 1) := by decide +kernel
theorem dX11_room_102 : decode mX11_room.2.1 102 = .ok (.aload_n 0, 1) := by decide +kernel
theorem dX11_room_103 : decode mX11_room.2.1 103 = .ok (.getfield 28, 3) := by decide +kernel
theorem dX11_room_106 : decode mX11_room.2.1 106 = .ok (.aload_n 0, 1) := by decide +kernel
theorem dX11_room_107 : decode mX11_room.2.1 107 = .ok (.getfield 35, 3) := by decide +kernel
theorem dX11_room_110 : decode mX11_room.2.1 110 = .ok (.iload_n 1, 1) := by decide +kernel
theorem dX11_room_111 : decode mX11_room.2.1 111 = .ok (.invokevirtual 224, 3) := by decide +kernel
theorem dX11_room_114 : decode mX11_room.2.1 114 = .ok (.ireturn, 1) := by decide +kernel
theorem dX11_room_115 : decode mX11_room.2.1 115 = .ok (.new 167, 3) := by decide +kernel
theorem dX11_room_118 : decode mX11_room.2.1 118 = .ok (.dup, 1) := by decide +kernel
theorem dX11_room_119 : decode mX11_room.2.1 119 = .ok (.invokespecial 169, 3) := by decide +kernel
theorem dX11_room_122 : decode mX11_room.2.1 122 = .ok (.athrow, 1) := by decide +kernel
theorem dX11_sheet_0 : decode mX11_sheet.2.1 0 = .ok (.iload_n 1, 1) := by decide +kernel
theorem dX11_sheet_1 : decode mX11_sheet.2.1 1 = .ok (.ifCond .lt 14, 3) := by decide +kernel
theorem dX11_sheet_4 : decode mX11_sheet.2.1 4 = .ok (.iload_n 1, 1) := by decide +kernel
theorem dX11_sheet_5 : decode mX11_sheet.2.1 5 = .ok (.iconst 3, 1) := by decide +kernel
theorem dX11_sheet_6 : decode mX11_sheet.2.1 6 = .ok (.if_icmp .gt 9, 3) := by decide +kernel
theorem dX11_sheet_9 : decode mX11_sheet.2.1 9 = .ok (.iload_n 2, 1) := by decide +kernel
theorem dX11_sheet_10 : decode mX11_sheet.2.1 10 = .ok (.bipush 8, 2) := by decide +kernel
theorem dX11_sheet_12 : decode mX11_sheet.2.1 12 = .ok (.if_icmp .le 5, 3) := by decide +kernel
theorem dX11_sheet_15 : decode mX11_sheet.2.1 15 = .ok (.iconst (-1), 1) := by decide +kernel
theorem dX11_sheet_16 : decode mX11_sheet.2.1 16 = .ok (.ireturn, 1) := by decide +kernel
theorem dX11_sheet_17 : decode mX11_sheet.2.1 17 = .ok (.iload_n 1, 1) := by decide +kernel
theorem dX11_sheet_18 : decode mX11_sheet.2.1 18 = .ok (.iconst 3, 1) := by decide +kernel
theorem dX11_sheet_19 : decode mX11_sheet.2.1 19 = .ok (.if_icmp .ne 18, 3) := by decide +kernel
theorem dX11_sheet_22 : decode mX11_sheet.2.1 22 = .ok (.aload_n 0, 1) := by decide +kernel
theorem dX11_sheet_23 : decode mX11_sheet.2.1 23 = .ok (.getfield 28, 3) := by decide +kernel
theorem dX11_sheet_26 : decode mX11_sheet.2.1 26 = .ok (.iconst 0, 1) := by decide +kernel
theorem dX11_sheet_27 : decode mX11_sheet.2.1 27 = .ok (.iconst 0, 1) := by decide +kernel
theorem dX11_sheet_28 : decode mX11_sheet.2.1 28 = .ok (.iconst 0, 1) := by decide +kernel
theorem dX11_sheet_29 : decode mX11_sheet.2.1 29 = .ok (.iconst 0, 1) := by decide +kernel
theorem dX11_sheet_30 : decode mX11_sheet.2.1 30 = .ok (.invokevirtual 227, 3) := by decide +kernel
theorem dX11_sheet_33 : decode mX11_sheet.2.1 33 = .ok (.pop, 1) := by decide +kernel
theorem dX11_sheet_34 : decode mX11_sheet.2.1 34 = .ok (.bipush (-3), 2) := by decide +kernel
theorem dX11_sheet_36 : decode mX11_sheet.2.1 36 = .ok (.ireturn, 1) := by decide +kernel
theorem dX11_sheet_37 : decode mX11_sheet.2.1 37 = .ok (.iload_n 2, 1) := by decide +kernel
theorem dX11_sheet_38 : decode mX11_sheet.2.1 38 = .ok (.ifCond .ge 8, 3) := by decide +kernel
theorem dX11_sheet_41 : decode mX11_sheet.2.1 41 = .ok (.bipush (-2), 2) := by decide +kernel
theorem dX11_sheet_43 : decode mX11_sheet.2.1 43 = .ok (.goto 15, 3) := by decide +kernel
theorem dX11_sheet_46 : decode mX11_sheet.2.1 46 = .ok (.aload_n 0, 1) := by decide +kernel
theorem dX11_sheet_47 : decode mX11_sheet.2.1 47 = .ok (.getfield 28, 3) := by decide +kernel
theorem dX11_sheet_50 : decode mX11_sheet.2.1 50 = .ok (.iload_n 1, 1) := by decide +kernel
theorem dX11_sheet_51 : decode mX11_sheet.2.1 51 = .ok (.iload_n 2, 1) := by decide +kernel
theorem dX11_sheet_52 : decode mX11_sheet.2.1 52 = .ok (.iload_n 3, 1) := by decide +kernel
theorem dX11_sheet_53 : decode mX11_sheet.2.1 53 = .ok (.iload 4, 2) := by decide +kernel
theorem dX11_sheet_55 : decode mX11_sheet.2.1 55 = .ok (.invokevirtual 227, 3) := by decide +kernel
theorem dX11_sheet_58 : decode mX11_sheet.2.1 58 = .ok (.ireturn, 1) := by decide +kernel
theorem dX11_hang_0 : decode mX11_hang.2.1 0 = .ok (.aload_n 0, 1) := by decide +kernel
theorem dX11_hang_1 : decode mX11_hang.2.1 1 = .ok (.getfield 39, 3) := by decide +kernel
theorem dX11_hang_4 : decode mX11_hang.2.1 4 = .ok (.aload_n 0, 1) := by decide +kernel
theorem dX11_hang_5 : decode mX11_hang.2.1 5 = .ok (.getfield 35, 3) := by decide +kernel
theorem dX11_hang_8 : decode mX11_hang.2.1 8 = .ok (.invokevirtual 231, 3) := by decide +kernel
theorem dX11_hang_11 : decode mX11_hang.2.1 11 = .ok (.aload_n 0, 1) := by decide +kernel
theorem dX11_hang_12 : decode mX11_hang.2.1 12 = .ok (.aload_n 0, 1) := by decide +kernel
theorem dX11_hang_13 : decode mX11_hang.2.1 13 = .ok (.iload_n 1, 1) := by decide +kernel
theorem dX11_hang_14 : decode mX11_hang.2.1 14 = .ok (.iload_n 2, 1) := by decide +kernel
theorem dX11_hang_15 : decode mX11_hang.2.1 15 = .ok (.invokevirtual 235, 3) := by decide +kernel
theorem dX11_hang_18 : decode mX11_hang.2.1 18 = .ok (.invokevirtual 238, 3) := by decide +kernel
theorem dX11_hang_21 : decode mX11_hang.2.1 21 = .ok (.ireturn, 1) := by decide +kernel
theorem dX11_takes_0 : decode mX11_takes.2.1 0 = .ok (.aload_n 0, 1) := by decide +kernel
theorem dX11_takes_1 : decode mX11_takes.2.1 1 = .ok (.getfield 39, 3) := by decide +kernel
theorem dX11_takes_4 : decode mX11_takes.2.1 4 = .ok (.aload_n 0, 1) := by decide +kernel
theorem dX11_takes_5 : decode mX11_takes.2.1 5 = .ok (.getfield 35, 3) := by decide +kernel
theorem dX11_takes_8 : decode mX11_takes.2.1 8 = .ok (.invokevirtual 231, 3) := by decide +kernel
theorem dX11_takes_11 : decode mX11_takes.2.1 11 = .ok (.aload_n 0, 1) := by decide +kernel
theorem dX11_takes_12 : decode mX11_takes.2.1 12 = .ok (.aload_n 0, 1) := by decide +kernel
theorem dX11_takes_13 : decode mX11_takes.2.1 13 = .ok (.iload_n 1, 1) := by decide +kernel
theorem dX11_takes_14 : decode mX11_takes.2.1 14 = .ok (.invokevirtual 241, 3) := by decide +kernel
theorem dX11_takes_17 : decode mX11_takes.2.1 17 = .ok (.invokevirtual 238, 3) := by decide +kernel
theorem dX11_takes_20 : decode mX11_takes.2.1 20 = .ok (.ireturn, 1) := by decide +kernel
theorem dX11_ball_0 : decode mX11_ball.2.1 0 = .ok (.aload_n 0, 1) := by decide +kernel
theorem dX11_ball_1 : decode mX11_ball.2.1 1 = .ok (.getfield 39, 3) := by decide +kernel
theorem dX11_ball_4 : decode mX11_ball.2.1 4 = .ok (.aload_n 0, 1) := by decide +kernel
theorem dX11_ball_5 : decode mX11_ball.2.1 5 = .ok (.getfield 35, 3) := by decide +kernel
theorem dX11_ball_8 : decode mX11_ball.2.1 8 = .ok (.invokevirtual 231, 3) := by decide +kernel
theorem dX11_ball_11 : decode mX11_ball.2.1 11 = .ok (.aload_n 0, 1) := by decide +kernel
theorem dX11_ball_12 : decode mX11_ball.2.1 12 = .ok (.aload_n 0, 1) := by decide +kernel
theorem dX11_ball_13 : decode mX11_ball.2.1 13 = .ok (.iload_n 1, 1) := by decide +kernel
theorem dX11_ball_14 : decode mX11_ball.2.1 14 = .ok (.invokevirtual 244, 3) := by decide +kernel
theorem dX11_ball_17 : decode mX11_ball.2.1 17 = .ok (.invokevirtual 238, 3) := by decide +kernel
theorem dX11_ball_20 : decode mX11_ball.2.1 20 = .ok (.ireturn, 1) := by decide +kernel
theorem dX11_carry_0 : decode mX11_carry.2.1 0 = .ok (.aload_n 0, 1) := by decide +kernel
theorem dX11_carry_1 : decode mX11_carry.2.1 1 = .ok (.getfield 39, 3) := by decide +kernel
theorem dX11_carry_4 : decode mX11_carry.2.1 4 = .ok (.aload_n 0, 1) := by decide +kernel
theorem dX11_carry_5 : decode mX11_carry.2.1 5 = .ok (.getfield 35, 3) := by decide +kernel
theorem dX11_carry_8 : decode mX11_carry.2.1 8 = .ok (.invokevirtual 231, 3) := by decide +kernel
theorem dX11_carry_11 : decode mX11_carry.2.1 11 = .ok (.aload_n 0, 1) := by decide +kernel
theorem dX11_carry_12 : decode mX11_carry.2.1 12 = .ok (.aload_n 0, 1) := by decide +kernel
theorem dX11_carry_13 : decode mX11_carry.2.1 13 = .ok (.iload_n 1, 1) := by decide +kernel
theorem dX11_carry_14 : decode mX11_carry.2.1 14 = .ok (.iload_n 2, 1) := by decide +kernel
theorem dX11_carry_15 : decode mX11_carry.2.1 15 = .ok (.iload_n 3, 1) := by decide +kernel
theorem dX11_carry_16 : decode mX11_carry.2.1 16 = .ok (.invokevirtual 247, 3) := by decide +kernel
theorem dX11_carry_19 : decode mX11_carry.2.1 19 = .ok (.invokevirtual 238, 3) := by decide +kernel
theorem dX11_carry_22 : decode mX11_carry.2.1 22 = .ok (.ireturn, 1) := by decide +kernel
theorem dX11_remembered_0 : decode mX11_remembered.2.1 0 = .ok (.iload_n 1, 1) := by decide +kernel
theorem dX11_remembered_1 : decode mX11_remembered.2.1 1 = .ok (.ifCond .lt 14, 3) := by decide +kernel
theorem dX11_remembered_4 : decode mX11_remembered.2.1 4 = .ok (.aload_n 0, 1) := by decide +kernel
theorem dX11_remembered_5 : decode mX11_remembered.2.1 5 = .ok (.getfield 48, 3) := by decide +kernel
theorem dX11_remembered_8 : decode mX11_remembered.2.1 8 = .ok (.aload_n 0, 1) := by decide +kernel
theorem dX11_remembered_9 : decode mX11_remembered.2.1 9 = .ok (.getfield 39, 3) := by decide +kernel
theorem dX11_remembered_12 : decode mX11_remembered.2.1 12 = .ok (.invokevirtual 251, 3) := by decide +kernel
theorem dX11_remembered_15 : decode mX11_remembered.2.1 15 = .ok (.iload_n 1, 1) := by decide +kernel
theorem dX11_remembered_16 : decode mX11_remembered.2.1 16 = .ok (.ireturn, 1) := by decide +kernel
theorem dX11_hangPane_0 : decode mX11_hangPane.2.1 0 = .ok (.aload_n 0, 1) := by decide +kernel
theorem dX11_hangPane_1 : decode mX11_hangPane.2.1 1 = .ok (.getfield 28, 3) := by decide +kernel
theorem dX11_hangPane_4 : decode mX11_hangPane.2.1 4 = .ok (.iload_n 1, 1) := by decide +kernel
theorem dX11_hangPane_5 : decode mX11_hangPane.2.1 5 = .ok (.invokevirtual 187, 3) := by decide +kernel
theorem dX11_hangPane_8 : decode mX11_hangPane.2.1 8 = .ok (.ifCond .eq 14, 3) := by decide +kernel
theorem dX11_hangPane_11 : decode mX11_hangPane.2.1 11 = .ok (.aload_n 0, 1) := by decide +kernel
theorem dX11_hangPane_12 : decode mX11_hangPane.2.1 12 = .ok (.getfield 28, 3) := by decide +kernel
theorem dX11_hangPane_15 : decode mX11_hangPane.2.1 15 = .ok (.iload_n 2, 1) := by decide +kernel
theorem dX11_hangPane_16 : decode mX11_hangPane.2.1 16 = .ok (.invokevirtual 209, 3) := by decide +kernel
theorem dX11_hangPane_19 : decode mX11_hangPane.2.1 19 = .ok (.ifCond .ne 5, 3) := by decide +kernel
theorem dX11_hangPane_22 : decode mX11_hangPane.2.1 22 = .ok (.iconst (-1), 1) := by decide +kernel
theorem dX11_hangPane_23 : decode mX11_hangPane.2.1 23 = .ok (.ireturn, 1) := by decide +kernel
theorem dX11_hangPane_24 : decode mX11_hangPane.2.1 24 = .ok (.aload_n 0, 1) := by decide +kernel
theorem dX11_hangPane_25 : decode mX11_hangPane.2.1 25 = .ok (.getfield 35, 3) := by decide +kernel
theorem dX11_hangPane_28 : decode mX11_hangPane.2.1 28 = .ok (.getfield 196, 3) := by decide +kernel
theorem dX11_hangPane_31 : decode mX11_hangPane.2.1 31 = .ok (.iload_n 1, 1) := by decide +kernel
theorem dX11_hangPane_32 : decode mX11_hangPane.2.1 32 = .ok (.iaload, 1) := by decide +kernel
theorem dX11_hangPane_33 : decode mX11_hangPane.2.1 33 = .ok (.iload_n 2, 1) := by decide +kernel
theorem dX11_hangPane_34 : decode mX11_hangPane.2.1 34 = .ok (.if_icmp .ne 6, 3) := by decide +kernel
theorem dX11_hangPane_37 : decode mX11_hangPane.2.1 37 = .ok (.bipush (-2), 2) := by decide +kernel
theorem dX11_hangPane_39 : decode mX11_hangPane.2.1 39 = .ok (.ireturn, 1) := by decide +kernel
theorem dX11_hangPane_40 : decode mX11_hangPane.2.1 40 = .ok (.aload_n 0, 1) := by decide +kernel
theorem dX11_hangPane_41 : decode mX11_hangPane.2.1 41 = .ok (.getfield 35, 3) := by decide +kernel
theorem dX11_hangPane_44 : decode mX11_hangPane.2.1 44 = .ok (.getfield 196, 3) := by decide +kernel
theorem dX11_hangPane_47 : decode mX11_hangPane.2.1 47 = .ok (.iload_n 1, 1) := by decide +kernel
theorem dX11_hangPane_48 : decode mX11_hangPane.2.1 48 = .ok (.iload_n 2, 1) := by decide +kernel
theorem dX11_hangPane_49 : decode mX11_hangPane.2.1 49 = .ok (.iastore, 1) := by decide +kernel
theorem dX11_hangPane_50 : decode mX11_hangPane.2.1 50 = .ok (.aload_n 0, 1) := by decide +kernel
theorem dX11_hangPane_51 : decode mX11_hangPane.2.1 51 = .ok (.getfield 28, 3) := by decide +kernel
theorem dX11_hangPane_54 : decode mX11_hangPane.2.1 54 = .ok (.aload_n 0, 1) := by decide +kernel
theorem dX11_hangPane_55 : decode mX11_hangPane.2.1 55 = .ok (.getfield 35, 3) := by decide +kernel
theorem dX11_hangPane_58 : decode mX11_hangPane.2.1 58 = .ok (.iload_n 2, 1) := by decide +kernel
theorem dX11_hangPane_59 : decode mX11_hangPane.2.1 59 = .ok (.invokevirtual 218, 3) := by decide +kernel
theorem dX11_hangPane_62 : decode mX11_hangPane.2.1 62 = .ok (.invokestatic 254, 3) := by decide +kernel
theorem dX11_hangPane_65 : decode mX11_hangPane.2.1 65 = .ok (.ireturn, 1) := by decide +kernel
theorem dX11_takeDown_0 : decode mX11_takeDown.2.1 0 = .ok (.aload_n 0, 1) := by decide +kernel
theorem dX11_takeDown_1 : decode mX11_takeDown.2.1 1 = .ok (.getfield 28, 3) := by decide +kernel
theorem dX11_takeDown_4 : decode mX11_takeDown.2.1 4 = .ok (.iload_n 1, 1) := by decide +kernel
theorem dX11_takeDown_5 : decode mX11_takeDown.2.1 5 = .ok (.invokevirtual 187, 3) := by decide +kernel
theorem dX11_takeDown_8 : decode mX11_takeDown.2.1 8 = .ok (.ifCond .ne 5, 3) := by decide +kernel
theorem dX11_takeDown_11 : decode mX11_takeDown.2.1 11 = .ok (.iconst (-1), 1) := by decide +kernel
theorem dX11_takeDown_12 : decode mX11_takeDown.2.1 12 = .ok (.ireturn, 1) := by decide +kernel
theorem dX11_takeDown_13 : decode mX11_takeDown.2.1 13 = .ok (.aload_n 0, 1) := by decide +kernel
theorem dX11_takeDown_14 : decode mX11_takeDown.2.1 14 = .ok (.getfield 35, 3) := by decide +kernel
theorem dX11_takeDown_17 : decode mX11_takeDown.2.1 17 = .ok (.getfield 196, 3) := by decide +kernel
theorem dX11_takeDown_20 : decode mX11_takeDown.2.1 20 = .ok (.iload_n 1, 1) := by decide +kernel
theorem dX11_takeDown_21 : decode mX11_takeDown.2.1 21 = .ok (.iaload, 1) := by decide +kernel
theorem dX11_takeDown_22 : decode mX11_takeDown.2.1 22 = .ok (.istore_n 2, 1) := by decide +kernel
theorem dX11_takeDown_23 : decode mX11_takeDown.2.1 23 = .ok (.iload_n 2, 1) := by decide +kernel
theorem dX11_takeDown_24 : decode mX11_takeDown.2.1 24 = .ok (.iconst (-1), 1) := by decide +kernel
theorem dX11_takeDown_25 : decode mX11_takeDown.2.1 25 = .ok (.if_icmp .ne 6, 3) := by decide +kernel
theorem dX11_takeDown_28 : decode mX11_takeDown.2.1 28 = .ok (.bipush (-2), 2) := by decide +kernel
theorem dX11_takeDown_30 : decode mX11_takeDown.2.1 30 = .ok (.ireturn, 1) := by decide +kernel
theorem dX11_takeDown_31 : decode mX11_takeDown.2.1 31 = .ok (.aload_n 0, 1) := by decide +kernel
theorem dX11_takeDown_32 : decode mX11_takeDown.2.1 32 = .ok (.getfield 35, 3) := by decide +kernel
theorem dX11_takeDown_35 : decode mX11_takeDown.2.1 35 = .ok (.getfield 196, 3) := by decide +kernel
theorem dX11_takeDown_38 : decode mX11_takeDown.2.1 38 = .ok (.iload_n 1, 1) := by decide +kernel
theorem dX11_takeDown_39 : decode mX11_takeDown.2.1 39 = .ok (.iconst (-1), 1) := by decide +kernel
theorem dX11_takeDown_40 : decode mX11_takeDown.2.1 40 = .ok (.iastore, 1) := by decide +kernel
theorem dX11_takeDown_41 : decode mX11_takeDown.2.1 41 = .ok (.iload_n 2, 1) := by decide +kernel
theorem dX11_takeDown_42 : decode mX11_takeDown.2.1 42 = .ok (.ireturn, 1) := by decide +kernel
theorem dX11_breakPane_0 : decode mX11_breakPane.2.1 0 = .ok (.aload_n 0, 1) := by decide +kernel
theorem dX11_breakPane_1 : decode mX11_breakPane.2.1 1 = .ok (.getfield 28, 3) := by decide +kernel
theorem dX11_breakPane_4 : decode mX11_breakPane.2.1 4 = .ok (.iload_n 1, 1) := by decide +kernel
theorem dX11_breakPane_5 : decode mX11_breakPane.2.1 5 = .ok (.invokevirtual 187, 3) := by decide +kernel
theorem dX11_breakPane_8 : decode mX11_breakPane.2.1 8 = .ok (.ifCond .ne 5, 3) := by decide +kernel
theorem dX11_breakPane_11 : decode mX11_breakPane.2.1 11 = .ok (.iconst (-1), 1) := by decide +kernel
theorem dX11_breakPane_12 : decode mX11_breakPane.2.1 12 = .ok (.ireturn, 1) := by decide +kernel
theorem dX11_breakPane_13 : decode mX11_breakPane.2.1 13 = .ok (.aload_n 0, 1) := by decide +kernel
theorem dX11_breakPane_14 : decode mX11_breakPane.2.1 14 = .ok (.getfield 35, 3) := by decide +kernel
theorem dX11_breakPane_17 : decode mX11_breakPane.2.1 17 = .ok (.iload_n 1, 1) := by decide +kernel
theorem dX11_breakPane_18 : decode mX11_breakPane.2.1 18 = .ok (.invokevirtual 199, 3) := by decide +kernel
theorem dX11_breakPane_21 : decode mX11_breakPane.2.1 21 = .ok (.ifCond .eq 6, 3) := by decide +kernel
theorem dX11_breakPane_24 : decode mX11_breakPane.2.1 24 = .ok (.bipush (-2), 2) := by decide +kernel
theorem dX11_breakPane_26 : decode mX11_breakPane.2.1 26 = .ok (.ireturn, 1) := by decide +kernel
theorem dX11_breakPane_27 : decode mX11_breakPane.2.1 27 = .ok (.aload_n 0, 1) := by decide +kernel
theorem dX11_breakPane_28 : decode mX11_breakPane.2.1 28 = .ok (.getfield 35, 3) := by decide +kernel
theorem dX11_breakPane_31 : decode mX11_breakPane.2.1 31 = .ok (.dup, 1) := by decide +kernel
theorem dX11_breakPane_32 : decode mX11_breakPane.2.1 32 = .ok (.getfield 259, 3) := by decide +kernel
theorem dX11_breakPane_35 : decode mX11_breakPane.2.1 35 = .ok (.iconst 1, 1) := by decide +kernel
theorem dX11_breakPane_36 : decode mX11_breakPane.2.1 36 = .ok (.iload_n 1, 1) := by decide +kernel
theorem dX11_breakPane_37 : decode mX11_breakPane.2.1 37 = .ok (.ishl, 1) := by decide +kernel
theorem dX11_breakPane_38 : decode mX11_breakPane.2.1 38 = .ok (.ior, 1) := by decide +kernel
theorem dX11_breakPane_39 : decode mX11_breakPane.2.1 39 = .ok (.putfield 259, 3) := by decide +kernel
theorem dX11_breakPane_42 : decode mX11_breakPane.2.1 42 = .ok (.aload_n 0, 1) := by decide +kernel
theorem dX11_breakPane_43 : decode mX11_breakPane.2.1 43 = .ok (.getfield 35, 3) := by decide +kernel
theorem dX11_breakPane_46 : decode mX11_breakPane.2.1 46 = .ok (.getfield 259, 3) := by decide +kernel
theorem dX11_breakPane_49 : decode mX11_breakPane.2.1 49 = .ok (.invokestatic 254, 3) := by decide +kernel
theorem dX11_breakPane_52 : decode mX11_breakPane.2.1 52 = .ok (.ireturn, 1) := by decide +kernel
theorem dX11_carryThing_0 : decode mX11_carryThing.2.1 0 = .ok (.aload_n 0, 1) := by decide +kernel
theorem dX11_carryThing_1 : decode mX11_carryThing.2.1 1 = .ok (.getfield 28, 3) := by decide +kernel
theorem dX11_carryThing_4 : decode mX11_carryThing.2.1 4 = .ok (.iload_n 1, 1) := by decide +kernel
theorem dX11_carryThing_5 : decode mX11_carryThing.2.1 5 = .ok (.invokevirtual 164, 3) := by decide +kernel
theorem dX11_carryThing_8 : decode mX11_carryThing.2.1 8 = .ok (.ifCond .eq 23, 3) := by decide +kernel
theorem dX11_carryThing_11 : decode mX11_carryThing.2.1 11 = .ok (.aload_n 0, 1) := by decide +kernel
theorem dX11_carryThing_12 : decode mX11_carryThing.2.1 12 = .ok (.getfield 28, 3) := by decide +kernel
theorem dX11_carryThing_15 : decode mX11_carryThing.2.1 15 = .ok (.iload_n 2, 1) := by decide +kernel
theorem dX11_carryThing_16 : decode mX11_carryThing.2.1 16 = .ok (.invokevirtual 263, 3) := by decide +kernel
theorem dX11_carryThing_19 : decode mX11_carryThing.2.1 19 = .ok (.ifCond .eq 12, 3) := by decide +kernel
theorem dX11_carryThing_22 : decode mX11_carryThing.2.1 22 = .ok (.iload_n 3, 1) := by decide +kernel
theorem dX11_carryThing_23 : decode mX11_carryThing.2.1 23 = .ok (.ifCond .lt 8, 3) := by decide +kernel
theorem dX11_carryThing_26 : decode mX11_carryThing.2.1 26 = .ok (.iload_n 3, 1) := by decide +kernel
theorem dX11_carryThing_27 : decode mX11_carryThing.2.1 27 = .ok (.iconst 5, 1) := by decide +kernel
theorem dX11_carryThing_28 : decode mX11_carryThing.2.1 28 = .ok (.if_icmp .lt 5, 3) := by decide +kernel
theorem dX11_carryThing_31 : decode mX11_carryThing.2.1 31 = .ok (.iconst (-1), 1) := by decide +kernel
theorem dX11_carryThing_32 : decode mX11_carryThing.2.1 32 = .ok (.ireturn, 1) := by decide +kernel
theorem dX11_carryThing_33 : decode mX11_carryThing.2.1 33 = .ok (.aload_n 0, 1) := by decide +kernel
theorem dX11_carryThing_34 : decode mX11_carryThing.2.1 34 = .ok (.getfield 35, 3) := by decide +kernel
theorem dX11_carryThing_37 : decode mX11_carryThing.2.1 37 = .ok (.getfield 177, 3) := by decide +kernel
theorem dX11_carryThing_40 : decode mX11_carryThing.2.1 40 = .ok (.iload_n 1, 1) := by decide +kernel
theorem dX11_carryThing_41 : decode mX11_carryThing.2.1 41 = .ok (.iaload, 1) := by decide +kernel
theorem dX11_carryThing_42 : decode mX11_carryThing.2.1 42 = .ok (.istore 4, 2) := by decide +kernel
theorem dX11_carryThing_44 : decode mX11_carryThing.2.1 44 = .ok (.aload_n 0, 1) := by decide +kernel
theorem dX11_carryThing_45 : decode mX11_carryThing.2.1 45 = .ok (.getfield 35, 3) := by decide +kernel
theorem dX11_carryThing_48 : decode mX11_carryThing.2.1 48 = .ok (.getfield 177, 3) := by decide +kernel
theorem dX11_carryThing_51 : decode mX11_carryThing.2.1 51 = .ok (.iload_n 1, 1) := by decide +kernel
theorem dX11_carryThing_52 : decode mX11_carryThing.2.1 52 = .ok (.iload_n 2, 1) := by decide +kernel
theorem dX11_carryThing_53 : decode mX11_carryThing.2.1 53 = .ok (.iastore, 1) := by decide +kernel
theorem dX11_carryThing_54 : decode mX11_carryThing.2.1 54 = .ok (.aload_n 0, 1) := by decide +kernel
theorem dX11_carryThing_55 : decode mX11_carryThing.2.1 55 = .ok (.getfield 35, 3) := by decide +kernel
theorem dX11_carryThing_58 : decode mX11_carryThing.2.1 58 = .ok (.getfield 180, 3) := by decide +kernel
theorem dX11_carryThing_61 : decode mX11_carryThing.2.1 61 = .ok (.iload_n 1, 1) := by decide +kernel
theorem dX11_carryThing_62 : decode mX11_carryThing.2.1 62 = .ok (.iload_n 3, 1) := by decide +kernel
theorem dX11_carryThing_63 : decode mX11_carryThing.2.1 63 = .ok (.iastore, 1) := by decide +kernel
theorem dX11_carryThing_64 : decode mX11_carryThing.2.1 64 = .ok (.iload 4, 2) := by decide +kernel
theorem dX11_carryThing_66 : decode mX11_carryThing.2.1 66 = .ok (.ireturn, 1) := by decide +kernel
theorem dX11_hours_0 : decode mX11_hours.2.1 0 = .ok (.iload_n 1, 1) := by decide +kernel
theorem dX11_hours_1 : decode mX11_hours.2.1 1 = .ok (.ifCond .lt 9, 3) := by decide +kernel
theorem dX11_hours_4 : decode mX11_hours.2.1 4 = .ok (.iload_n 1, 1) := by decide +kernel
theorem dX11_hours_5 : decode mX11_hours.2.1 5 = .ok (.bipush 60, 2) := by decide +kernel
theorem dX11_hours_7 : decode mX11_hours.2.1 7 = .ok (.if_icmp .le 5, 3) := by decide +kernel
theorem dX11_hours_10 : decode mX11_hours.2.1 10 = .ok (.iconst (-1), 1) := by decide +kernel
theorem dX11_hours_11 : decode mX11_hours.2.1 11 = .ok (.ireturn, 1) := by decide +kernel
theorem dX11_hours_12 : decode mX11_hours.2.1 12 = .ok (.aload_n 0, 1) := by decide +kernel
theorem dX11_hours_13 : decode mX11_hours.2.1 13 = .ok (.getfield 48, 3) := by decide +kernel
theorem dX11_hours_16 : decode mX11_hours.2.1 16 = .ok (.aload_n 0, 1) := by decide +kernel
theorem dX11_hours_17 : decode mX11_hours.2.1 17 = .ok (.getfield 35, 3) := by decide +kernel
theorem dX11_hours_20 : decode mX11_hours.2.1 20 = .ok (.invokevirtual 251, 3) := by decide +kernel
theorem dX11_hours_23 : decode mX11_hours.2.1 23 = .ok (.aload_n 0, 1) := by decide +kernel
theorem dX11_hours_24 : decode mX11_hours.2.1 24 = .ok (.getfield 55, 3) := by decide +kernel
theorem dX11_hours_27 : decode mX11_hours.2.1 27 = .ok (.invokevirtual 266, 3) := by decide +kernel
theorem dX11_hours_30 : decode mX11_hours.2.1 30 = .ok (.iconst 0, 1) := by decide +kernel
theorem dX11_hours_31 : decode mX11_hours.2.1 31 = .ok (.istore_n 2, 1) := by decide +kernel
theorem dX11_hours_32 : decode mX11_hours.2.1 32 = .ok (.iload_n 2, 1) := by decide +kernel
theorem dX11_hours_33 : decode mX11_hours.2.1 33 = .ok (.aload_n 0, 1) := by decide +kernel
theorem dX11_hours_34 : decode mX11_hours.2.1 34 = .ok (.getfield 28, 3) := by decide +kernel
theorem dX11_hours_37 : decode mX11_hours.2.1 37 = .ok (.getfield 267, 3) := by decide +kernel
theorem dX11_hours_40 : decode mX11_hours.2.1 40 = .ok (.if_icmp .ge 17, 3) := by decide +kernel
theorem dX11_hours_43 : decode mX11_hours.2.1 43 = .ok (.aload_n 0, 1) := by decide +kernel
theorem dX11_hours_44 : decode mX11_hours.2.1 44 = .ok (.getfield 55, 3) := by decide +kernel
theorem dX11_hours_47 : decode mX11_hours.2.1 47 = .ok (.lconst 0, 1) := by decide +kernel
theorem dX11_hours_48 : decode mX11_hours.2.1 48 = .ok (.invokevirtual 270, 3) := by decide +kernel
theorem dX11_hours_51 : decode mX11_hours.2.1 51 = .ok (.iinc 2 1, 3) := by decide +kernel
theorem dX11_hours_54 : decode mX11_hours.2.1 54 = .ok (.goto (-22), 3) := by decide +kernel
theorem dX11_hours_57 : decode mX11_hours.2.1 57 = .ok (.iconst 0, 1) := by decide +kernel
theorem dX11_hours_58 : decode mX11_hours.2.1 58 = .ok (.istore_n 2, 1) := by decide +kernel
theorem dX11_hours_59 : decode mX11_hours.2.1 59 = .ok (.iload_n 2, 1) := by decide +kernel
theorem dX11_hours_60 : decode mX11_hours.2.1 60 = .ok (.iload_n 1, 1) := by decide +kernel
theorem dX11_hours_61 : decode mX11_hours.2.1 61 = .ok (.if_icmp .ge 60, 3) := by decide +kernel
theorem dX11_hours_64 : decode mX11_hours.2.1 64 = .ok (.aload_n 0, 1) := by decide +kernel
theorem dX11_hours_65 : decode mX11_hours.2.1 65 = .ok (.getfield 28, 3) := by decide +kernel
theorem dX11_hours_68 : decode mX11_hours.2.1 68 = .ok (.aload_n 0, 1) := by decide +kernel
theorem dX11_hours_69 : decode mX11_hours.2.1 69 = .ok (.getfield 35, 3) := by decide +kernel
theorem dX11_hours_72 : decode mX11_hours.2.1 72 = .ok (.invokevirtual 273, 3) := by decide +kernel
theorem dX11_hours_75 : decode mX11_hours.2.1 75 = .ok (.iconst 0, 1) := by decide +kernel
theorem dX11_hours_76 : decode mX11_hours.2.1 76 = .ok (.istore_n 3, 1) := by decide +kernel
theorem dX11_hours_77 : decode mX11_hours.2.1 77 = .ok (.iload_n 3, 1) := by decide +kernel
theorem dX11_hours_78 : decode mX11_hours.2.1 78 = .ok (.aload_n 0, 1) := by decide +kernel
theorem dX11_hours_79 : decode mX11_hours.2.1 79 = .ok (.getfield 28, 3) := by decide +kernel
theorem dX11_hours_82 : decode mX11_hours.2.1 82 = .ok (.getfield 267, 3) := by decide +kernel
theorem dX11_hours_85 : decode mX11_hours.2.1 85 = .ok (.if_icmp .ge 30, 3) := by decide +kernel
theorem dX11_hours_88 : decode mX11_hours.2.1 88 = .ok (.aload_n 0, 1) := by decide +kernel
theorem dX11_hours_89 : decode mX11_hours.2.1 89 = .ok (.getfield 55, 3) := by decide +kernel
theorem dX11_hours_92 : decode mX11_hours.2.1 92 = .ok (.iload_n 3, 1) := by decide +kernel
theorem dX11_hours_93 : decode mX11_hours.2.1 93 = .ok (.aload_n 0, 1) := by decide +kernel
theorem dX11_hours_94 : decode mX11_hours.2.1 94 = .ok (.getfield 28, 3) := by decide +kernel
theorem dX11_hours_97 : decode mX11_hours.2.1 97 = .ok (.aload_n 0, 1) := by decide +kernel
theorem dX11_hours_98 : decode mX11_hours.2.1 98 = .ok (.getfield 35, 3) := by decide +kernel
theorem dX11_hours_101 : decode mX11_hours.2.1 101 = .ok (.iload_n 3, 1) := by decide +kernel
theorem dX11_hours_102 : decode mX11_hours.2.1 102 = .ok (.invokevirtual 221, 3) := by decide +kernel
theorem dX11_hours_105 : decode mX11_hours.2.1 105 = .ok (.i2l, 1) := by decide +kernel
theorem dX11_hours_106 : decode mX11_hours.2.1 106 = .ok (.invokevirtual 276, 3) := by decide +kernel
theorem dX11_hours_109 : decode mX11_hours.2.1 109 = .ok (.iinc 3 1, 3) := by decide +kernel
theorem dX11_hours_112 : decode mX11_hours.2.1 112 = .ok (.goto (-35), 3) := by decide +kernel
theorem dX11_hours_115 : decode mX11_hours.2.1 115 = .ok (.iinc 2 1, 3) := by decide +kernel
theorem dX11_hours_118 : decode mX11_hours.2.1 118 = .ok (.goto (-59), 3) := by decide +kernel
theorem dX11_hours_121 : decode mX11_hours.2.1 121 = .ok (.aload_n 0, 1) := by decide +kernel
theorem dX11_hours_122 : decode mX11_hours.2.1 122 = .ok (.getfield 35, 3) := by decide +kernel
theorem dX11_hours_125 : decode mX11_hours.2.1 125 = .ok (.getfield 280, 3) := by decide +kernel
theorem dX11_hours_128 : decode mX11_hours.2.1 128 = .ok (.ireturn, 1) := by decide +kernel
theorem dX11_day_0 : decode mX11_day.2.1 0 = .ok (.aload_n 0, 1) := by decide +kernel
theorem dX11_day_1 : decode mX11_day.2.1 1 = .ok (.invokevirtual 283, 3) := by decide +kernel
theorem dX11_day_4 : decode mX11_day.2.1 4 = .ok (.istore_n 1, 1) := by decide +kernel
theorem dX11_day_5 : decode mX11_day.2.1 5 = .ok (.iload_n 1, 1) := by decide +kernel
theorem dX11_day_6 : decode mX11_day.2.1 6 = .ok (.ifCond .ne 8, 3) := by decide +kernel
theorem dX11_day_9 : decode mX11_day.2.1 9 = .ok (.aload_n 0, 1) := by decide +kernel
theorem dX11_day_10 : decode mX11_day.2.1 10 = .ok (.invokevirtual 286, 3) := by decide +kernel
theorem dX11_day_13 : decode mX11_day.2.1 13 = .ok (.istore_n 1, 1) := by decide +kernel
theorem dX11_day_14 : decode mX11_day.2.1 14 = .ok (.aload_n 0, 1) := by decide +kernel
theorem dX11_day_15 : decode mX11_day.2.1 15 = .ok (.getfield 10, 3) := by decide +kernel
theorem dX11_day_18 : decode mX11_day.2.1 18 = .ok (.invokevirtual 115, 3) := by decide +kernel
theorem dX11_day_21 : decode mX11_day.2.1 21 = .ok (.iload_n 1, 1) := by decide +kernel
theorem dX11_day_22 : decode mX11_day.2.1 22 = .ok (.ireturn, 1) := by decide +kernel
theorem dX11_readDay_0 : decode mX11_readDay.2.1 0 = .ok (.aload_n 0, 1) := by decide +kernel
theorem dX11_readDay_1 : decode mX11_readDay.2.1 1 = .ok (.getfield 21, 3) := by decide +kernel
theorem dX11_readDay_4 : decode mX11_readDay.2.1 4 = .ok (.bipush 60, 2) := by decide +kernel
theorem dX11_readDay_6 : decode mX11_readDay.2.1 6 = .ok (.invokevirtual 104, 3) := by decide +kernel
theorem dX11_readDay_9 : decode mX11_readDay.2.1 9 = .ok (.iconst 0, 1) := by decide +kernel
theorem dX11_readDay_10 : decode mX11_readDay.2.1 10 = .ok (.istore_n 1, 1) := by decide +kernel
theorem dX11_readDay_11 : decode mX11_readDay.2.1 11 = .ok (.iload_n 1, 1) := by decide +kernel
theorem dX11_readDay_12 : decode mX11_readDay.2.1 12 = .ok (.bipush 60, 2) := by decide +kernel
theorem dX11_readDay_14 : decode mX11_readDay.2.1 14 = .ok (.if_icmp .ge 27, 3) := by decide +kernel
theorem dX11_readDay_17 : decode mX11_readDay.2.1 17 = .ok (.aload_n 0, 1) := by decide +kernel
theorem dX11_readDay_18 : decode mX11_readDay.2.1 18 = .ok (.getfield 21, 3) := by decide +kernel
theorem dX11_readDay_21 : decode mX11_readDay.2.1 21 = .ok (.invokevirtual 289, 3) := by decide +kernel
theorem dX11_readDay_24 : decode mX11_readDay.2.1 24 = .ok (.iconst (-1), 1) := by decide +kernel
theorem dX11_readDay_25 : decode mX11_readDay.2.1 25 = .ok (.if_icmp .eq 16, 3) := by decide +kernel
theorem dX11_readDay_28 : decode mX11_readDay.2.1 28 = .ok (.aload_n 0, 1) := by decide +kernel
theorem dX11_readDay_29 : decode mX11_readDay.2.1 29 = .ok (.getfield 21, 3) := by decide +kernel
theorem dX11_readDay_32 : decode mX11_readDay.2.1 32 = .ok (.invokevirtual 292, 3) := by decide +kernel
theorem dX11_readDay_35 : decode mX11_readDay.2.1 35 = .ok (.iinc 1 1, 3) := by decide +kernel
theorem dX11_readDay_38 : decode mX11_readDay.2.1 38 = .ok (.goto (-27), 3) := by decide +kernel
theorem dX11_readDay_41 : decode mX11_readDay.2.1 41 = .ok (.aload_n 0, 1) := by decide +kernel
theorem dX11_readDay_42 : decode mX11_readDay.2.1 42 = .ok (.getfield 21, 3) := by decide +kernel
theorem dX11_readDay_45 : decode mX11_readDay.2.1 45 = .ok (.iconst 0, 1) := by decide +kernel
theorem dX11_readDay_46 : decode mX11_readDay.2.1 46 = .ok (.invokevirtual 112, 3) := by decide +kernel
theorem dX11_readDay_49 : decode mX11_readDay.2.1 49 = .ok (.ireturn, 1) := by decide +kernel
theorem dX11_liveDay_0 : decode mX11_liveDay.2.1 0 = .ok (.aload_n 0, 1) := by decide +kernel
theorem dX11_liveDay_1 : decode mX11_liveDay.2.1 1 = .ok (.getfield 39, 3) := by decide +kernel
theorem dX11_liveDay_4 : decode mX11_liveDay.2.1 4 = .ok (.aload_n 0, 1) := by decide +kernel
theorem dX11_liveDay_5 : decode mX11_liveDay.2.1 5 = .ok (.getfield 35, 3) := by decide +kernel
theorem dX11_liveDay_8 : decode mX11_liveDay.2.1 8 = .ok (.invokevirtual 231, 3) := by decide +kernel
theorem dX11_liveDay_11 : decode mX11_liveDay.2.1 11 = .ok (.aload_n 0, 1) := by decide +kernel
theorem dX11_liveDay_12 : decode mX11_liveDay.2.1 12 = .ok (.getfield 21, 3) := by decide +kernel
theorem dX11_liveDay_15 : decode mX11_liveDay.2.1 15 = .ok (.bipush 60, 2) := by decide +kernel
theorem dX11_liveDay_17 : decode mX11_liveDay.2.1 17 = .ok (.invokevirtual 104, 3) := by decide +kernel
theorem dX11_liveDay_20 : decode mX11_liveDay.2.1 20 = .ok (.iconst 0, 1) := by decide +kernel
theorem dX11_liveDay_21 : decode mX11_liveDay.2.1 21 = .ok (.istore_n 1, 1) := by decide +kernel
theorem dX11_liveDay_22 : decode mX11_liveDay.2.1 22 = .ok (.iconst 0, 1) := by decide +kernel
theorem dX11_liveDay_23 : decode mX11_liveDay.2.1 23 = .ok (.istore_n 2, 1) := by decide +kernel
theorem dX11_liveDay_24 : decode mX11_liveDay.2.1 24 = .ok (.iconst 0, 1) := by decide +kernel
theorem dX11_liveDay_25 : decode mX11_liveDay.2.1 25 = .ok (.istore_n 3, 1) := by decide +kernel
theorem dX11_liveDay_26 : decode mX11_liveDay.2.1 26 = .ok (.iload_n 3, 1) := by decide +kernel
theorem dX11_liveDay_27 : decode mX11_liveDay.2.1 27 = .ok (.bipush 60, 2) := by decide +kernel
theorem dX11_liveDay_29 : decode mX11_liveDay.2.1 29 = .ok (.if_icmp .ge 49, 3) := by decide +kernel
theorem dX11_liveDay_32 : decode mX11_liveDay.2.1 32 = .ok (.iload_n 2, 1) := by decide +kernel
theorem dX11_liveDay_33 : decode mX11_liveDay.2.1 33 = .ok (.ifCond .ne 45, 3) := by decide +kernel
theorem dX11_liveDay_36 : decode mX11_liveDay.2.1 36 = .ok (.aload_n 0, 1) := by decide +kernel
theorem dX11_liveDay_37 : decode mX11_liveDay.2.1 37 = .ok (.getfield 21, 3) := by decide +kernel
theorem dX11_liveDay_40 : decode mX11_liveDay.2.1 40 = .ok (.invokevirtual 289, 3) := by decide +kernel
theorem dX11_liveDay_43 : decode mX11_liveDay.2.1 43 = .ok (.iconst (-1), 1) := by decide +kernel
theorem dX11_liveDay_44 : decode mX11_liveDay.2.1 44 = .ok (.if_icmp .eq 34, 3) := by decide +kernel
theorem dX11_liveDay_47 : decode mX11_liveDay.2.1 47 = .ok (.aload_n 0, 1) := by decide +kernel
theorem dX11_liveDay_48 : decode mX11_liveDay.2.1 48 = .ok (.invokevirtual 295, 3) := by decide +kernel
theorem dX11_liveDay_51 : decode mX11_liveDay.2.1 51 = .ok (.ifCond .ge 7, 3) := by decide +kernel
theorem dX11_liveDay_54 : decode mX11_liveDay.2.1 54 = .ok (.iconst 1, 1) := by decide +kernel
theorem dX11_liveDay_55 : decode mX11_liveDay.2.1 55 = .ok (.goto 4, 3) := by decide +kernel
theorem dX11_liveDay_58 : decode mX11_liveDay.2.1 58 = .ok (.iconst 0, 1) := by decide +kernel
theorem dX11_liveDay_59 : decode mX11_liveDay.2.1 59 = .ok (.istore_n 2, 1) := by decide +kernel
theorem dX11_liveDay_60 : decode mX11_liveDay.2.1 60 = .ok (.iload_n 1, 1) := by decide +kernel
theorem dX11_liveDay_61 : decode mX11_liveDay.2.1 61 = .ok (.iload_n 2, 1) := by decide +kernel
theorem dX11_liveDay_62 : decode mX11_liveDay.2.1 62 = .ok (.ifCond .eq 7, 3) := by decide +kernel
theorem dX11_liveDay_65 : decode mX11_liveDay.2.1 65 = .ok (.iconst 0, 1) := by decide +kernel
theorem dX11_liveDay_66 : decode mX11_liveDay.2.1 66 = .ok (.goto 4, 3) := by decide +kernel
theorem dX11_liveDay_69 : decode mX11_liveDay.2.1 69 = .ok (.iconst 1, 1) := by decide +kernel
theorem dX11_liveDay_70 : decode mX11_liveDay.2.1 70 = .ok (.iadd, 1) := by decide +kernel
theorem dX11_liveDay_71 : decode mX11_liveDay.2.1 71 = .ok (.istore_n 1, 1) := by decide +kernel
theorem dX11_liveDay_72 : decode mX11_liveDay.2.1 72 = .ok (.iinc 3 1, 3) := by decide +kernel
theorem dX11_liveDay_75 : decode mX11_liveDay.2.1 75 = .ok (.goto (-49), 3) := by decide +kernel
theorem dX11_liveDay_78 : decode mX11_liveDay.2.1 78 = .ok (.iload_n 1, 1) := by decide +kernel
theorem dX11_liveDay_79 : decode mX11_liveDay.2.1 79 = .ok (.ifCond .le 14, 3) := by decide +kernel
theorem dX11_liveDay_82 : decode mX11_liveDay.2.1 82 = .ok (.aload_n 0, 1) := by decide +kernel
theorem dX11_liveDay_83 : decode mX11_liveDay.2.1 83 = .ok (.getfield 48, 3) := by decide +kernel
theorem dX11_liveDay_86 : decode mX11_liveDay.2.1 86 = .ok (.aload_n 0, 1) := by decide +kernel
theorem dX11_liveDay_87 : decode mX11_liveDay.2.1 87 = .ok (.getfield 39, 3) := by decide +kernel
theorem dX11_liveDay_90 : decode mX11_liveDay.2.1 90 = .ok (.invokevirtual 251, 3) := by decide +kernel
theorem dX11_liveDay_93 : decode mX11_liveDay.2.1 93 = .ok (.aload_n 0, 1) := by decide +kernel
theorem dX11_liveDay_94 : decode mX11_liveDay.2.1 94 = .ok (.getfield 55, 3) := by decide +kernel
theorem dX11_liveDay_97 : decode mX11_liveDay.2.1 97 = .ok (.iload_n 2, 1) := by decide +kernel
theorem dX11_liveDay_98 : decode mX11_liveDay.2.1 98 = .ok (.ifCond .eq 7, 3) := by decide +kernel
theorem dX11_liveDay_101 : decode mX11_liveDay.2.1 101 = .ok (.lconst 1, 1) := by decide +kernel
theorem dX11_liveDay_102 : decode mX11_liveDay.2.1 102 = .ok (.goto 4, 3) := by decide +kernel
theorem dX11_liveDay_105 : decode mX11_liveDay.2.1 105 = .ok (.lconst 0, 1) := by decide +kernel
theorem dX11_liveDay_106 : decode mX11_liveDay.2.1 106 = .ok (.aload_n 0, 1) := by decide +kernel
theorem dX11_liveDay_107 : decode mX11_liveDay.2.1 107 = .ok (.getfield 35, 3) := by decide +kernel
theorem dX11_liveDay_110 : decode mX11_liveDay.2.1 110 = .ok (.getfield 280, 3) := by decide +kernel
theorem dX11_liveDay_113 : decode mX11_liveDay.2.1 113 = .ok (.i2l, 1) := by decide +kernel
theorem dX11_liveDay_114 : decode mX11_liveDay.2.1 114 = .ok (.invokevirtual 298, 3) := by decide +kernel
theorem dX11_liveDay_117 : decode mX11_liveDay.2.1 117 = .ok (.iload_n 1, 1) := by decide +kernel
theorem dX11_liveDay_118 : decode mX11_liveDay.2.1 118 = .ok (.ireturn, 1) := by decide +kernel
theorem dX11_doAct_0 : decode mX11_doAct.2.1 0 = .ok (.aload_n 0, 1) := by decide +kernel
theorem dX11_doAct_1 : decode mX11_doAct.2.1 1 = .ok (.getfield 21, 3) := by decide +kernel
theorem dX11_doAct_4 : decode mX11_doAct.2.1 4 = .ok (.bipush 104, 2) := by decide +kernel
theorem dX11_doAct_6 : decode mX11_doAct.2.1 6 = .ok (.invokevirtual 302, 3) := by decide +kernel
theorem dX11_doAct_9 : decode mX11_doAct.2.1 9 = .ok (.ifCond .eq 17, 3) := by decide +kernel
theorem dX11_doAct_12 : decode mX11_doAct.2.1 12 = .ok (.aload_n 0, 1) := by decide +kernel
theorem dX11_doAct_13 : decode mX11_doAct.2.1 13 = .ok (.aload_n 0, 1) := by decide +kernel
theorem dX11_doAct_14 : decode mX11_doAct.2.1 14 = .ok (.getfield 21, 3) := by decide +kernel
theorem dX11_doAct_17 : decode mX11_doAct.2.1 17 = .ok (.bipush 10, 2) := by decide +kernel
theorem dX11_doAct_19 : decode mX11_doAct.2.1 19 = .ok (.invokevirtual 305, 3) := by decide +kernel
theorem dX11_doAct_22 : decode mX11_doAct.2.1 22 = .ok (.invokevirtual 308, 3) := by decide +kernel
theorem dX11_doAct_25 : decode mX11_doAct.2.1 25 = .ok (.ireturn, 1) := by decide +kernel
theorem dX11_doAct_26 : decode mX11_doAct.2.1 26 = .ok (.aload_n 0, 1) := by decide +kernel
theorem dX11_doAct_27 : decode mX11_doAct.2.1 27 = .ok (.getfield 21, 3) := by decide +kernel
theorem dX11_doAct_30 : decode mX11_doAct.2.1 30 = .ok (.bipush 112, 2) := by decide +kernel
theorem dX11_doAct_32 : decode mX11_doAct.2.1 32 = .ok (.invokevirtual 302, 3) := by decide +kernel
theorem dX11_doAct_35 : decode mX11_doAct.2.1 35 = .ok (.ifCond .eq 26, 3) := by decide +kernel
theorem dX11_doAct_38 : decode mX11_doAct.2.1 38 = .ok (.aload_n 0, 1) := by decide +kernel
theorem dX11_doAct_39 : decode mX11_doAct.2.1 39 = .ok (.aload_n 0, 1) := by decide +kernel
theorem dX11_doAct_40 : decode mX11_doAct.2.1 40 = .ok (.getfield 21, 3) := by decide +kernel
theorem dX11_doAct_43 : decode mX11_doAct.2.1 43 = .ok (.bipush 10, 2) := by decide +kernel
theorem dX11_doAct_45 : decode mX11_doAct.2.1 45 = .ok (.invokevirtual 305, 3) := by decide +kernel
theorem dX11_doAct_48 : decode mX11_doAct.2.1 48 = .ok (.aload_n 0, 1) := by decide +kernel
theorem dX11_doAct_49 : decode mX11_doAct.2.1 49 = .ok (.getfield 21, 3) := by decide +kernel
theorem dX11_doAct_52 : decode mX11_doAct.2.1 52 = .ok (.bipush 10, 2) := by decide +kernel
theorem dX11_doAct_54 : decode mX11_doAct.2.1 54 = .ok (.invokevirtual 305, 3) := by decide +kernel
theorem dX11_doAct_57 : decode mX11_doAct.2.1 57 = .ok (.invokevirtual 235, 3) := by decide +kernel
theorem dX11_doAct_60 : decode mX11_doAct.2.1 60 = .ok (.ireturn, 1) := by decide +kernel
theorem dX11_doAct_61 : decode mX11_doAct.2.1 61 = .ok (.aload_n 0, 1) := by decide +kernel
theorem dX11_doAct_62 : decode mX11_doAct.2.1 62 = .ok (.getfield 21, 3) := by decide +kernel
theorem dX11_doAct_65 : decode mX11_doAct.2.1 65 = .ok (.bipush 111, 2) := by decide +kernel
theorem dX11_doAct_67 : decode mX11_doAct.2.1 67 = .ok (.invokevirtual 302, 3) := by decide +kernel
theorem dX11_doAct_70 : decode mX11_doAct.2.1 70 = .ok (.ifCond .eq 17, 3) := by decide +kernel
theorem dX11_doAct_73 : decode mX11_doAct.2.1 73 = .ok (.aload_n 0, 1) := by decide +kernel
theorem dX11_doAct_74 : decode mX11_doAct.2.1 74 = .ok (.aload_n 0, 1) := by decide +kernel
theorem dX11_doAct_75 : decode mX11_doAct.2.1 75 = .ok (.getfield 21, 3) := by decide +kernel
theorem dX11_doAct_78 : decode mX11_doAct.2.1 78 = .ok (.bipush 10, 2) := by decide +kernel
theorem dX11_doAct_80 : decode mX11_doAct.2.1 80 = .ok (.invokevirtual 305, 3) := by decide +kernel
theorem dX11_doAct_83 : decode mX11_doAct.2.1 83 = .ok (.invokevirtual 241, 3) := by decide +kernel
theorem dX11_doAct_86 : decode mX11_doAct.2.1 86 = .ok (.ireturn, 1) := by decide +kernel
theorem dX11_doAct_87 : decode mX11_doAct.2.1 87 = .ok (.aload_n 0, 1) := by decide +kernel
theorem dX11_doAct_88 : decode mX11_doAct.2.1 88 = .ok (.getfield 21, 3) := by decide +kernel
theorem dX11_doAct_91 : decode mX11_doAct.2.1 91 = .ok (.bipush 98, 2) := by decide +kernel
theorem dX11_doAct_93 : decode mX11_doAct.2.1 93 = .ok (.invokevirtual 302, 3) := by decide +kernel
theorem dX11_doAct_96 : decode mX11_doAct.2.1 96 = .ok (.ifCond .eq 17, 3) := by decide +kernel
theorem dX11_doAct_99 : decode mX11_doAct.2.1 99 = .ok (.aload_n 0, 1) := by decide +kernel
theorem dX11_doAct_100 : decode mX11_doAct.2.1 100 = .ok (.aload_n 0, 1) := by decide +kernel
theorem dX11_doAct_101 : decode mX11_doAct.2.1 101 = .ok (.getfield 21, 3) := by decide +kernel
theorem dX11_doAct_104 : decode mX11_doAct.2.1 104 = .ok (.bipush 10, 2) := by decide +kernel
theorem dX11_doAct_106 : decode mX11_doAct.2.1 106 = .ok (.invokevirtual 305, 3) := by decide +kernel
theorem dX11_doAct_109 : decode mX11_doAct.2.1 109 = .ok (.invokevirtual 244, 3) := by decide +kernel
theorem dX11_doAct_112 : decode mX11_doAct.2.1 112 = .ok (.ireturn, 1) := by decide +kernel
theorem dX11_doAct_113 : decode mX11_doAct.2.1 113 = .ok (.aload_n 0, 1) := by decide +kernel
theorem dX11_doAct_114 : decode mX11_doAct.2.1 114 = .ok (.getfield 21, 3) := by decide +kernel
theorem dX11_doAct_117 : decode mX11_doAct.2.1 117 = .ok (.bipush 99, 2) := by decide +kernel
theorem dX11_doAct_119 : decode mX11_doAct.2.1 119 = .ok (.invokevirtual 302, 3) := by decide +kernel
theorem dX11_doAct_122 : decode mX11_doAct.2.1 122 = .ok (.ifCond .eq 10, 3) := by decide +kernel
theorem dX11_doAct_125 : decode mX11_doAct.2.1 125 = .ok (.aload_n 0, 1) := by decide +kernel
theorem dX11_doAct_126 : decode mX11_doAct.2.1 126 = .ok (.invokevirtual 311, 3) := by decide +kernel
theorem dX11_doAct_129 : decode mX11_doAct.2.1 129 = .ok (.goto 4, 3) := by decide +kernel
theorem dX11_doAct_132 : decode mX11_doAct.2.1 132 = .ok (.iconst (-1), 1) := by decide +kernel
theorem dX11_doAct_133 : decode mX11_doAct.2.1 133 = .ok (.ireturn, 1) := by decide +kernel
theorem dX11_passHours_0 : decode mX11_passHours.2.1 0 = .ok (.iconst 0, 1) := by decide +kernel
theorem dX11_passHours_1 : decode mX11_passHours.2.1 1 = .ok (.istore_n 2, 1) := by decide +kernel
theorem dX11_passHours_2 : decode mX11_passHours.2.1 2 = .ok (.iload_n 2, 1) := by decide +kernel
theorem dX11_passHours_3 : decode mX11_passHours.2.1 3 = .ok (.iload_n 1, 1) := by decide +kernel
theorem dX11_passHours_4 : decode mX11_passHours.2.1 4 = .ok (.if_icmp .ge 20, 3) := by decide +kernel
theorem dX11_passHours_7 : decode mX11_passHours.2.1 7 = .ok (.aload_n 0, 1) := by decide +kernel
theorem dX11_passHours_8 : decode mX11_passHours.2.1 8 = .ok (.getfield 28, 3) := by decide +kernel
theorem dX11_passHours_11 : decode mX11_passHours.2.1 11 = .ok (.aload_n 0, 1) := by decide +kernel
theorem dX11_passHours_12 : decode mX11_passHours.2.1 12 = .ok (.getfield 35, 3) := by decide +kernel
theorem dX11_passHours_15 : decode mX11_passHours.2.1 15 = .ok (.invokevirtual 273, 3) := by decide +kernel
theorem dX11_passHours_18 : decode mX11_passHours.2.1 18 = .ok (.iinc 2 1, 3) := by decide +kernel
theorem dX11_passHours_21 : decode mX11_passHours.2.1 21 = .ok (.goto (-19), 3) := by decide +kernel
theorem dX11_passHours_24 : decode mX11_passHours.2.1 24 = .ok (.aload_n 0, 1) := by decide +kernel
theorem dX11_passHours_25 : decode mX11_passHours.2.1 25 = .ok (.getfield 35, 3) := by decide +kernel
theorem dX11_passHours_28 : decode mX11_passHours.2.1 28 = .ok (.getfield 280, 3) := by decide +kernel
theorem dX11_passHours_31 : decode mX11_passHours.2.1 31 = .ok (.ireturn, 1) := by decide +kernel
theorem dX11_carryAsTold_0 : decode mX11_carryAsTold.2.1 0 = .ok (.aload_n 0, 1) := by decide +kernel
theorem dX11_carryAsTold_1 : decode mX11_carryAsTold.2.1 1 = .ok (.getfield 21, 3) := by decide +kernel
theorem dX11_carryAsTold_4 : decode mX11_carryAsTold.2.1 4 = .ok (.bipush 10, 2) := by decide +kernel
theorem dX11_carryAsTold_6 : decode mX11_carryAsTold.2.1 6 = .ok (.invokevirtual 305, 3) := by decide +kernel
theorem dX11_carryAsTold_9 : decode mX11_carryAsTold.2.1 9 = .ok (.istore_n 1, 1) := by decide +kernel
theorem dX11_carryAsTold_10 : decode mX11_carryAsTold.2.1 10 = .ok (.aload_n 0, 1) := by decide +kernel
theorem dX11_carryAsTold_11 : decode mX11_carryAsTold.2.1 11 = .ok (.getfield 21, 3) := by decide +kernel
theorem dX11_carryAsTold_14 : decode mX11_carryAsTold.2.1 14 = .ok (.bipush 10, 2) := by decide +kernel
theorem dX11_carryAsTold_16 : decode mX11_carryAsTold.2.1 16 = .ok (.invokevirtual 305, 3) := by decide +kernel
theorem dX11_carryAsTold_19 : decode mX11_carryAsTold.2.1 19 = .ok (.istore_n 2, 1) := by decide +kernel
theorem dX11_carryAsTold_20 : decode mX11_carryAsTold.2.1 20 = .ok (.aload_n 0, 1) := by decide +kernel
theorem dX11_carryAsTold_21 : decode mX11_carryAsTold.2.1 21 = .ok (.getfield 21, 3) := by decide +kernel
theorem dX11_carryAsTold_24 : decode mX11_carryAsTold.2.1 24 = .ok (.bipush 10, 2) := by decide +kernel
theorem dX11_carryAsTold_26 : decode mX11_carryAsTold.2.1 26 = .ok (.invokevirtual 305, 3) := by decide +kernel
theorem dX11_carryAsTold_29 : decode mX11_carryAsTold.2.1 29 = .ok (.istore_n 3, 1) := by decide +kernel
theorem dX11_carryAsTold_30 : decode mX11_carryAsTold.2.1 30 = .ok (.aload_n 0, 1) := by decide +kernel
theorem dX11_carryAsTold_31 : decode mX11_carryAsTold.2.1 31 = .ok (.getfield 21, 3) := by decide +kernel
theorem dX11_carryAsTold_34 : decode mX11_carryAsTold.2.1 34 = .ok (.invokevirtual 314, 3) := by decide +kernel
theorem dX11_carryAsTold_37 : decode mX11_carryAsTold.2.1 37 = .ok (.istore 4, 2) := by decide +kernel
theorem dX11_carryAsTold_39 : decode mX11_carryAsTold.2.1 39 = .ok (.iload_n 2, 1) := by decide +kernel
theorem dX11_carryAsTold_40 : decode mX11_carryAsTold.2.1 40 = .ok (.aload_n 0, 1) := by decide +kernel
theorem dX11_carryAsTold_41 : decode mX11_carryAsTold.2.1 41 = .ok (.getfield 28, 3) := by decide +kernel
theorem dX11_carryAsTold_44 : decode mX11_carryAsTold.2.1 44 = .ok (.getfield 316, 3) := by decide +kernel
theorem dX11_carryAsTold_47 : decode mX11_carryAsTold.2.1 47 = .ok (.if_icmp .ge 14, 3) := by decide +kernel
theorem dX11_carryAsTold_50 : decode mX11_carryAsTold.2.1 50 = .ok (.iload_n 3, 1) := by decide +kernel
theorem dX11_carryAsTold_51 : decode mX11_carryAsTold.2.1 51 = .ok (.aload_n 0, 1) := by decide +kernel
theorem dX11_carryAsTold_52 : decode mX11_carryAsTold.2.1 52 = .ok (.getfield 28, 3) := by decide +kernel
theorem dX11_carryAsTold_55 : decode mX11_carryAsTold.2.1 55 = .ok (.getfield 319, 3) := by decide +kernel
theorem dX11_carryAsTold_58 : decode mX11_carryAsTold.2.1 58 = .ok (.if_icmp .lt 5, 3) := by decide +kernel
theorem dX11_carryAsTold_61 : decode mX11_carryAsTold.2.1 61 = .ok (.iconst (-1), 1) := by decide +kernel
theorem dX11_carryAsTold_62 : decode mX11_carryAsTold.2.1 62 = .ok (.ireturn, 1) := by decide +kernel
theorem dX11_carryAsTold_63 : decode mX11_carryAsTold.2.1 63 = .ok (.aload_n 0, 1) := by decide +kernel
theorem dX11_carryAsTold_64 : decode mX11_carryAsTold.2.1 64 = .ok (.iload_n 1, 1) := by decide +kernel
theorem dX11_carryAsTold_65 : decode mX11_carryAsTold.2.1 65 = .ok (.iload_n 2, 1) := by decide +kernel
theorem dX11_carryAsTold_66 : decode mX11_carryAsTold.2.1 66 = .ok (.aload_n 0, 1) := by decide +kernel
theorem dX11_carryAsTold_67 : decode mX11_carryAsTold.2.1 67 = .ok (.getfield 28, 3) := by decide +kernel
theorem dX11_carryAsTold_70 : decode mX11_carryAsTold.2.1 70 = .ok (.getfield 319, 3) := by decide +kernel
theorem dX11_carryAsTold_73 : decode mX11_carryAsTold.2.1 73 = .ok (.imul, 1) := by decide +kernel
theorem dX11_carryAsTold_74 : decode mX11_carryAsTold.2.1 74 = .ok (.iload_n 3, 1) := by decide +kernel
theorem dX11_carryAsTold_75 : decode mX11_carryAsTold.2.1 75 = .ok (.iadd, 1) := by decide +kernel
theorem dX11_carryAsTold_76 : decode mX11_carryAsTold.2.1 76 = .ok (.iload 4, 2) := by decide +kernel
theorem dX11_carryAsTold_78 : decode mX11_carryAsTold.2.1 78 = .ok (.invokevirtual 247, 3) := by decide +kernel
theorem dX11_carryAsTold_81 : decode mX11_carryAsTold.2.1 81 = .ok (.ireturn, 1) := by decide +kernel
theorem dX11_undo_0 : decode mX11_undo.2.1 0 = .ok (.aload_n 0, 1) := by decide +kernel
theorem dX11_undo_1 : decode mX11_undo.2.1 1 = .ok (.getfield 48, 3) := by decide +kernel
theorem dX11_undo_4 : decode mX11_undo.2.1 4 = .ok (.aload_n 0, 1) := by decide +kernel
theorem dX11_undo_5 : decode mX11_undo.2.1 5 = .ok (.getfield 35, 3) := by decide +kernel
theorem dX11_undo_8 : decode mX11_undo.2.1 8 = .ok (.invokevirtual 322, 3) := by decide +kernel
theorem dX11_undo_11 : decode mX11_undo.2.1 11 = .ok (.ireturn, 1) := by decide +kernel
theorem dX11_ahead_0 : decode mX11_ahead.2.1 0 = .ok (.aload_n 0, 1) := by decide +kernel
theorem dX11_ahead_1 : decode mX11_ahead.2.1 1 = .ok (.getfield 28, 3) := by decide +kernel
theorem dX11_ahead_4 : decode mX11_ahead.2.1 4 = .ok (.iload_n 1, 1) := by decide +kernel
theorem dX11_ahead_5 : decode mX11_ahead.2.1 5 = .ok (.invokevirtual 209, 3) := by decide +kernel
theorem dX11_ahead_8 : decode mX11_ahead.2.1 8 = .ok (.ifCond .eq 13, 3) := by decide +kernel
theorem dX11_ahead_11 : decode mX11_ahead.2.1 11 = .ok (.iload_n 2, 1) := by decide +kernel
theorem dX11_ahead_12 : decode mX11_ahead.2.1 12 = .ok (.ifCond .lt 9, 3) := by decide +kernel
theorem dX11_ahead_15 : decode mX11_ahead.2.1 15 = .ok (.iload_n 2, 1) := by decide +kernel
theorem dX11_ahead_16 : decode mX11_ahead.2.1 16 = .ok (.bipush 99, 2) := by decide +kernel
theorem dX11_ahead_18 : decode mX11_ahead.2.1 18 = .ok (.if_icmp .le 5, 3) := by decide +kernel
theorem dX11_ahead_21 : decode mX11_ahead.2.1 21 = .ok (.iconst (-1), 1) := by decide +kernel
theorem dX11_ahead_22 : decode mX11_ahead.2.1 22 = .ok (.ireturn, 1) := by decide +kernel
theorem dX11_ahead_23 : decode mX11_ahead.2.1 23 = .ok (.aload_n 0, 1) := by decide +kernel
theorem dX11_ahead_24 : decode mX11_ahead.2.1 24 = .ok (.getfield 42, 3) := by decide +kernel
theorem dX11_ahead_27 : decode mX11_ahead.2.1 27 = .ok (.aload_n 0, 1) := by decide +kernel
theorem dX11_ahead_28 : decode mX11_ahead.2.1 28 = .ok (.getfield 35, 3) := by decide +kernel
theorem dX11_ahead_31 : decode mX11_ahead.2.1 31 = .ok (.invokevirtual 231, 3) := by decide +kernel
theorem dX11_ahead_34 : decode mX11_ahead.2.1 34 = .ok (.iconst 0, 1) := by decide +kernel
theorem dX11_ahead_35 : decode mX11_ahead.2.1 35 = .ok (.istore_n 3, 1) := by decide +kernel
theorem dX11_ahead_36 : decode mX11_ahead.2.1 36 = .ok (.iload_n 3, 1) := by decide +kernel
theorem dX11_ahead_37 : decode mX11_ahead.2.1 37 = .ok (.iload_n 2, 1) := by decide +kernel
theorem dX11_ahead_38 : decode mX11_ahead.2.1 38 = .ok (.if_icmp .ge 20, 3) := by decide +kernel
theorem dX11_ahead_41 : decode mX11_ahead.2.1 41 = .ok (.aload_n 0, 1) := by decide +kernel
theorem dX11_ahead_42 : decode mX11_ahead.2.1 42 = .ok (.getfield 28, 3) := by decide +kernel
theorem dX11_ahead_45 : decode mX11_ahead.2.1 45 = .ok (.aload_n 0, 1) := by decide +kernel
theorem dX11_ahead_46 : decode mX11_ahead.2.1 46 = .ok (.getfield 42, 3) := by decide +kernel
theorem dX11_ahead_49 : decode mX11_ahead.2.1 49 = .ok (.invokevirtual 273, 3) := by decide +kernel
theorem dX11_ahead_52 : decode mX11_ahead.2.1 52 = .ok (.iinc 3 1, 3) := by decide +kernel
theorem dX11_ahead_55 : decode mX11_ahead.2.1 55 = .ok (.goto (-19), 3) := by decide +kernel
theorem dX11_ahead_58 : decode mX11_ahead.2.1 58 = .ok (.aload_n 0, 1) := by decide +kernel
theorem dX11_ahead_59 : decode mX11_ahead.2.1 59 = .ok (.getfield 28, 3) := by decide +kernel
theorem dX11_ahead_62 : decode mX11_ahead.2.1 62 = .ok (.aload_n 0, 1) := by decide +kernel
theorem dX11_ahead_63 : decode mX11_ahead.2.1 63 = .ok (.getfield 42, 3) := by decide +kernel
theorem dX11_ahead_66 : decode mX11_ahead.2.1 66 = .ok (.iload_n 1, 1) := by decide +kernel
theorem dX11_ahead_67 : decode mX11_ahead.2.1 67 = .ok (.invokevirtual 221, 3) := by decide +kernel
theorem dX11_ahead_70 : decode mX11_ahead.2.1 70 = .ok (.istore_n 3, 1) := by decide +kernel
theorem dX11_ahead_71 : decode mX11_ahead.2.1 71 = .ok (.aload_n 0, 1) := by decide +kernel
theorem dX11_ahead_72 : decode mX11_ahead.2.1 72 = .ok (.getfield 28, 3) := by decide +kernel
theorem dX11_ahead_75 : decode mX11_ahead.2.1 75 = .ok (.aload_n 0, 1) := by decide +kernel
theorem dX11_ahead_76 : decode mX11_ahead.2.1 76 = .ok (.getfield 42, 3) := by decide +kernel
theorem dX11_ahead_79 : decode mX11_ahead.2.1 79 = .ok (.iload_n 1, 1) := by decide +kernel
theorem dX11_ahead_80 : decode mX11_ahead.2.1 80 = .ok (.invokevirtual 218, 3) := by decide +kernel
theorem dX11_ahead_83 : decode mX11_ahead.2.1 83 = .ok (.ifCond .eq 7, 3) := by decide +kernel
theorem dX11_ahead_86 : decode mX11_ahead.2.1 86 = .ok (.iconst 1, 1) := by decide +kernel
theorem dX11_ahead_87 : decode mX11_ahead.2.1 87 = .ok (.goto 4, 3) := by decide +kernel
theorem dX11_ahead_90 : decode mX11_ahead.2.1 90 = .ok (.iconst 0, 1) := by decide +kernel
theorem dX11_ahead_91 : decode mX11_ahead.2.1 91 = .ok (.istore 4, 2) := by decide +kernel
theorem dX11_ahead_93 : decode mX11_ahead.2.1 93 = .ok (.aload_n 0, 1) := by decide +kernel
theorem dX11_ahead_94 : decode mX11_ahead.2.1 94 = .ok (.getfield 55, 3) := by decide +kernel
theorem dX11_ahead_97 : decode mX11_ahead.2.1 97 = .ok (.iload_n 3, 1) := by decide +kernel
theorem dX11_ahead_98 : decode mX11_ahead.2.1 98 = .ok (.invokestatic 254, 3) := by decide +kernel
theorem dX11_ahead_101 : decode mX11_ahead.2.1 101 = .ok (.i2l, 1) := by decide +kernel
theorem dX11_ahead_102 : decode mX11_ahead.2.1 102 = .ok (.iload 4, 2) := by decide +kernel
theorem dX11_ahead_104 : decode mX11_ahead.2.1 104 = .ok (.ifCond .eq 19, 3) := by decide +kernel
theorem dX11_ahead_107 : decode mX11_ahead.2.1 107 = .ok (.aload_n 0, 1) := by decide +kernel
theorem dX11_ahead_108 : decode mX11_ahead.2.1 108 = .ok (.getfield 28, 3) := by decide +kernel
theorem dX11_ahead_111 : decode mX11_ahead.2.1 111 = .ok (.aload_n 0, 1) := by decide +kernel
theorem dX11_ahead_112 : decode mX11_ahead.2.1 112 = .ok (.getfield 42, 3) := by decide +kernel
theorem dX11_ahead_115 : decode mX11_ahead.2.1 115 = .ok (.iload_n 1, 1) := by decide +kernel
theorem dX11_ahead_116 : decode mX11_ahead.2.1 116 = .ok (.invokevirtual 224, 3) := by decide +kernel
theorem dX11_ahead_119 : decode mX11_ahead.2.1 119 = .ok (.i2l, 1) := by decide +kernel
theorem dX11_ahead_120 : decode mX11_ahead.2.1 120 = .ok (.goto 4, 3) := by decide +kernel
theorem dX11_ahead_123 : decode mX11_ahead.2.1 123 = .ok (.lconst 0, 1) := by decide +kernel
theorem dX11_ahead_124 : decode mX11_ahead.2.1 124 = .ok (.invokevirtual 298, 3) := by decide +kernel
theorem dX11_ahead_127 : decode mX11_ahead.2.1 127 = .ok (.iload_n 3, 1) := by decide +kernel
theorem dX11_ahead_128 : decode mX11_ahead.2.1 128 = .ok (.ireturn, 1) := by decide +kernel
theorem dX11_first_0 : decode mX11_first.2.1 0 = .ok (.aload_n 0, 1) := by decide +kernel
theorem dX11_first_1 : decode mX11_first.2.1 1 = .ok (.getfield 28, 3) := by decide +kernel
theorem dX11_first_4 : decode mX11_first.2.1 4 = .ok (.iload_n 1, 1) := by decide +kernel
theorem dX11_first_5 : decode mX11_first.2.1 5 = .ok (.invokevirtual 209, 3) := by decide +kernel
theorem dX11_first_8 : decode mX11_first.2.1 8 = .ok (.ifCond .eq 14, 3) := by decide +kernel
theorem dX11_first_11 : decode mX11_first.2.1 11 = .ok (.aload_n 0, 1) := by decide +kernel
theorem dX11_first_12 : decode mX11_first.2.1 12 = .ok (.getfield 28, 3) := by decide +kernel
theorem dX11_first_15 : decode mX11_first.2.1 15 = .ok (.iload_n 2, 1) := by decide +kernel
theorem dX11_first_16 : decode mX11_first.2.1 16 = .ok (.invokevirtual 164, 3) := by decide +kernel
theorem dX11_first_19 : decode mX11_first.2.1 19 = .ok (.ifCond .ne 5, 3) := by decide +kernel
theorem dX11_first_22 : decode mX11_first.2.1 22 = .ok (.iconst (-1), 1) := by decide +kernel
theorem dX11_first_23 : decode mX11_first.2.1 23 = .ok (.ireturn, 1) := by decide +kernel
theorem dX11_first_24 : decode mX11_first.2.1 24 = .ok (.aload_n 0, 1) := by decide +kernel
theorem dX11_first_25 : decode mX11_first.2.1 25 = .ok (.getfield 42, 3) := by decide +kernel
theorem dX11_first_28 : decode mX11_first.2.1 28 = .ok (.aload_n 0, 1) := by decide +kernel
theorem dX11_first_29 : decode mX11_first.2.1 29 = .ok (.getfield 35, 3) := by decide +kernel
theorem dX11_first_32 : decode mX11_first.2.1 32 = .ok (.invokevirtual 231, 3) := by decide +kernel
theorem dX11_first_35 : decode mX11_first.2.1 35 = .ok (.iconst 0, 1) := by decide +kernel
theorem dX11_first_36 : decode mX11_first.2.1 36 = .ok (.istore_n 3, 1) := by decide +kernel
theorem dX11_first_37 : decode mX11_first.2.1 37 = .ok (.iload_n 3, 1) := by decide +kernel
theorem dX11_first_38 : decode mX11_first.2.1 38 = .ok (.bipush 99, 2) := by decide +kernel
theorem dX11_first_40 : decode mX11_first.2.1 40 = .ok (.if_icmp .gt 55, 3) := by decide +kernel
theorem dX11_first_43 : decode mX11_first.2.1 43 = .ok (.aload_n 0, 1) := by decide +kernel
theorem dX11_first_44 : decode mX11_first.2.1 44 = .ok (.getfield 28, 3) := by decide +kernel
theorem dX11_first_47 : decode mX11_first.2.1 47 = .ok (.aload_n 0, 1) := by decide +kernel
theorem dX11_first_48 : decode mX11_first.2.1 48 = .ok (.getfield 42, 3) := by decide +kernel
theorem dX11_first_51 : decode mX11_first.2.1 51 = .ok (.iload_n 1, 1) := by decide +kernel
theorem dX11_first_52 : decode mX11_first.2.1 52 = .ok (.iload_n 2, 1) := by decide +kernel
theorem dX11_first_53 : decode mX11_first.2.1 53 = .ok (.invokevirtual 326, 3) := by decide +kernel
theorem dX11_first_56 : decode mX11_first.2.1 56 = .ok (.ifCond .eq 22, 3) := by decide +kernel
theorem dX11_first_59 : decode mX11_first.2.1 59 = .ok (.aload_n 0, 1) := by decide +kernel
theorem dX11_first_60 : decode mX11_first.2.1 60 = .ok (.getfield 55, 3) := by decide +kernel
theorem dX11_first_63 : decode mX11_first.2.1 63 = .ok (.aload_n 0, 1) := by decide +kernel
theorem dX11_first_64 : decode mX11_first.2.1 64 = .ok (.getfield 42, 3) := by decide +kernel
theorem dX11_first_67 : decode mX11_first.2.1 67 = .ok (.getfield 177, 3) := by decide +kernel
theorem dX11_first_70 : decode mX11_first.2.1 70 = .ok (.iload_n 2, 1) := by decide +kernel
theorem dX11_first_71 : decode mX11_first.2.1 71 = .ok (.iaload, 1) := by decide +kernel
theorem dX11_first_72 : decode mX11_first.2.1 72 = .ok (.i2l, 1) := by decide +kernel
theorem dX11_first_73 : decode mX11_first.2.1 73 = .ok (.invokevirtual 330, 3) := by decide +kernel
theorem dX11_first_76 : decode mX11_first.2.1 76 = .ok (.iload_n 3, 1) := by decide +kernel
theorem dX11_first_77 : decode mX11_first.2.1 77 = .ok (.ireturn, 1) := by decide +kernel
theorem dX11_first_78 : decode mX11_first.2.1 78 = .ok (.aload_n 0, 1) := by decide +kernel
theorem dX11_first_79 : decode mX11_first.2.1 79 = .ok (.getfield 28, 3) := by decide +kernel
theorem dX11_first_82 : decode mX11_first.2.1 82 = .ok (.aload_n 0, 1) := by decide +kernel
theorem dX11_first_83 : decode mX11_first.2.1 83 = .ok (.getfield 42, 3) := by decide +kernel
theorem dX11_first_86 : decode mX11_first.2.1 86 = .ok (.invokevirtual 273, 3) := by decide +kernel
theorem dX11_first_89 : decode mX11_first.2.1 89 = .ok (.iinc 3 1, 3) := by decide +kernel
theorem dX11_first_92 : decode mX11_first.2.1 92 = .ok (.goto (-55), 3) := by decide +kernel
theorem dX11_first_95 : decode mX11_first.2.1 95 = .ok (.bipush (-2), 2) := by decide +kernel
theorem dX11_first_97 : decode mX11_first.2.1 97 = .ok (.ireturn, 1) := by decide +kernel
theorem dX11_meets_0 : decode mX11_meets.2.1 0 = .ok (.aload_n 0, 1) := by decide +kernel
theorem dX11_meets_1 : decode mX11_meets.2.1 1 = .ok (.getfield 28, 3) := by decide +kernel
theorem dX11_meets_4 : decode mX11_meets.2.1 4 = .ok (.iload_n 1, 1) := by decide +kernel
theorem dX11_meets_5 : decode mX11_meets.2.1 5 = .ok (.invokevirtual 209, 3) := by decide +kernel
theorem dX11_meets_8 : decode mX11_meets.2.1 8 = .ok (.ifCond .ne 5, 3) := by decide +kernel
theorem dX11_meets_11 : decode mX11_meets.2.1 11 = .ok (.iconst (-1), 1) := by decide +kernel
theorem dX11_meets_12 : decode mX11_meets.2.1 12 = .ok (.ireturn, 1) := by decide +kernel
theorem dX11_meets_13 : decode mX11_meets.2.1 13 = .ok (.aload_n 0, 1) := by decide +kernel
theorem dX11_meets_14 : decode mX11_meets.2.1 14 = .ok (.getfield 42, 3) := by decide +kernel
theorem dX11_meets_17 : decode mX11_meets.2.1 17 = .ok (.aload_n 0, 1) := by decide +kernel
theorem dX11_meets_18 : decode mX11_meets.2.1 18 = .ok (.getfield 35, 3) := by decide +kernel
theorem dX11_meets_21 : decode mX11_meets.2.1 21 = .ok (.invokevirtual 231, 3) := by decide +kernel
theorem dX11_meets_24 : decode mX11_meets.2.1 24 = .ok (.iconst 0, 1) := by decide +kernel
theorem dX11_meets_25 : decode mX11_meets.2.1 25 = .ok (.istore_n 2, 1) := by decide +kernel
theorem dX11_meets_26 : decode mX11_meets.2.1 26 = .ok (.iload_n 2, 1) := by decide +kernel
theorem dX11_meets_27 : decode mX11_meets.2.1 27 = .ok (.bipush 99, 2) := by decide +kernel
theorem dX11_meets_29 : decode mX11_meets.2.1 29 = .ok (.if_icmp .gt 41, 3) := by decide +kernel
theorem dX11_meets_32 : decode mX11_meets.2.1 32 = .ok (.aload_n 0, 1) := by decide +kernel
theorem dX11_meets_33 : decode mX11_meets.2.1 33 = .ok (.aload_n 0, 1) := by decide +kernel
theorem dX11_meets_34 : decode mX11_meets.2.1 34 = .ok (.getfield 28, 3) := by decide +kernel
theorem dX11_meets_37 : decode mX11_meets.2.1 37 = .ok (.aload_n 0, 1) := by decide +kernel
theorem dX11_meets_38 : decode mX11_meets.2.1 38 = .ok (.getfield 42, 3) := by decide +kernel
theorem dX11_meets_41 : decode mX11_meets.2.1 41 = .ok (.iload_n 1, 1) := by decide +kernel
theorem dX11_meets_42 : decode mX11_meets.2.1 42 = .ok (.invokevirtual 221, 3) := by decide +kernel
theorem dX11_meets_45 : decode mX11_meets.2.1 45 = .ok (.invokevirtual 333, 3) := by decide +kernel
theorem dX11_meets_48 : decode mX11_meets.2.1 48 = .ok (.ifCond .eq 5, 3) := by decide +kernel
theorem dX11_meets_51 : decode mX11_meets.2.1 51 = .ok (.iload_n 2, 1) := by decide +kernel
theorem dX11_meets_52 : decode mX11_meets.2.1 52 = .ok (.ireturn, 1) := by decide +kernel
theorem dX11_meets_53 : decode mX11_meets.2.1 53 = .ok (.aload_n 0, 1) := by decide +kernel
theorem dX11_meets_54 : decode mX11_meets.2.1 54 = .ok (.getfield 28, 3) := by decide +kernel
theorem dX11_meets_57 : decode mX11_meets.2.1 57 = .ok (.aload_n 0, 1) := by decide +kernel
theorem dX11_meets_58 : decode mX11_meets.2.1 58 = .ok (.getfield 42, 3) := by decide +kernel
theorem dX11_meets_61 : decode mX11_meets.2.1 61 = .ok (.invokevirtual 273, 3) := by decide +kernel
theorem dX11_meets_64 : decode mX11_meets.2.1 64 = .ok (.iinc 2 1, 3) := by decide +kernel
theorem dX11_meets_67 : decode mX11_meets.2.1 67 = .ok (.goto (-41), 3) := by decide +kernel
theorem dX11_meets_70 : decode mX11_meets.2.1 70 = .ok (.bipush (-2), 2) := by decide +kernel
theorem dX11_meets_72 : decode mX11_meets.2.1 72 = .ok (.ireturn, 1) := by decide +kernel
theorem dX11_tellMeeting_0 : decode mX11_tellMeeting.2.1 0 = .ok (.iload_n 1, 1) := by decide +kernel
theorem dX11_tellMeeting_1 : decode mX11_tellMeeting.2.1 1 = .ok (.invokestatic 254, 3) := by decide +kernel
theorem dX11_tellMeeting_4 : decode mX11_tellMeeting.2.1 4 = .ok (.iconst 2, 1) := by decide +kernel
theorem dX11_tellMeeting_5 : decode mX11_tellMeeting.2.1 5 = .ok (.if_icmp .ge 5, 3) := by decide +kernel
theorem dX11_tellMeeting_8 : decode mX11_tellMeeting.2.1 8 = .ok (.iconst 0, 1) := by decide +kernel
theorem dX11_tellMeeting_9 : decode mX11_tellMeeting.2.1 9 = .ok (.ireturn, 1) := by decide +kernel
theorem dX11_tellMeeting_10 : decode mX11_tellMeeting.2.1 10 = .ok (.iconst 0, 1) := by decide +kernel
theorem dX11_tellMeeting_11 : decode mX11_tellMeeting.2.1 11 = .ok (.istore_n 2, 1) := by decide +kernel
theorem dX11_tellMeeting_12 : decode mX11_tellMeeting.2.1 12 = .ok (.iload_n 2, 1) := by decide +kernel
theorem dX11_tellMeeting_13 : decode mX11_tellMeeting.2.1 13 = .ok (.aload_n 0, 1) := by decide +kernel
theorem dX11_tellMeeting_14 : decode mX11_tellMeeting.2.1 14 = .ok (.getfield 28, 3) := by decide +kernel
theorem dX11_tellMeeting_17 : decode mX11_tellMeeting.2.1 17 = .ok (.invokevirtual 336, 3) := by decide +kernel
theorem dX11_tellMeeting_20 : decode mX11_tellMeeting.2.1 20 = .ok (.if_icmp .ge 45, 3) := by decide +kernel
theorem dX11_tellMeeting_23 : decode mX11_tellMeeting.2.1 23 = .ok (.iload_n 1, 1) := by decide +kernel
theorem dX11_tellMeeting_24 : decode mX11_tellMeeting.2.1 24 = .ok (.aload_n 0, 1) := by decide +kernel
theorem dX11_tellMeeting_25 : decode mX11_tellMeeting.2.1 25 = .ok (.getfield 28, 3) := by decide +kernel
theorem dX11_tellMeeting_28 : decode mX11_tellMeeting.2.1 28 = .ok (.aload_n 0, 1) := by decide +kernel
theorem dX11_tellMeeting_29 : decode mX11_tellMeeting.2.1 29 = .ok (.getfield 42, 3) := by decide +kernel
theorem dX11_tellMeeting_32 : decode mX11_tellMeeting.2.1 32 = .ok (.iload_n 2, 1) := by decide +kernel
theorem dX11_tellMeeting_33 : decode mX11_tellMeeting.2.1 33 = .ok (.invokevirtual 339, 3) := by decide +kernel
theorem dX11_tellMeeting_36 : decode mX11_tellMeeting.2.1 36 = .ok (.iand, 1) := by decide +kernel
theorem dX11_tellMeeting_37 : decode mX11_tellMeeting.2.1 37 = .ok (.istore_n 3, 1) := by decide +kernel
theorem dX11_tellMeeting_38 : decode mX11_tellMeeting.2.1 38 = .ok (.iload_n 3, 1) := by decide +kernel
theorem dX11_tellMeeting_39 : decode mX11_tellMeeting.2.1 39 = .ok (.invokestatic 254, 3) := by decide +kernel
theorem dX11_tellMeeting_42 : decode mX11_tellMeeting.2.1 42 = .ok (.iconst 2, 1) := by decide +kernel
theorem dX11_tellMeeting_43 : decode mX11_tellMeeting.2.1 43 = .ok (.if_icmp .lt 16, 3) := by decide +kernel
theorem dX11_tellMeeting_46 : decode mX11_tellMeeting.2.1 46 = .ok (.aload_n 0, 1) := by decide +kernel
theorem dX11_tellMeeting_47 : decode mX11_tellMeeting.2.1 47 = .ok (.getfield 55, 3) := by decide +kernel
theorem dX11_tellMeeting_50 : decode mX11_tellMeeting.2.1 50 = .ok (.iload_n 2, 1) := by decide +kernel
theorem dX11_tellMeeting_51 : decode mX11_tellMeeting.2.1 51 = .ok (.i2l, 1) := by decide +kernel
theorem dX11_tellMeeting_52 : decode mX11_tellMeeting.2.1 52 = .ok (.iload_n 3, 1) := by decide +kernel
theorem dX11_tellMeeting_53 : decode mX11_tellMeeting.2.1 53 = .ok (.i2l, 1) := by decide +kernel
theorem dX11_tellMeeting_54 : decode mX11_tellMeeting.2.1 54 = .ok (.invokevirtual 298, 3) := by decide +kernel
theorem dX11_tellMeeting_57 : decode mX11_tellMeeting.2.1 57 = .ok (.iconst 1, 1) := by decide +kernel
theorem dX11_tellMeeting_58 : decode mX11_tellMeeting.2.1 58 = .ok (.ireturn, 1) := by decide +kernel
theorem dX11_tellMeeting_59 : decode mX11_tellMeeting.2.1 59 = .ok (.iinc 2 1, 3) := by decide +kernel
theorem dX11_tellMeeting_62 : decode mX11_tellMeeting.2.1 62 = .ok (.goto (-50), 3) := by decide +kernel
theorem dX11_tellMeeting_65 : decode mX11_tellMeeting.2.1 65 = .ok (.iconst 0, 1) := by decide +kernel
theorem dX11_tellMeeting_66 : decode mX11_tellMeeting.2.1 66 = .ok (.ireturn, 1) := by decide +kernel
theorem dX11_doubts_0 : decode mX11_doubts.2.1 0 = .ok (.aload_n 0, 1) := by decide +kernel
theorem dX11_doubts_1 : decode mX11_doubts.2.1 1 = .ok (.getfield 28, 3) := by decide +kernel
theorem dX11_doubts_4 : decode mX11_doubts.2.1 4 = .ok (.iload_n 1, 1) := by decide +kernel
theorem dX11_doubts_5 : decode mX11_doubts.2.1 5 = .ok (.invokevirtual 209, 3) := by decide +kernel
theorem dX11_doubts_8 : decode mX11_doubts.2.1 8 = .ok (.ifCond .eq 19, 3) := by decide +kernel
theorem dX11_doubts_11 : decode mX11_doubts.2.1 11 = .ok (.aload_n 0, 1) := by decide +kernel
theorem dX11_doubts_12 : decode mX11_doubts.2.1 12 = .ok (.getfield 28, 3) := by decide +kernel
theorem dX11_doubts_15 : decode mX11_doubts.2.1 15 = .ok (.iload_n 2, 1) := by decide +kernel
theorem dX11_doubts_16 : decode mX11_doubts.2.1 16 = .ok (.invokevirtual 209, 3) := by decide +kernel
theorem dX11_doubts_19 : decode mX11_doubts.2.1 19 = .ok (.ifCond .eq 8, 3) := by decide +kernel
theorem dX11_doubts_22 : decode mX11_doubts.2.1 22 = .ok (.iload_n 1, 1) := by decide +kernel
theorem dX11_doubts_23 : decode mX11_doubts.2.1 23 = .ok (.iload_n 2, 1) := by decide +kernel
theorem dX11_doubts_24 : decode mX11_doubts.2.1 24 = .ok (.if_icmp .ne 5, 3) := by decide +kernel
theorem dX11_doubts_27 : decode mX11_doubts.2.1 27 = .ok (.iconst (-1), 1) := by decide +kernel
theorem dX11_doubts_28 : decode mX11_doubts.2.1 28 = .ok (.ireturn, 1) := by decide +kernel
theorem dX11_doubts_29 : decode mX11_doubts.2.1 29 = .ok (.aload_n 0, 1) := by decide +kernel
theorem dX11_doubts_30 : decode mX11_doubts.2.1 30 = .ok (.getfield 28, 3) := by decide +kernel
theorem dX11_doubts_33 : decode mX11_doubts.2.1 33 = .ok (.aload_n 0, 1) := by decide +kernel
theorem dX11_doubts_34 : decode mX11_doubts.2.1 34 = .ok (.getfield 35, 3) := by decide +kernel
theorem dX11_doubts_37 : decode mX11_doubts.2.1 37 = .ok (.iload_n 1, 1) := by decide +kernel
theorem dX11_doubts_38 : decode mX11_doubts.2.1 38 = .ok (.invokevirtual 224, 3) := by decide +kernel
theorem dX11_doubts_41 : decode mX11_doubts.2.1 41 = .ok (.aload_n 0, 1) := by decide +kernel
theorem dX11_doubts_42 : decode mX11_doubts.2.1 42 = .ok (.getfield 28, 3) := by decide +kernel
theorem dX11_doubts_45 : decode mX11_doubts.2.1 45 = .ok (.aload_n 0, 1) := by decide +kernel
theorem dX11_doubts_46 : decode mX11_doubts.2.1 46 = .ok (.getfield 35, 3) := by decide +kernel
theorem dX11_doubts_49 : decode mX11_doubts.2.1 49 = .ok (.iload_n 2, 1) := by decide +kernel
theorem dX11_doubts_50 : decode mX11_doubts.2.1 50 = .ok (.invokevirtual 224, 3) := by decide +kernel
theorem dX11_doubts_53 : decode mX11_doubts.2.1 53 = .ok (.iand, 1) := by decide +kernel
theorem dX11_doubts_54 : decode mX11_doubts.2.1 54 = .ok (.istore_n 3, 1) := by decide +kernel
theorem dX11_doubts_55 : decode mX11_doubts.2.1 55 = .ok (.aload_n 0, 1) := by decide +kernel
theorem dX11_doubts_56 : decode mX11_doubts.2.1 56 = .ok (.getfield 28, 3) := by decide +kernel
theorem dX11_doubts_59 : decode mX11_doubts.2.1 59 = .ok (.aload_n 0, 1) := by decide +kernel
theorem dX11_doubts_60 : decode mX11_doubts.2.1 60 = .ok (.getfield 35, 3) := by decide +kernel
theorem dX11_doubts_63 : decode mX11_doubts.2.1 63 = .ok (.iload_n 1, 1) := by decide +kernel
theorem dX11_doubts_64 : decode mX11_doubts.2.1 64 = .ok (.invokevirtual 221, 3) := by decide +kernel
theorem dX11_doubts_67 : decode mX11_doubts.2.1 67 = .ok (.istore 4, 2) := by decide +kernel
theorem dX11_doubts_69 : decode mX11_doubts.2.1 69 = .ok (.iload 4, 2) := by decide +kernel
theorem dX11_doubts_71 : decode mX11_doubts.2.1 71 = .ok (.aload_n 0, 1) := by decide +kernel
theorem dX11_doubts_72 : decode mX11_doubts.2.1 72 = .ok (.getfield 28, 3) := by decide +kernel
theorem dX11_doubts_75 : decode mX11_doubts.2.1 75 = .ok (.aload_n 0, 1) := by decide +kernel
theorem dX11_doubts_76 : decode mX11_doubts.2.1 76 = .ok (.getfield 35, 3) := by decide +kernel
theorem dX11_doubts_79 : decode mX11_doubts.2.1 79 = .ok (.iload_n 2, 1) := by decide +kernel
theorem dX11_doubts_80 : decode mX11_doubts.2.1 80 = .ok (.invokevirtual 221, 3) := by decide +kernel
theorem dX11_doubts_83 : decode mX11_doubts.2.1 83 = .ok (.ixor, 1) := by decide +kernel
theorem dX11_doubts_84 : decode mX11_doubts.2.1 84 = .ok (.iload_n 3, 1) := by decide +kernel
theorem dX11_doubts_85 : decode mX11_doubts.2.1 85 = .ok (.iand, 1) := by decide +kernel
theorem dX11_doubts_86 : decode mX11_doubts.2.1 86 = .ok (.istore 5, 2) := by decide +kernel
theorem dX11_doubts_88 : decode mX11_doubts.2.1 88 = .ok (.aload_n 0, 1) := by decide +kernel
theorem dX11_doubts_89 : decode mX11_doubts.2.1 89 = .ok (.getfield 55, 3) := by decide +kernel
theorem dX11_doubts_92 : decode mX11_doubts.2.1 92 = .ok (.iload 5, 2) := by decide +kernel
theorem dX11_doubts_94 : decode mX11_doubts.2.1 94 = .ok (.iload 4, 2) := by decide +kernel
theorem dX11_doubts_96 : decode mX11_doubts.2.1 96 = .ok (.iand, 1) := by decide +kernel
theorem dX11_doubts_97 : decode mX11_doubts.2.1 97 = .ok (.i2l, 1) := by decide +kernel
theorem dX11_doubts_98 : decode mX11_doubts.2.1 98 = .ok (.iload_n 3, 1) := by decide +kernel
theorem dX11_doubts_99 : decode mX11_doubts.2.1 99 = .ok (.i2l, 1) := by decide +kernel
theorem dX11_doubts_100 : decode mX11_doubts.2.1 100 = .ok (.invokevirtual 298, 3) := by decide +kernel
theorem dX11_doubts_103 : decode mX11_doubts.2.1 103 = .ok (.iload 5, 2) := by decide +kernel
theorem dX11_doubts_105 : decode mX11_doubts.2.1 105 = .ok (.ireturn, 1) := by decide +kernel
theorem dX11_watch_0 : decode mX11_watch.2.1 0 = .ok (.aload_n 0, 1) := by decide +kernel
theorem dX11_watch_1 : decode mX11_watch.2.1 1 = .ok (.getfield 28, 3) := by decide +kernel
theorem dX11_watch_4 : decode mX11_watch.2.1 4 = .ok (.iload_n 1, 1) := by decide +kernel
theorem dX11_watch_5 : decode mX11_watch.2.1 5 = .ok (.invokevirtual 342, 3) := by decide +kernel
theorem dX11_watch_8 : decode mX11_watch.2.1 8 = .ok (.ifCond .ne 5, 3) := by decide +kernel
theorem dX11_watch_11 : decode mX11_watch.2.1 11 = .ok (.iconst (-1), 1) := by decide +kernel
theorem dX11_watch_12 : decode mX11_watch.2.1 12 = .ok (.ireturn, 1) := by decide +kernel
theorem dX11_watch_13 : decode mX11_watch.2.1 13 = .ok (.aload_n 0, 1) := by decide +kernel
theorem dX11_watch_14 : decode mX11_watch.2.1 14 = .ok (.getfield 62, 3) := by decide +kernel
theorem dX11_watch_17 : decode mX11_watch.2.1 17 = .ok (.invokevirtual 345, 3) := by decide +kernel
theorem dX11_watch_20 : decode mX11_watch.2.1 20 = .ok (.iconst 0, 1) := by decide +kernel
theorem dX11_watch_21 : decode mX11_watch.2.1 21 = .ok (.istore_n 2, 1) := by decide +kernel
theorem dX11_watch_22 : decode mX11_watch.2.1 22 = .ok (.iload_n 2, 1) := by decide +kernel
theorem dX11_watch_23 : decode mX11_watch.2.1 23 = .ok (.aload_n 0, 1) := by decide +kernel
theorem dX11_watch_24 : decode mX11_watch.2.1 24 = .ok (.getfield 28, 3) := by decide +kernel
theorem dX11_watch_27 : decode mX11_watch.2.1 27 = .ok (.getfield 267, 3) := by decide +kernel
theorem dX11_watch_30 : decode mX11_watch.2.1 30 = .ok (.if_icmp .ge 28, 3) := by decide +kernel
theorem dX11_watch_33 : decode mX11_watch.2.1 33 = .ok (.aload_n 0, 1) := by decide +kernel
theorem dX11_watch_34 : decode mX11_watch.2.1 34 = .ok (.getfield 62, 3) := by decide +kernel
theorem dX11_watch_37 : decode mX11_watch.2.1 37 = .ok (.aload_n 0, 1) := by decide +kernel
theorem dX11_watch_38 : decode mX11_watch.2.1 38 = .ok (.getfield 28, 3) := by decide +kernel
theorem dX11_watch_41 : decode mX11_watch.2.1 41 = .ok (.aload_n 0, 1) := by decide +kernel
theorem dX11_watch_42 : decode mX11_watch.2.1 42 = .ok (.getfield 35, 3) := by decide +kernel
theorem dX11_watch_45 : decode mX11_watch.2.1 45 = .ok (.iload_n 2, 1) := by decide +kernel
theorem dX11_watch_46 : decode mX11_watch.2.1 46 = .ok (.invokevirtual 221, 3) := by decide +kernel
theorem dX11_watch_49 : decode mX11_watch.2.1 49 = .ok (.invokevirtual 346, 3) := by decide +kernel
theorem dX11_watch_52 : decode mX11_watch.2.1 52 = .ok (.iinc 2 1, 3) := by decide +kernel
theorem dX11_watch_55 : decode mX11_watch.2.1 55 = .ok (.goto (-33), 3) := by decide +kernel
theorem dX11_watch_58 : decode mX11_watch.2.1 58 = .ok (.aload_n 0, 1) := by decide +kernel
theorem dX11_watch_59 : decode mX11_watch.2.1 59 = .ok (.iload_n 1, 1) := by decide +kernel
theorem dX11_watch_60 : decode mX11_watch.2.1 60 = .ok (.iconst 0, 1) := by decide +kernel
theorem dX11_watch_61 : decode mX11_watch.2.1 61 = .ok (.invokevirtual 348, 3) := by decide +kernel
theorem dX11_watch_64 : decode mX11_watch.2.1 64 = .ok (.ireturn, 1) := by decide +kernel
theorem dX11_tellFewest_0 : decode mX11_tellFewest.2.1 0 = .ok (.aload_n 0, 1) := by decide +kernel
theorem dX11_tellFewest_1 : decode mX11_tellFewest.2.1 1 = .ok (.getfield 62, 3) := by decide +kernel
theorem dX11_tellFewest_4 : decode mX11_tellFewest.2.1 4 = .ok (.iload_n 1, 1) := by decide +kernel
theorem dX11_tellFewest_5 : decode mX11_tellFewest.2.1 5 = .ok (.iload_n 2, 1) := by decide +kernel
theorem dX11_tellFewest_6 : decode mX11_tellFewest.2.1 6 = .ok (.invokevirtual 351, 3) := by decide +kernel
theorem dX11_tellFewest_9 : decode mX11_tellFewest.2.1 9 = .ok (.istore_n 3, 1) := by decide +kernel
theorem dX11_tellFewest_10 : decode mX11_tellFewest.2.1 10 = .ok (.iload_n 3, 1) := by decide +kernel
theorem dX11_tellFewest_11 : decode mX11_tellFewest.2.1 11 = .ok (.iconst (-1), 1) := by decide +kernel
theorem dX11_tellFewest_12 : decode mX11_tellFewest.2.1 12 = .ok (.if_icmp .ne 6, 3) := by decide +kernel
theorem dX11_tellFewest_15 : decode mX11_tellFewest.2.1 15 = .ok (.bipush (-2), 2) := by decide +kernel
theorem dX11_tellFewest_17 : decode mX11_tellFewest.2.1 17 = .ok (.ireturn, 1) := by decide +kernel
theorem dX11_tellFewest_18 : decode mX11_tellFewest.2.1 18 = .ok (.aload_n 0, 1) := by decide +kernel
theorem dX11_tellFewest_19 : decode mX11_tellFewest.2.1 19 = .ok (.getfield 55, 3) := by decide +kernel
theorem dX11_tellFewest_22 : decode mX11_tellFewest.2.1 22 = .ok (.iload_n 3, 1) := by decide +kernel
theorem dX11_tellFewest_23 : decode mX11_tellFewest.2.1 23 = .ok (.i2l, 1) := by decide +kernel
theorem dX11_tellFewest_24 : decode mX11_tellFewest.2.1 24 = .ok (.invokevirtual 330, 3) := by decide +kernel
theorem dX11_tellFewest_27 : decode mX11_tellFewest.2.1 27 = .ok (.iload_n 3, 1) := by decide +kernel
theorem dX11_tellFewest_28 : decode mX11_tellFewest.2.1 28 = .ok (.invokestatic 254, 3) := by decide +kernel
theorem dX11_tellFewest_31 : decode mX11_tellFewest.2.1 31 = .ok (.ireturn, 1) := by decide +kernel
theorem dX11_hidden_0 : decode mX11_hidden.2.1 0 = .ok (.iconst 0, 1) := by decide +kernel
theorem dX11_hidden_1 : decode mX11_hidden.2.1 1 = .ok (.istore_n 1, 1) := by decide +kernel
theorem dX11_hidden_2 : decode mX11_hidden.2.1 2 = .ok (.aload_n 0, 1) := by decide +kernel
theorem dX11_hidden_3 : decode mX11_hidden.2.1 3 = .ok (.getfield 28, 3) := by decide +kernel
theorem dX11_hidden_6 : decode mX11_hidden.2.1 6 = .ok (.invokevirtual 202, 3) := by decide +kernel
theorem dX11_hidden_9 : decode mX11_hidden.2.1 9 = .ok (.istore_n 2, 1) := by decide +kernel
theorem dX11_hidden_10 : decode mX11_hidden.2.1 10 = .ok (.iconst 0, 1) := by decide +kernel
theorem dX11_hidden_11 : decode mX11_hidden.2.1 11 = .ok (.istore_n 3, 1) := by decide +kernel
theorem dX11_hidden_12 : decode mX11_hidden.2.1 12 = .ok (.iload_n 3, 1) := by decide +kernel
theorem dX11_hidden_13 : decode mX11_hidden.2.1 13 = .ok (.aload_n 0, 1) := by decide +kernel
theorem dX11_hidden_14 : decode mX11_hidden.2.1 14 = .ok (.getfield 28, 3) := by decide +kernel
theorem dX11_hidden_17 : decode mX11_hidden.2.1 17 = .ok (.getfield 267, 3) := by decide +kernel
theorem dX11_hidden_20 : decode mX11_hidden.2.1 20 = .ok (.if_icmp .ge 33, 3) := by decide +kernel
theorem dX11_hidden_23 : decode mX11_hidden.2.1 23 = .ok (.aload_n 0, 1) := by decide +kernel
theorem dX11_hidden_24 : decode mX11_hidden.2.1 24 = .ok (.getfield 28, 3) := by decide +kernel
theorem dX11_hidden_27 : decode mX11_hidden.2.1 27 = .ok (.aload_n 0, 1) := by decide +kernel
theorem dX11_hidden_28 : decode mX11_hidden.2.1 28 = .ok (.getfield 35, 3) := by decide +kernel
theorem dX11_hidden_31 : decode mX11_hidden.2.1 31 = .ok (.iload_n 3, 1) := by decide +kernel
theorem dX11_hidden_32 : decode mX11_hidden.2.1 32 = .ok (.invokevirtual 221, 3) := by decide +kernel
theorem dX11_hidden_35 : decode mX11_hidden.2.1 35 = .ok (.istore 4, 2) := by decide +kernel
theorem dX11_hidden_37 : decode mX11_hidden.2.1 37 = .ok (.iload_n 1, 1) := by decide +kernel
theorem dX11_hidden_38 : decode mX11_hidden.2.1 38 = .ok (.iload 4, 2) := by decide +kernel
theorem dX11_hidden_40 : decode mX11_hidden.2.1 40 = .ok (.ior, 1) := by decide +kernel
theorem dX11_hidden_41 : decode mX11_hidden.2.1 41 = .ok (.istore_n 1, 1) := by decide +kernel
theorem dX11_hidden_42 : decode mX11_hidden.2.1 42 = .ok (.iload_n 2, 1) := by decide +kernel
theorem dX11_hidden_43 : decode mX11_hidden.2.1 43 = .ok (.iload 4, 2) := by decide +kernel
theorem dX11_hidden_45 : decode mX11_hidden.2.1 45 = .ok (.iand, 1) := by decide +kernel
theorem dX11_hidden_46 : decode mX11_hidden.2.1 46 = .ok (.istore_n 2, 1) := by decide +kernel
theorem dX11_hidden_47 : decode mX11_hidden.2.1 47 = .ok (.iinc 3 1, 3) := by decide +kernel
theorem dX11_hidden_50 : decode mX11_hidden.2.1 50 = .ok (.goto (-38), 3) := by decide +kernel
theorem dX11_hidden_53 : decode mX11_hidden.2.1 53 = .ok (.aload_n 0, 1) := by decide +kernel
theorem dX11_hidden_54 : decode mX11_hidden.2.1 54 = .ok (.getfield 28, 3) := by decide +kernel
theorem dX11_hidden_57 : decode mX11_hidden.2.1 57 = .ok (.invokevirtual 202, 3) := by decide +kernel
theorem dX11_hidden_60 : decode mX11_hidden.2.1 60 = .ok (.iload_n 1, 1) := by decide +kernel
theorem dX11_hidden_61 : decode mX11_hidden.2.1 61 = .ok (.iconst (-1), 1) := by decide +kernel
theorem dX11_hidden_62 : decode mX11_hidden.2.1 62 = .ok (.ixor, 1) := by decide +kernel
theorem dX11_hidden_63 : decode mX11_hidden.2.1 63 = .ok (.iand, 1) := by decide +kernel
theorem dX11_hidden_64 : decode mX11_hidden.2.1 64 = .ok (.istore_n 3, 1) := by decide +kernel
theorem dX11_hidden_65 : decode mX11_hidden.2.1 65 = .ok (.aload_n 0, 1) := by decide +kernel
theorem dX11_hidden_66 : decode mX11_hidden.2.1 66 = .ok (.getfield 55, 3) := by decide +kernel
theorem dX11_hidden_69 : decode mX11_hidden.2.1 69 = .ok (.iload_n 3, 1) := by decide +kernel
theorem dX11_hidden_70 : decode mX11_hidden.2.1 70 = .ok (.invokestatic 254, 3) := by decide +kernel
theorem dX11_hidden_73 : decode mX11_hidden.2.1 73 = .ok (.i2l, 1) := by decide +kernel
theorem dX11_hidden_74 : decode mX11_hidden.2.1 74 = .ok (.iload_n 2, 1) := by decide +kernel
theorem dX11_hidden_75 : decode mX11_hidden.2.1 75 = .ok (.i2l, 1) := by decide +kernel
theorem dX11_hidden_76 : decode mX11_hidden.2.1 76 = .ok (.invokevirtual 298, 3) := by decide +kernel
theorem dX11_hidden_79 : decode mX11_hidden.2.1 79 = .ok (.iload_n 3, 1) := by decide +kernel
theorem dX11_hidden_80 : decode mX11_hidden.2.1 80 = .ok (.ireturn, 1) := by decide +kernel
theorem dX11_glaze_0 : decode mX11_glaze.2.1 0 = .ok (.aload_n 0, 1) := by decide +kernel
theorem dX11_glaze_1 : decode mX11_glaze.2.1 1 = .ok (.getfield 28, 3) := by decide +kernel
theorem dX11_glaze_4 : decode mX11_glaze.2.1 4 = .ok (.iload_n 1, 1) := by decide +kernel
theorem dX11_glaze_5 : decode mX11_glaze.2.1 5 = .ok (.invokevirtual 209, 3) := by decide +kernel
theorem dX11_glaze_8 : decode mX11_glaze.2.1 8 = .ok (.ifCond .eq 25, 3) := by decide +kernel
theorem dX11_glaze_11 : decode mX11_glaze.2.1 11 = .ok (.aload_n 0, 1) := by decide +kernel
theorem dX11_glaze_12 : decode mX11_glaze.2.1 12 = .ok (.getfield 28, 3) := by decide +kernel
theorem dX11_glaze_15 : decode mX11_glaze.2.1 15 = .ok (.iload_n 2, 1) := by decide +kernel
theorem dX11_glaze_16 : decode mX11_glaze.2.1 16 = .ok (.invokevirtual 342, 3) := by decide +kernel
theorem dX11_glaze_19 : decode mX11_glaze.2.1 19 = .ok (.ifCond .eq 14, 3) := by decide +kernel
theorem dX11_glaze_22 : decode mX11_glaze.2.1 22 = .ok (.aload_n 0, 1) := by decide +kernel
theorem dX11_glaze_23 : decode mX11_glaze.2.1 23 = .ok (.getfield 28, 3) := by decide +kernel
theorem dX11_glaze_26 : decode mX11_glaze.2.1 26 = .ok (.iload_n 3, 1) := by decide +kernel
theorem dX11_glaze_27 : decode mX11_glaze.2.1 27 = .ok (.invokevirtual 342, 3) := by decide +kernel
theorem dX11_glaze_30 : decode mX11_glaze.2.1 30 = .ok (.ifCond .ne 5, 3) := by decide +kernel
theorem dX11_glaze_33 : decode mX11_glaze.2.1 33 = .ok (.iconst (-1), 1) := by decide +kernel
theorem dX11_glaze_34 : decode mX11_glaze.2.1 34 = .ok (.ireturn, 1) := by decide +kernel
theorem dX11_glaze_35 : decode mX11_glaze.2.1 35 = .ok (.aload_n 0, 1) := by decide +kernel
theorem dX11_glaze_36 : decode mX11_glaze.2.1 36 = .ok (.iload_n 1, 1) := by decide +kernel
theorem dX11_glaze_37 : decode mX11_glaze.2.1 37 = .ok (.invokevirtual 354, 3) := by decide +kernel
theorem dX11_glaze_40 : decode mX11_glaze.2.1 40 = .ok (.aload_n 0, 1) := by decide +kernel
theorem dX11_glaze_41 : decode mX11_glaze.2.1 41 = .ok (.iload_n 2, 1) := by decide +kernel
theorem dX11_glaze_42 : decode mX11_glaze.2.1 42 = .ok (.iload_n 3, 1) := by decide +kernel
theorem dX11_glaze_43 : decode mX11_glaze.2.1 43 = .ok (.invokevirtual 348, 3) := by decide +kernel
theorem dX11_glaze_46 : decode mX11_glaze.2.1 46 = .ok (.ireturn, 1) := by decide +kernel
theorem dX11_partByPanes_0 : decode mX11_partByPanes.2.1 0 = .ok (.aload_n 0, 1) := by decide +kernel
theorem dX11_partByPanes_1 : decode mX11_partByPanes.2.1 1 = .ok (.getfield 28, 3) := by decide +kernel
theorem dX11_partByPanes_4 : decode mX11_partByPanes.2.1 4 = .ok (.aload_n 0, 1) := by decide +kernel
theorem dX11_partByPanes_5 : decode mX11_partByPanes.2.1 5 = .ok (.getfield 35, 3) := by decide +kernel
theorem dX11_partByPanes_8 : decode mX11_partByPanes.2.1 8 = .ok (.iload_n 1, 1) := by decide +kernel
theorem dX11_partByPanes_9 : decode mX11_partByPanes.2.1 9 = .ok (.invokevirtual 224, 3) := by decide +kernel
theorem dX11_partByPanes_12 : decode mX11_partByPanes.2.1 12 = .ok (.istore_n 2, 1) := by decide +kernel
theorem dX11_partByPanes_13 : decode mX11_partByPanes.2.1 13 = .ok (.aload_n 0, 1) := by decide +kernel
theorem dX11_partByPanes_14 : decode mX11_partByPanes.2.1 14 = .ok (.getfield 62, 3) := by decide +kernel
theorem dX11_partByPanes_17 : decode mX11_partByPanes.2.1 17 = .ok (.invokevirtual 345, 3) := by decide +kernel
theorem dX11_partByPanes_20 : decode mX11_partByPanes.2.1 20 = .ok (.iconst 0, 1) := by decide +kernel
theorem dX11_partByPanes_21 : decode mX11_partByPanes.2.1 21 = .ok (.istore_n 3, 1) := by decide +kernel
theorem dX11_partByPanes_22 : decode mX11_partByPanes.2.1 22 = .ok (.iload_n 3, 1) := by decide +kernel
theorem dX11_partByPanes_23 : decode mX11_partByPanes.2.1 23 = .ok (.aload_n 0, 1) := by decide +kernel
theorem dX11_partByPanes_24 : decode mX11_partByPanes.2.1 24 = .ok (.getfield 28, 3) := by decide +kernel
theorem dX11_partByPanes_27 : decode mX11_partByPanes.2.1 27 = .ok (.getfield 357, 3) := by decide +kernel
theorem dX11_partByPanes_30 : decode mX11_partByPanes.2.1 30 = .ok (.if_icmp .ge 29, 3) := by decide +kernel
theorem dX11_partByPanes_33 : decode mX11_partByPanes.2.1 33 = .ok (.aload_n 0, 1) := by decide +kernel
theorem dX11_partByPanes_34 : decode mX11_partByPanes.2.1 34 = .ok (.getfield 62, 3) := by decide +kernel
theorem dX11_partByPanes_37 : decode mX11_partByPanes.2.1 37 = .ok (.aload_n 0, 1) := by decide +kernel
theorem dX11_partByPanes_38 : decode mX11_partByPanes.2.1 38 = .ok (.getfield 28, 3) := by decide +kernel
theorem dX11_partByPanes_41 : decode mX11_partByPanes.2.1 41 = .ok (.aload_n 0, 1) := by decide +kernel
theorem dX11_partByPanes_42 : decode mX11_partByPanes.2.1 42 = .ok (.getfield 35, 3) := by decide +kernel
theorem dX11_partByPanes_45 : decode mX11_partByPanes.2.1 45 = .ok (.iload_n 3, 1) := by decide +kernel
theorem dX11_partByPanes_46 : decode mX11_partByPanes.2.1 46 = .ok (.iload_n 2, 1) := by decide +kernel
theorem dX11_partByPanes_47 : decode mX11_partByPanes.2.1 47 = .ok (.invokevirtual 205, 3) := by decide +kernel
theorem dX11_partByPanes_50 : decode mX11_partByPanes.2.1 50 = .ok (.invokevirtual 346, 3) := by decide +kernel
theorem dX11_partByPanes_53 : decode mX11_partByPanes.2.1 53 = .ok (.iinc 3 1, 3) := by decide +kernel
theorem dX11_partByPanes_56 : decode mX11_partByPanes.2.1 56 = .ok (.goto (-34), 3) := by decide +kernel
theorem dX11_partByPanes_59 : decode mX11_partByPanes.2.1 59 = .ok (.return_, 1) := by decide +kernel
theorem dX11_best_0 : decode mX11_best.2.1 0 = .ok (.aload_n 0, 1) := by decide +kernel
theorem dX11_best_1 : decode mX11_best.2.1 1 = .ok (.getfield 28, 3) := by decide +kernel
theorem dX11_best_4 : decode mX11_best.2.1 4 = .ok (.iload_n 1, 1) := by decide +kernel
theorem dX11_best_5 : decode mX11_best.2.1 5 = .ok (.invokevirtual 209, 3) := by decide +kernel
theorem dX11_best_8 : decode mX11_best.2.1 8 = .ok (.ifCond .ne 5, 3) := by decide +kernel
theorem dX11_best_11 : decode mX11_best.2.1 11 = .ok (.iconst (-1), 1) := by decide +kernel
theorem dX11_best_12 : decode mX11_best.2.1 12 = .ok (.ireturn, 1) := by decide +kernel
theorem dX11_best_13 : decode mX11_best.2.1 13 = .ok (.aload_n 0, 1) := by decide +kernel
theorem dX11_best_14 : decode mX11_best.2.1 14 = .ok (.getfield 28, 3) := by decide +kernel
theorem dX11_best_17 : decode mX11_best.2.1 17 = .ok (.aload_n 0, 1) := by decide +kernel
theorem dX11_best_18 : decode mX11_best.2.1 18 = .ok (.getfield 35, 3) := by decide +kernel
theorem dX11_best_21 : decode mX11_best.2.1 21 = .ok (.iload_n 1, 1) := by decide +kernel
theorem dX11_best_22 : decode mX11_best.2.1 22 = .ok (.invokevirtual 218, 3) := by decide +kernel
theorem dX11_best_25 : decode mX11_best.2.1 25 = .ok (.istore_n 2, 1) := by decide +kernel
theorem dX11_best_26 : decode mX11_best.2.1 26 = .ok (.iload_n 2, 1) := by decide +kernel
theorem dX11_best_27 : decode mX11_best.2.1 27 = .ok (.ifCond .ne 6, 3) := by decide +kernel
theorem dX11_best_30 : decode mX11_best.2.1 30 = .ok (.bipush (-2), 2) := by decide +kernel
theorem dX11_best_32 : decode mX11_best.2.1 32 = .ok (.ireturn, 1) := by decide +kernel
theorem dX11_best_33 : decode mX11_best.2.1 33 = .ok (.aload_n 0, 1) := by decide +kernel
theorem dX11_best_34 : decode mX11_best.2.1 34 = .ok (.iload_n 1, 1) := by decide +kernel
theorem dX11_best_35 : decode mX11_best.2.1 35 = .ok (.invokevirtual 354, 3) := by decide +kernel
theorem dX11_best_38 : decode mX11_best.2.1 38 = .ok (.iconst (-1), 1) := by decide +kernel
theorem dX11_best_39 : decode mX11_best.2.1 39 = .ok (.istore_n 3, 1) := by decide +kernel
theorem dX11_best_40 : decode mX11_best.2.1 40 = .ok (.bipush 9, 2) := by decide +kernel
theorem dX11_best_42 : decode mX11_best.2.1 42 = .ok (.istore 4, 2) := by decide +kernel
theorem dX11_best_44 : decode mX11_best.2.1 44 = .ok (.iconst 0, 1) := by decide +kernel
theorem dX11_best_45 : decode mX11_best.2.1 45 = .ok (.istore 5, 2) := by decide +kernel
theorem dX11_best_47 : decode mX11_best.2.1 47 = .ok (.iload 5, 2) := by decide +kernel
theorem dX11_best_49 : decode mX11_best.2.1 49 = .ok (.aload_n 0, 1) := by decide +kernel
theorem dX11_best_50 : decode mX11_best.2.1 50 = .ok (.getfield 28, 3) := by decide +kernel
theorem dX11_best_53 : decode mX11_best.2.1 53 = .ok (.getfield 357, 3) := by decide +kernel
theorem dX11_best_56 : decode mX11_best.2.1 56 = .ok (.if_icmp .ge 52, 3) := by decide +kernel
theorem dX11_best_59 : decode mX11_best.2.1 59 = .ok (.aload_n 0, 1) := by decide +kernel
theorem dX11_best_60 : decode mX11_best.2.1 60 = .ok (.getfield 62, 3) := by decide +kernel
theorem dX11_best_63 : decode mX11_best.2.1 63 = .ok (.iload_n 2, 1) := by decide +kernel
theorem dX11_best_64 : decode mX11_best.2.1 64 = .ok (.iconst 1, 1) := by decide +kernel
theorem dX11_best_65 : decode mX11_best.2.1 65 = .ok (.iload 5, 2) := by decide +kernel
theorem dX11_best_67 : decode mX11_best.2.1 67 = .ok (.ishl, 1) := by decide +kernel
theorem dX11_best_68 : decode mX11_best.2.1 68 = .ok (.iconst (-1), 1) := by decide +kernel
theorem dX11_best_69 : decode mX11_best.2.1 69 = .ok (.ixor, 1) := by decide +kernel
theorem dX11_best_70 : decode mX11_best.2.1 70 = .ok (.iand, 1) := by decide +kernel
theorem dX11_best_71 : decode mX11_best.2.1 71 = .ok (.invokevirtual 360, 3) := by decide +kernel
theorem dX11_best_74 : decode mX11_best.2.1 74 = .ok (.invokestatic 254, 3) := by decide +kernel
theorem dX11_best_77 : decode mX11_best.2.1 77 = .ok (.istore 6, 2) := by decide +kernel
theorem dX11_best_79 : decode mX11_best.2.1 79 = .ok (.iload_n 2, 1) := by decide +kernel
theorem dX11_best_80 : decode mX11_best.2.1 80 = .ok (.iload 5, 2) := by decide +kernel
theorem dX11_best_82 : decode mX11_best.2.1 82 = .ok (.invokestatic 363, 3) := by decide +kernel
theorem dX11_best_85 : decode mX11_best.2.1 85 = .ok (.ifCond .eq 17, 3) := by decide +kernel
theorem dX11_best_88 : decode mX11_best.2.1 88 = .ok (.iload 6, 2) := by decide +kernel
theorem dX11_best_90 : decode mX11_best.2.1 90 = .ok (.iload 4, 2) := by decide +kernel
theorem dX11_best_92 : decode mX11_best.2.1 92 = .ok (.if_icmp .ge 10, 3) := by decide +kernel
theorem dX11_best_95 : decode mX11_best.2.1 95 = .ok (.iload 5, 2) := by decide +kernel
theorem dX11_best_97 : decode mX11_best.2.1 97 = .ok (.istore_n 3, 1) := by decide +kernel
theorem dX11_best_98 : decode mX11_best.2.1 98 = .ok (.iload 6, 2) := by decide +kernel
theorem dX11_best_100 : decode mX11_best.2.1 100 = .ok (.istore 4, 2) := by decide +kernel
theorem dX11_best_102 : decode mX11_best.2.1 102 = .ok (.iinc 5 1, 3) := by decide +kernel
theorem dX11_best_105 : decode mX11_best.2.1 105 = .ok (.goto (-58), 3) := by decide +kernel
theorem dX11_best_108 : decode mX11_best.2.1 108 = .ok (.aload_n 0, 1) := by decide +kernel
theorem dX11_best_109 : decode mX11_best.2.1 109 = .ok (.getfield 55, 3) := by decide +kernel
theorem dX11_best_112 : decode mX11_best.2.1 112 = .ok (.iload 4, 2) := by decide +kernel
theorem dX11_best_114 : decode mX11_best.2.1 114 = .ok (.i2l, 1) := by decide +kernel
theorem dX11_best_115 : decode mX11_best.2.1 115 = .ok (.aload_n 0, 1) := by decide +kernel
theorem dX11_best_116 : decode mX11_best.2.1 116 = .ok (.getfield 62, 3) := by decide +kernel
theorem dX11_best_119 : decode mX11_best.2.1 119 = .ok (.iload_n 2, 1) := by decide +kernel
theorem dX11_best_120 : decode mX11_best.2.1 120 = .ok (.invokevirtual 360, 3) := by decide +kernel
theorem dX11_best_123 : decode mX11_best.2.1 123 = .ok (.invokestatic 254, 3) := by decide +kernel
theorem dX11_best_126 : decode mX11_best.2.1 126 = .ok (.i2l, 1) := by decide +kernel
theorem dX11_best_127 : decode mX11_best.2.1 127 = .ok (.invokevirtual 298, 3) := by decide +kernel
theorem dX11_best_130 : decode mX11_best.2.1 130 = .ok (.iload_n 3, 1) := by decide +kernel
theorem dX11_best_131 : decode mX11_best.2.1 131 = .ok (.ireturn, 1) := by decide +kernel
theorem dX11_adds_0 : decode mX11_adds.2.1 0 = .ok (.aload_n 0, 1) := by decide +kernel
theorem dX11_adds_1 : decode mX11_adds.2.1 1 = .ok (.getfield 28, 3) := by decide +kernel
theorem dX11_adds_4 : decode mX11_adds.2.1 4 = .ok (.iload_n 1, 1) := by decide +kernel
theorem dX11_adds_5 : decode mX11_adds.2.1 5 = .ok (.invokevirtual 187, 3) := by decide +kernel
theorem dX11_adds_8 : decode mX11_adds.2.1 8 = .ok (.ifCond .ne 5, 3) := by decide +kernel
theorem dX11_adds_11 : decode mX11_adds.2.1 11 = .ok (.iconst (-1), 1) := by decide +kernel
theorem dX11_adds_12 : decode mX11_adds.2.1 12 = .ok (.ireturn, 1) := by decide +kernel
theorem dX11_adds_13 : decode mX11_adds.2.1 13 = .ok (.aload_n 0, 1) := by decide +kernel
theorem dX11_adds_14 : decode mX11_adds.2.1 14 = .ok (.getfield 35, 3) := by decide +kernel
theorem dX11_adds_17 : decode mX11_adds.2.1 17 = .ok (.getfield 196, 3) := by decide +kernel
theorem dX11_adds_20 : decode mX11_adds.2.1 20 = .ok (.iload_n 1, 1) := by decide +kernel
theorem dX11_adds_21 : decode mX11_adds.2.1 21 = .ok (.iaload, 1) := by decide +kernel
theorem dX11_adds_22 : decode mX11_adds.2.1 22 = .ok (.istore_n 2, 1) := by decide +kernel
theorem dX11_adds_23 : decode mX11_adds.2.1 23 = .ok (.iload_n 2, 1) := by decide +kernel
theorem dX11_adds_24 : decode mX11_adds.2.1 24 = .ok (.iconst (-1), 1) := by decide +kernel
theorem dX11_adds_25 : decode mX11_adds.2.1 25 = .ok (.if_icmp .ne 6, 3) := by decide +kernel
theorem dX11_adds_28 : decode mX11_adds.2.1 28 = .ok (.bipush (-2), 2) := by decide +kernel
theorem dX11_adds_30 : decode mX11_adds.2.1 30 = .ok (.ireturn, 1) := by decide +kernel
theorem dX11_adds_31 : decode mX11_adds.2.1 31 = .ok (.aload_n 0, 1) := by decide +kernel
theorem dX11_adds_32 : decode mX11_adds.2.1 32 = .ok (.iload_n 2, 1) := by decide +kernel
theorem dX11_adds_33 : decode mX11_adds.2.1 33 = .ok (.invokevirtual 354, 3) := by decide +kernel
theorem dX11_adds_36 : decode mX11_adds.2.1 36 = .ok (.aload_n 0, 1) := by decide +kernel
theorem dX11_adds_37 : decode mX11_adds.2.1 37 = .ok (.getfield 62, 3) := by decide +kernel
theorem dX11_adds_40 : decode mX11_adds.2.1 40 = .ok (.iconst 1, 1) := by decide +kernel
theorem dX11_adds_41 : decode mX11_adds.2.1 41 = .ok (.iload_n 1, 1) := by decide +kernel
theorem dX11_adds_42 : decode mX11_adds.2.1 42 = .ok (.ishl, 1) := by decide +kernel
theorem dX11_adds_43 : decode mX11_adds.2.1 43 = .ok (.invokevirtual 360, 3) := by decide +kernel
theorem dX11_adds_46 : decode mX11_adds.2.1 46 = .ok (.istore_n 3, 1) := by decide +kernel
theorem dX11_adds_47 : decode mX11_adds.2.1 47 = .ok (.aload_n 0, 1) := by decide +kernel
theorem dX11_adds_48 : decode mX11_adds.2.1 48 = .ok (.getfield 28, 3) := by decide +kernel
theorem dX11_adds_51 : decode mX11_adds.2.1 51 = .ok (.aload_n 0, 1) := by decide +kernel
theorem dX11_adds_52 : decode mX11_adds.2.1 52 = .ok (.getfield 35, 3) := by decide +kernel
theorem dX11_adds_55 : decode mX11_adds.2.1 55 = .ok (.iload_n 2, 1) := by decide +kernel
theorem dX11_adds_56 : decode mX11_adds.2.1 56 = .ok (.invokevirtual 218, 3) := by decide +kernel
theorem dX11_adds_59 : decode mX11_adds.2.1 59 = .ok (.iconst 1, 1) := by decide +kernel
theorem dX11_adds_60 : decode mX11_adds.2.1 60 = .ok (.iload_n 1, 1) := by decide +kernel
theorem dX11_adds_61 : decode mX11_adds.2.1 61 = .ok (.ishl, 1) := by decide +kernel
theorem dX11_adds_62 : decode mX11_adds.2.1 62 = .ok (.iconst (-1), 1) := by decide +kernel
theorem dX11_adds_63 : decode mX11_adds.2.1 63 = .ok (.ixor, 1) := by decide +kernel
theorem dX11_adds_64 : decode mX11_adds.2.1 64 = .ok (.iand, 1) := by decide +kernel
theorem dX11_adds_65 : decode mX11_adds.2.1 65 = .ok (.istore 4, 2) := by decide +kernel
theorem dX11_adds_67 : decode mX11_adds.2.1 67 = .ok (.iconst 0, 1) := by decide +kernel
theorem dX11_adds_68 : decode mX11_adds.2.1 68 = .ok (.istore 5, 2) := by decide +kernel
theorem dX11_adds_70 : decode mX11_adds.2.1 70 = .ok (.iconst 0, 1) := by decide +kernel
theorem dX11_adds_71 : decode mX11_adds.2.1 71 = .ok (.istore 6, 2) := by decide +kernel
theorem dX11_adds_73 : decode mX11_adds.2.1 73 = .ok (.iload 6, 2) := by decide +kernel
theorem dX11_adds_75 : decode mX11_adds.2.1 75 = .ok (.iload 4, 2) := by decide +kernel
theorem dX11_adds_77 : decode mX11_adds.2.1 77 = .ok (.if_icmp .gt 50, 3) := by decide +kernel
theorem dX11_adds_80 : decode mX11_adds.2.1 80 = .ok (.iload 6, 2) := by decide +kernel
theorem dX11_adds_82 : decode mX11_adds.2.1 82 = .ok (.iload 4, 2) := by decide +kernel
theorem dX11_adds_84 : decode mX11_adds.2.1 84 = .ok (.iconst (-1), 1) := by decide +kernel
theorem dX11_adds_85 : decode mX11_adds.2.1 85 = .ok (.ixor, 1) := by decide +kernel
theorem dX11_adds_86 : decode mX11_adds.2.1 86 = .ok (.iand, 1) := by decide +kernel
theorem dX11_adds_87 : decode mX11_adds.2.1 87 = .ok (.ifCond .ne 7, 3) := by decide +kernel
theorem dX11_adds_90 : decode mX11_adds.2.1 90 = .ok (.iconst 1, 1) := by decide +kernel
theorem dX11_adds_91 : decode mX11_adds.2.1 91 = .ok (.goto 4, 3) := by decide +kernel
theorem dX11_adds_94 : decode mX11_adds.2.1 94 = .ok (.iconst 0, 1) := by decide +kernel
theorem dX11_adds_95 : decode mX11_adds.2.1 95 = .ok (.istore 7, 2) := by decide +kernel
theorem dX11_adds_97 : decode mX11_adds.2.1 97 = .ok (.iload 7, 2) := by decide +kernel
theorem dX11_adds_99 : decode mX11_adds.2.1 99 = .ok (.ifCond .eq 22, 3) := by decide +kernel
theorem dX11_adds_102 : decode mX11_adds.2.1 102 = .ok (.iload_n 3, 1) := by decide +kernel
theorem dX11_adds_103 : decode mX11_adds.2.1 103 = .ok (.aload_n 0, 1) := by decide +kernel
theorem dX11_adds_104 : decode mX11_adds.2.1 104 = .ok (.getfield 62, 3) := by decide +kernel
theorem dX11_adds_107 : decode mX11_adds.2.1 107 = .ok (.iload 6, 2) := by decide +kernel
theorem dX11_adds_109 : decode mX11_adds.2.1 109 = .ok (.invokevirtual 360, 3) := by decide +kernel
theorem dX11_adds_112 : decode mX11_adds.2.1 112 = .ok (.iconst (-1), 1) := by decide +kernel
theorem dX11_adds_113 : decode mX11_adds.2.1 113 = .ok (.ixor, 1) := by decide +kernel
theorem dX11_adds_114 : decode mX11_adds.2.1 114 = .ok (.iand, 1) := by decide +kernel
theorem dX11_adds_115 : decode mX11_adds.2.1 115 = .ok (.ifCond .eq 6, 3) := by decide +kernel
theorem dX11_adds_118 : decode mX11_adds.2.1 118 = .ok (.iinc 5 1, 3) := by decide +kernel
theorem dX11_adds_121 : decode mX11_adds.2.1 121 = .ok (.iinc 6 1, 3) := by decide +kernel
theorem dX11_adds_124 : decode mX11_adds.2.1 124 = .ok (.goto (-51), 3) := by decide +kernel
theorem dX11_adds_127 : decode mX11_adds.2.1 127 = .ok (.aload_n 0, 1) := by decide +kernel
theorem dX11_adds_128 : decode mX11_adds.2.1 128 = .ok (.getfield 55, 3) := by decide +kernel
theorem dX11_adds_131 : decode mX11_adds.2.1 131 = .ok (.iconst 1, 1) := by decide +kernel
theorem dX11_adds_132 : decode mX11_adds.2.1 132 = .ok (.iload 4, 2) := by decide +kernel
theorem dX11_adds_134 : decode mX11_adds.2.1 134 = .ok (.invokestatic 254, 3) := by decide +kernel
theorem dX11_adds_137 : decode mX11_adds.2.1 137 = .ok (.ishl, 1) := by decide +kernel
theorem dX11_adds_138 : decode mX11_adds.2.1 138 = .ok (.i2l, 1) := by decide +kernel
theorem dX11_adds_139 : decode mX11_adds.2.1 139 = .ok (.invokevirtual 330, 3) := by decide +kernel
theorem dX11_adds_142 : decode mX11_adds.2.1 142 = .ok (.iload 5, 2) := by decide +kernel
theorem dX11_adds_144 : decode mX11_adds.2.1 144 = .ok (.ireturn, 1) := by decide +kernel
theorem dX11_steals_0 : decode mX11_steals.2.1 0 = .ok (.aload_n 0, 1) := by decide +kernel
theorem dX11_steals_1 : decode mX11_steals.2.1 1 = .ok (.getfield 28, 3) := by decide +kernel
theorem dX11_steals_4 : decode mX11_steals.2.1 4 = .ok (.iload_n 1, 1) := by decide +kernel
theorem dX11_steals_5 : decode mX11_steals.2.1 5 = .ok (.invokevirtual 263, 3) := by decide +kernel
theorem dX11_steals_8 : decode mX11_steals.2.1 8 = .ok (.ifCond .eq 23, 3) := by decide +kernel
theorem dX11_steals_11 : decode mX11_steals.2.1 11 = .ok (.aload_n 0, 1) := by decide +kernel
theorem dX11_steals_12 : decode mX11_steals.2.1 12 = .ok (.getfield 28, 3) := by decide +kernel
theorem dX11_steals_15 : decode mX11_steals.2.1 15 = .ok (.iload_n 2, 1) := by decide +kernel
theorem dX11_steals_16 : decode mX11_steals.2.1 16 = .ok (.invokevirtual 263, 3) := by decide +kernel
theorem dX11_steals_19 : decode mX11_steals.2.1 19 = .ok (.ifCond .eq 12, 3) := by decide +kernel
theorem dX11_steals_22 : decode mX11_steals.2.1 22 = .ok (.iload_n 3, 1) := by decide +kernel
theorem dX11_steals_23 : decode mX11_steals.2.1 23 = .ok (.iload 4, 2) := by decide +kernel
theorem dX11_steals_25 : decode mX11_steals.2.1 25 = .ok (.invokestatic 367, 3) := by decide +kernel
theorem dX11_steals_28 : decode mX11_steals.2.1 28 = .ok (.ifCond .ne 5, 3) := by decide +kernel
theorem dX11_steals_31 : decode mX11_steals.2.1 31 = .ok (.iconst (-1), 1) := by decide +kernel
theorem dX11_steals_32 : decode mX11_steals.2.1 32 = .ok (.ireturn, 1) := by decide +kernel
theorem dX11_steals_33 : decode mX11_steals.2.1 33 = .ok (.aload_n 0, 1) := by decide +kernel
theorem dX11_steals_34 : decode mX11_steals.2.1 34 = .ok (.getfield 71, 3) := by decide +kernel
theorem dX11_steals_37 : decode mX11_steals.2.1 37 = .ok (.aload_n 0, 1) := by decide +kernel
theorem dX11_steals_38 : decode mX11_steals.2.1 38 = .ok (.getfield 71, 3) := by decide +kernel
theorem dX11_steals_41 : decode mX11_steals.2.1 41 = .ok (.aload_n 0, 1) := by decide +kernel
theorem dX11_steals_42 : decode mX11_steals.2.1 42 = .ok (.getfield 35, 3) := by decide +kernel
theorem dX11_steals_45 : decode mX11_steals.2.1 45 = .ok (.aload_n 0, 1) := by decide +kernel
theorem dX11_steals_46 : decode mX11_steals.2.1 46 = .ok (.getfield 35, 3) := by decide +kernel
theorem dX11_steals_49 : decode mX11_steals.2.1 49 = .ok (.getfield 280, 3) := by decide +kernel
theorem dX11_steals_52 : decode mX11_steals.2.1 52 = .ok (.iload_n 3, 1) := by decide +kernel
theorem dX11_steals_53 : decode mX11_steals.2.1 53 = .ok (.iload 4, 2) := by decide +kernel
theorem dX11_steals_55 : decode mX11_steals.2.1 55 = .ok (.invokevirtual 370, 3) := by decide +kernel
theorem dX11_steals_58 : decode mX11_steals.2.1 58 = .ok (.iload_n 1, 1) := by decide +kernel
theorem dX11_steals_59 : decode mX11_steals.2.1 59 = .ok (.iload_n 2, 1) := by decide +kernel
theorem dX11_steals_60 : decode mX11_steals.2.1 60 = .ok (.aload_n 0, 1) := by decide +kernel
theorem dX11_steals_61 : decode mX11_steals.2.1 61 = .ok (.getfield 55, 3) := by decide +kernel
theorem dX11_steals_64 : decode mX11_steals.2.1 64 = .ok (.invokevirtual 374, 3) := by decide +kernel
theorem dX11_steals_67 : decode mX11_steals.2.1 67 = .ok (.ireturn, 1) := by decide +kernel
theorem dX11_slips_0 : decode mX11_slips.2.1 0 = .ok (.aload_n 0, 1) := by decide +kernel
theorem dX11_slips_1 : decode mX11_slips.2.1 1 = .ok (.getfield 28, 3) := by decide +kernel
theorem dX11_slips_4 : decode mX11_slips.2.1 4 = .ok (.iload_n 1, 1) := by decide +kernel
theorem dX11_slips_5 : decode mX11_slips.2.1 5 = .ok (.invokevirtual 263, 3) := by decide +kernel
theorem dX11_slips_8 : decode mX11_slips.2.1 8 = .ok (.ifCond .eq 23, 3) := by decide +kernel
theorem dX11_slips_11 : decode mX11_slips.2.1 11 = .ok (.aload_n 0, 1) := by decide +kernel
theorem dX11_slips_12 : decode mX11_slips.2.1 12 = .ok (.getfield 28, 3) := by decide +kernel
theorem dX11_slips_15 : decode mX11_slips.2.1 15 = .ok (.iload_n 2, 1) := by decide +kernel
theorem dX11_slips_16 : decode mX11_slips.2.1 16 = .ok (.invokevirtual 263, 3) := by decide +kernel
theorem dX11_slips_19 : decode mX11_slips.2.1 19 = .ok (.ifCond .eq 12, 3) := by decide +kernel
theorem dX11_slips_22 : decode mX11_slips.2.1 22 = .ok (.iload_n 3, 1) := by decide +kernel
theorem dX11_slips_23 : decode mX11_slips.2.1 23 = .ok (.iload 4, 2) := by decide +kernel
theorem dX11_slips_25 : decode mX11_slips.2.1 25 = .ok (.invokestatic 367, 3) := by decide +kernel
theorem dX11_slips_28 : decode mX11_slips.2.1 28 = .ok (.ifCond .ne 5, 3) := by decide +kernel
theorem dX11_slips_31 : decode mX11_slips.2.1 31 = .ok (.iconst (-1), 1) := by decide +kernel
theorem dX11_slips_32 : decode mX11_slips.2.1 32 = .ok (.ireturn, 1) := by decide +kernel
theorem dX11_slips_33 : decode mX11_slips.2.1 33 = .ok (.lconst 1, 1) := by decide +kernel
theorem dX11_slips_34 : decode mX11_slips.2.1 34 = .ok (.iload_n 1, 1) := by decide +kernel
theorem dX11_slips_35 : decode mX11_slips.2.1 35 = .ok (.lshl, 1) := by decide +kernel
theorem dX11_slips_36 : decode mX11_slips.2.1 36 = .ok (.aload_n 0, 1) := by decide +kernel
theorem dX11_slips_37 : decode mX11_slips.2.1 37 = .ok (.getfield 71, 3) := by decide +kernel
theorem dX11_slips_40 : decode mX11_slips.2.1 40 = .ok (.aload_n 0, 1) := by decide +kernel
theorem dX11_slips_41 : decode mX11_slips.2.1 41 = .ok (.getfield 35, 3) := by decide +kernel
theorem dX11_slips_44 : decode mX11_slips.2.1 44 = .ok (.aload_n 0, 1) := by decide +kernel
theorem dX11_slips_45 : decode mX11_slips.2.1 45 = .ok (.getfield 35, 3) := by decide +kernel
theorem dX11_slips_48 : decode mX11_slips.2.1 48 = .ok (.getfield 280, 3) := by decide +kernel
theorem dX11_slips_51 : decode mX11_slips.2.1 51 = .ok (.iload_n 3, 1) := by decide +kernel
theorem dX11_slips_52 : decode mX11_slips.2.1 52 = .ok (.iload 4, 2) := by decide +kernel
theorem dX11_slips_54 : decode mX11_slips.2.1 54 = .ok (.invokevirtual 370, 3) := by decide +kernel
theorem dX11_slips_57 : decode mX11_slips.2.1 57 = .ok (.land, 1) := by decide +kernel
theorem dX11_slips_58 : decode mX11_slips.2.1 58 = .ok (.lstore 5, 2) := by decide +kernel
theorem dX11_slips_60 : decode mX11_slips.2.1 60 = .ok (.iconst 0, 1) := by decide +kernel
theorem dX11_slips_61 : decode mX11_slips.2.1 61 = .ok (.istore 7, 2) := by decide +kernel
theorem dX11_slips_63 : decode mX11_slips.2.1 63 = .ok (.iload 7, 2) := by decide +kernel
theorem dX11_slips_65 : decode mX11_slips.2.1 65 = .ok (.bipush 60, 2) := by decide +kernel
theorem dX11_slips_67 : decode mX11_slips.2.1 67 = .ok (.if_icmp .gt 71, 3) := by decide +kernel
theorem dX11_slips_70 : decode mX11_slips.2.1 70 = .ok (.lload 5, 2) := by decide +kernel
theorem dX11_slips_72 : decode mX11_slips.2.1 72 = .ok (.lconst 0, 1) := by decide +kernel
theorem dX11_slips_73 : decode mX11_slips.2.1 73 = .ok (.lcmp, 1) := by decide +kernel
theorem dX11_slips_74 : decode mX11_slips.2.1 74 = .ok (.ifCond .eq 64, 3) := by decide +kernel
theorem dX11_slips_77 : decode mX11_slips.2.1 77 = .ok (.lload 5, 2) := by decide +kernel
theorem dX11_slips_79 : decode mX11_slips.2.1 79 = .ok (.iload_n 2, 1) := by decide +kernel
theorem dX11_slips_80 : decode mX11_slips.2.1 80 = .ok (.lushr, 1) := by decide +kernel
theorem dX11_slips_81 : decode mX11_slips.2.1 81 = .ok (.lconst 1, 1) := by decide +kernel
theorem dX11_slips_82 : decode mX11_slips.2.1 82 = .ok (.land, 1) := by decide +kernel
theorem dX11_slips_83 : decode mX11_slips.2.1 83 = .ok (.lconst 0, 1) := by decide +kernel
theorem dX11_slips_84 : decode mX11_slips.2.1 84 = .ok (.lcmp, 1) := by decide +kernel
theorem dX11_slips_85 : decode mX11_slips.2.1 85 = .ok (.ifCond .eq 6, 3) := by decide +kernel
theorem dX11_slips_88 : decode mX11_slips.2.1 88 = .ok (.iload 7, 2) := by decide +kernel
theorem dX11_slips_90 : decode mX11_slips.2.1 90 = .ok (.ireturn, 1) := by decide +kernel
theorem dX11_slips_91 : decode mX11_slips.2.1 91 = .ok (.lload 5, 2) := by decide +kernel
theorem dX11_slips_93 : decode mX11_slips.2.1 93 = .ok (.aload_n 0, 1) := by decide +kernel
theorem dX11_slips_94 : decode mX11_slips.2.1 94 = .ok (.getfield 71, 3) := by decide +kernel
theorem dX11_slips_97 : decode mX11_slips.2.1 97 = .ok (.lload 5, 2) := by decide +kernel
theorem dX11_slips_99 : decode mX11_slips.2.1 99 = .ok (.invokevirtual 378, 3) := by decide +kernel
theorem dX11_slips_102 : decode mX11_slips.2.1 102 = .ok (.lor, 1) := by decide +kernel
theorem dX11_slips_103 : decode mX11_slips.2.1 103 = .ok (.aload_n 0, 1) := by decide +kernel
theorem dX11_slips_104 : decode mX11_slips.2.1 104 = .ok (.getfield 71, 3) := by decide +kernel
theorem dX11_slips_107 : decode mX11_slips.2.1 107 = .ok (.aload_n 0, 1) := by decide +kernel
theorem dX11_slips_108 : decode mX11_slips.2.1 108 = .ok (.getfield 35, 3) := by decide +kernel
theorem dX11_slips_111 : decode mX11_slips.2.1 111 = .ok (.aload_n 0, 1) := by decide +kernel
theorem dX11_slips_112 : decode mX11_slips.2.1 112 = .ok (.getfield 35, 3) := by decide +kernel
theorem dX11_slips_115 : decode mX11_slips.2.1 115 = .ok (.getfield 280, 3) := by decide +kernel
theorem dX11_slips_118 : decode mX11_slips.2.1 118 = .ok (.iload 7, 2) := by decide +kernel
theorem dX11_slips_120 : decode mX11_slips.2.1 120 = .ok (.iadd, 1) := by decide +kernel
theorem dX11_slips_121 : decode mX11_slips.2.1 121 = .ok (.iconst 1, 1) := by decide +kernel
theorem dX11_slips_122 : decode mX11_slips.2.1 122 = .ok (.iadd, 1) := by decide +kernel
theorem dX11_slips_123 : decode mX11_slips.2.1 123 = .ok (.iload_n 3, 1) := by decide +kernel
theorem dX11_slips_124 : decode mX11_slips.2.1 124 = .ok (.iload 4, 2) := by decide +kernel
theorem dX11_slips_126 : decode mX11_slips.2.1 126 = .ok (.invokevirtual 370, 3) := by decide +kernel
theorem dX11_slips_129 : decode mX11_slips.2.1 129 = .ok (.land, 1) := by decide +kernel
theorem dX11_slips_130 : decode mX11_slips.2.1 130 = .ok (.lstore 5, 2) := by decide +kernel
theorem dX11_slips_132 : decode mX11_slips.2.1 132 = .ok (.iinc 7 1, 3) := by decide +kernel
theorem dX11_slips_135 : decode mX11_slips.2.1 135 = .ok (.goto (-72), 3) := by decide +kernel
theorem dX11_slips_138 : decode mX11_slips.2.1 138 = .ok (.bipush (-2), 2) := by decide +kernel
theorem dX11_slips_140 : decode mX11_slips.2.1 140 = .ok (.ireturn, 1) := by decide +kernel
theorem dX11_dark_0 : decode mX11_dark.2.1 0 = .ok (.iload_n 1, 1) := by decide +kernel
theorem dX11_dark_1 : decode mX11_dark.2.1 1 = .ok (.iload_n 2, 1) := by decide +kernel
theorem dX11_dark_2 : decode mX11_dark.2.1 2 = .ok (.invokestatic 367, 3) := by decide +kernel
theorem dX11_dark_5 : decode mX11_dark.2.1 5 = .ok (.ifCond .ne 7, 3) := by decide +kernel
theorem dX11_dark_8 : decode mX11_dark.2.1 8 = .ok (.ldc2_w 382, 3) := by decide +kernel
theorem dX11_dark_11 : decode mX11_dark.2.1 11 = .ok (.lreturn, 1) := by decide +kernel
theorem dX11_dark_12 : decode mX11_dark.2.1 12 = .ok (.aload_n 0, 1) := by decide +kernel
theorem dX11_dark_13 : decode mX11_dark.2.1 13 = .ok (.getfield 71, 3) := by decide +kernel
theorem dX11_dark_16 : decode mX11_dark.2.1 16 = .ok (.aload_n 0, 1) := by decide +kernel
theorem dX11_dark_17 : decode mX11_dark.2.1 17 = .ok (.getfield 35, 3) := by decide +kernel
theorem dX11_dark_20 : decode mX11_dark.2.1 20 = .ok (.aload_n 0, 1) := by decide +kernel
theorem dX11_dark_21 : decode mX11_dark.2.1 21 = .ok (.getfield 35, 3) := by decide +kernel
theorem dX11_dark_24 : decode mX11_dark.2.1 24 = .ok (.getfield 280, 3) := by decide +kernel
theorem dX11_dark_27 : decode mX11_dark.2.1 27 = .ok (.iload_n 1, 1) := by decide +kernel
theorem dX11_dark_28 : decode mX11_dark.2.1 28 = .ok (.iload_n 2, 1) := by decide +kernel
theorem dX11_dark_29 : decode mX11_dark.2.1 29 = .ok (.invokevirtual 370, 3) := by decide +kernel
theorem dX11_dark_32 : decode mX11_dark.2.1 32 = .ok (.lstore_n 3, 1) := by decide +kernel
theorem dX11_dark_33 : decode mX11_dark.2.1 33 = .ok (.aload_n 0, 1) := by decide +kernel
theorem dX11_dark_34 : decode mX11_dark.2.1 34 = .ok (.getfield 55, 3) := by decide +kernel
theorem dX11_dark_37 : decode mX11_dark.2.1 37 = .ok (.lload_n 3, 1) := by decide +kernel
theorem dX11_dark_38 : decode mX11_dark.2.1 38 = .ok (.invokestatic 384, 3) := by decide +kernel
theorem dX11_dark_41 : decode mX11_dark.2.1 41 = .ok (.i2l, 1) := by decide +kernel
theorem dX11_dark_42 : decode mX11_dark.2.1 42 = .ok (.invokevirtual 330, 3) := by decide +kernel
theorem dX11_dark_45 : decode mX11_dark.2.1 45 = .ok (.lload_n 3, 1) := by decide +kernel
theorem dX11_dark_46 : decode mX11_dark.2.1 46 = .ok (.lreturn, 1) := by decide +kernel
theorem dX11_watched_0 : decode mX11_watched.2.1 0 = .ok (.iload_n 1, 1) := by decide +kernel
theorem dX11_watched_1 : decode mX11_watched.2.1 1 = .ok (.iload_n 2, 1) := by decide +kernel
theorem dX11_watched_2 : decode mX11_watched.2.1 2 = .ok (.invokestatic 367, 3) := by decide +kernel
theorem dX11_watched_5 : decode mX11_watched.2.1 5 = .ok (.ifCond .eq 12, 3) := by decide +kernel
theorem dX11_watched_8 : decode mX11_watched.2.1 8 = .ok (.iload_n 3, 1) := by decide +kernel
theorem dX11_watched_9 : decode mX11_watched.2.1 9 = .ok (.ifCond .lt 8, 3) := by decide +kernel
theorem dX11_watched_12 : decode mX11_watched.2.1 12 = .ok (.iload_n 3, 1) := by decide +kernel
theorem dX11_watched_13 : decode mX11_watched.2.1 13 = .ok (.iconst 1, 1) := by decide +kernel
theorem dX11_watched_14 : decode mX11_watched.2.1 14 = .ok (.if_icmp .le 5, 3) := by decide +kernel
theorem dX11_watched_17 : decode mX11_watched.2.1 17 = .ok (.iconst (-1), 1) := by decide +kernel
theorem dX11_watched_18 : decode mX11_watched.2.1 18 = .ok (.ireturn, 1) := by decide +kernel
theorem dX11_watched_19 : decode mX11_watched.2.1 19 = .ok (.aload_n 0, 1) := by decide +kernel
theorem dX11_watched_20 : decode mX11_watched.2.1 20 = .ok (.getfield 78, 3) := by decide +kernel
theorem dX11_watched_23 : decode mX11_watched.2.1 23 = .ok (.iload_n 1, 1) := by decide +kernel
theorem dX11_watched_24 : decode mX11_watched.2.1 24 = .ok (.iload_n 2, 1) := by decide +kernel
theorem dX11_watched_25 : decode mX11_watched.2.1 25 = .ok (.iload_n 3, 1) := by decide +kernel
theorem dX11_watched_26 : decode mX11_watched.2.1 26 = .ok (.iconst 1, 1) := by decide +kernel
theorem dX11_watched_27 : decode mX11_watched.2.1 27 = .ok (.if_icmp .ne 7, 3) := by decide +kernel
theorem dX11_watched_30 : decode mX11_watched.2.1 30 = .ok (.iconst 1, 1) := by decide +kernel
theorem dX11_watched_31 : decode mX11_watched.2.1 31 = .ok (.goto 4, 3) := by decide +kernel
theorem dX11_watched_34 : decode mX11_watched.2.1 34 = .ok (.iconst 0, 1) := by decide +kernel
theorem dX11_watched_35 : decode mX11_watched.2.1 35 = .ok (.invokevirtual 389, 3) := by decide +kernel
theorem dX11_watched_38 : decode mX11_watched.2.1 38 = .ok (.ireturn, 1) := by decide +kernel
theorem dX11_forget_0 : decode mX11_forget.2.1 0 = .ok (.aload_n 0, 1) := by decide +kernel
theorem dX11_forget_1 : decode mX11_forget.2.1 1 = .ok (.getfield 78, 3) := by decide +kernel
theorem dX11_forget_4 : decode mX11_forget.2.1 4 = .ok (.invokevirtual 126, 3) := by decide +kernel
theorem dX11_forget_7 : decode mX11_forget.2.1 7 = .ok (.ireturn, 1) := by decide +kernel
theorem dX11_laws_0 : decode mX11_laws.2.1 0 = .ok (.aload_n 0, 1) := by decide +kernel
theorem dX11_laws_1 : decode mX11_laws.2.1 1 = .ok (.getfield 78, 3) := by decide +kernel
theorem dX11_laws_4 : decode mX11_laws.2.1 4 = .ok (.invokevirtual 392, 3) := by decide +kernel
theorem dX11_laws_7 : decode mX11_laws.2.1 7 = .ok (.istore_n 1, 1) := by decide +kernel
theorem dX11_laws_8 : decode mX11_laws.2.1 8 = .ok (.aload_n 0, 1) := by decide +kernel
theorem dX11_laws_9 : decode mX11_laws.2.1 9 = .ok (.getfield 55, 3) := by decide +kernel
theorem dX11_laws_12 : decode mX11_laws.2.1 12 = .ok (.invokevirtual 266, 3) := by decide +kernel
theorem dX11_laws_15 : decode mX11_laws.2.1 15 = .ok (.aload_n 0, 1) := by decide +kernel
theorem dX11_laws_16 : decode mX11_laws.2.1 16 = .ok (.getfield 78, 3) := by decide +kernel
theorem dX11_laws_19 : decode mX11_laws.2.1 19 = .ok (.invokevirtual 395, 3) := by decide +kernel
theorem dX11_laws_22 : decode mX11_laws.2.1 22 = .ok (.istore_n 2, 1) := by decide +kernel
theorem dX11_laws_23 : decode mX11_laws.2.1 23 = .ok (.iload_n 2, 1) := by decide +kernel
theorem dX11_laws_24 : decode mX11_laws.2.1 24 = .ok (.iconst (-1), 1) := by decide +kernel
theorem dX11_laws_25 : decode mX11_laws.2.1 25 = .ok (.if_icmp .eq 21, 3) := by decide +kernel
theorem dX11_laws_28 : decode mX11_laws.2.1 28 = .ok (.aload_n 0, 1) := by decide +kernel
theorem dX11_laws_29 : decode mX11_laws.2.1 29 = .ok (.getfield 55, 3) := by decide +kernel
theorem dX11_laws_32 : decode mX11_laws.2.1 32 = .ok (.aload_n 0, 1) := by decide +kernel
theorem dX11_laws_33 : decode mX11_laws.2.1 33 = .ok (.getfield 78, 3) := by decide +kernel
theorem dX11_laws_36 : decode mX11_laws.2.1 36 = .ok (.iload_n 2, 1) := by decide +kernel
theorem dX11_laws_37 : decode mX11_laws.2.1 37 = .ok (.invokevirtual 398, 3) := by decide +kernel
theorem dX11_laws_40 : decode mX11_laws.2.1 40 = .ok (.i2l, 1) := by decide +kernel
theorem dX11_laws_41 : decode mX11_laws.2.1 41 = .ok (.iload_n 2, 1) := by decide +kernel
theorem dX11_laws_42 : decode mX11_laws.2.1 42 = .ok (.i2l, 1) := by decide +kernel
theorem dX11_laws_43 : decode mX11_laws.2.1 43 = .ok (.invokevirtual 298, 3) := by decide +kernel
theorem dX11_laws_46 : decode mX11_laws.2.1 46 = .ok (.iload_n 1, 1) := by decide +kernel
theorem dX11_laws_47 : decode mX11_laws.2.1 47 = .ok (.ireturn, 1) := by decide +kernel
theorem dX11_next_0 : decode mX11_next.2.1 0 = .ok (.aload_n 0, 1) := by decide +kernel
theorem dX11_next_1 : decode mX11_next.2.1 1 = .ok (.getfield 78, 3) := by decide +kernel
theorem dX11_next_4 : decode mX11_next.2.1 4 = .ok (.invokevirtual 392, 3) := by decide +kernel
theorem dX11_next_7 : decode mX11_next.2.1 7 = .ok (.istore_n 1, 1) := by decide +kernel
theorem dX11_next_8 : decode mX11_next.2.1 8 = .ok (.iload_n 1, 1) := by decide +kernel
theorem dX11_next_9 : decode mX11_next.2.1 9 = .ok (.ifCond .ne 6, 3) := by decide +kernel
theorem dX11_next_12 : decode mX11_next.2.1 12 = .ok (.bipush (-2), 2) := by decide +kernel
theorem dX11_next_14 : decode mX11_next.2.1 14 = .ok (.ireturn, 1) := by decide +kernel
theorem dX11_next_15 : decode mX11_next.2.1 15 = .ok (.iconst 0, 1) := by decide +kernel
theorem dX11_next_16 : decode mX11_next.2.1 16 = .ok (.istore_n 2, 1) := by decide +kernel
theorem dX11_next_17 : decode mX11_next.2.1 17 = .ok (.iload_n 1, 1) := by decide +kernel
theorem dX11_next_18 : decode mX11_next.2.1 18 = .ok (.iconst 1, 1) := by decide +kernel
theorem dX11_next_19 : decode mX11_next.2.1 19 = .ok (.iadd, 1) := by decide +kernel
theorem dX11_next_20 : decode mX11_next.2.1 20 = .ok (.istore_n 3, 1) := by decide +kernel
theorem dX11_next_21 : decode mX11_next.2.1 21 = .ok (.iconst 0, 1) := by decide +kernel
theorem dX11_next_22 : decode mX11_next.2.1 22 = .ok (.istore 4, 2) := by decide +kernel
theorem dX11_next_24 : decode mX11_next.2.1 24 = .ok (.iload 4, 2) := by decide +kernel
theorem dX11_next_26 : decode mX11_next.2.1 26 = .ok (.bipush 80, 2) := by decide +kernel
theorem dX11_next_28 : decode mX11_next.2.1 28 = .ok (.if_icmp .ge 51, 3) := by decide +kernel
theorem dX11_next_31 : decode mX11_next.2.1 31 = .ok (.aload_n 0, 1) := by decide +kernel
theorem dX11_next_32 : decode mX11_next.2.1 32 = .ok (.getfield 78, 3) := by decide +kernel
theorem dX11_next_35 : decode mX11_next.2.1 35 = .ok (.iload 4, 2) := by decide +kernel
theorem dX11_next_37 : decode mX11_next.2.1 37 = .ok (.bipush 10, 2) := by decide +kernel
theorem dX11_next_39 : decode mX11_next.2.1 39 = .ok (.idiv, 1) := by decide +kernel
theorem dX11_next_40 : decode mX11_next.2.1 40 = .ok (.iload 4, 2) := by decide +kernel
theorem dX11_next_42 : decode mX11_next.2.1 42 = .ok (.bipush 10, 2) := by decide +kernel
theorem dX11_next_44 : decode mX11_next.2.1 44 = .ok (.irem, 1) := by decide +kernel
theorem dX11_next_45 : decode mX11_next.2.1 45 = .ok (.invokevirtual 401, 3) := by decide +kernel
theorem dX11_next_48 : decode mX11_next.2.1 48 = .ok (.istore 5, 2) := by decide +kernel
theorem dX11_next_50 : decode mX11_next.2.1 50 = .ok (.iload 5, 2) := by decide +kernel
theorem dX11_next_52 : decode mX11_next.2.1 52 = .ok (.iload_n 1, 1) := by decide +kernel
theorem dX11_next_53 : decode mX11_next.2.1 53 = .ok (.iload 5, 2) := by decide +kernel
theorem dX11_next_55 : decode mX11_next.2.1 55 = .ok (.isub, 1) := by decide +kernel
theorem dX11_next_56 : decode mX11_next.2.1 56 = .ok (.invokestatic 404, 3) := by decide +kernel
theorem dX11_next_59 : decode mX11_next.2.1 59 = .ok (.istore 6, 2) := by decide +kernel
theorem dX11_next_61 : decode mX11_next.2.1 61 = .ok (.iload 6, 2) := by decide +kernel
theorem dX11_next_63 : decode mX11_next.2.1 63 = .ok (.iload_n 3, 1) := by decide +kernel
theorem dX11_next_64 : decode mX11_next.2.1 64 = .ok (.if_icmp .ge 9, 3) := by decide +kernel
theorem dX11_next_67 : decode mX11_next.2.1 67 = .ok (.iload 4, 2) := by decide +kernel
theorem dX11_next_69 : decode mX11_next.2.1 69 = .ok (.istore_n 2, 1) := by decide +kernel
theorem dX11_next_70 : decode mX11_next.2.1 70 = .ok (.iload 6, 2) := by decide +kernel
theorem dX11_next_72 : decode mX11_next.2.1 72 = .ok (.istore_n 3, 1) := by decide +kernel
theorem dX11_next_73 : decode mX11_next.2.1 73 = .ok (.iinc 4 1, 3) := by decide +kernel
theorem dX11_next_76 : decode mX11_next.2.1 76 = .ok (.goto (-52), 3) := by decide +kernel
theorem dX11_next_79 : decode mX11_next.2.1 79 = .ok (.aload_n 0, 1) := by decide +kernel
theorem dX11_next_80 : decode mX11_next.2.1 80 = .ok (.getfield 55, 3) := by decide +kernel
theorem dX11_next_83 : decode mX11_next.2.1 83 = .ok (.iload_n 3, 1) := by decide +kernel
theorem dX11_next_84 : decode mX11_next.2.1 84 = .ok (.i2l, 1) := by decide +kernel
theorem dX11_next_85 : decode mX11_next.2.1 85 = .ok (.invokevirtual 330, 3) := by decide +kernel
theorem dX11_next_88 : decode mX11_next.2.1 88 = .ok (.iload_n 2, 1) := by decide +kernel
theorem dX11_next_89 : decode mX11_next.2.1 89 = .ok (.ireturn, 1) := by decide +kernel
theorem dX11_fits_0 : decode mX11_fits.2.1 0 = .ok (.iconst 0, 1) := by decide +kernel
theorem dX11_fits_1 : decode mX11_fits.2.1 1 = .ok (.istore_n 1, 1) := by decide +kernel
theorem dX11_fits_2 : decode mX11_fits.2.1 2 = .ok (.iconst 0, 1) := by decide +kernel
theorem dX11_fits_3 : decode mX11_fits.2.1 3 = .ok (.istore_n 2, 1) := by decide +kernel
theorem dX11_fits_4 : decode mX11_fits.2.1 4 = .ok (.iload_n 2, 1) := by decide +kernel
theorem dX11_fits_5 : decode mX11_fits.2.1 5 = .ok (.aload_n 0, 1) := by decide +kernel
theorem dX11_fits_6 : decode mX11_fits.2.1 6 = .ok (.getfield 28, 3) := by decide +kernel
theorem dX11_fits_9 : decode mX11_fits.2.1 9 = .ok (.getfield 357, 3) := by decide +kernel
theorem dX11_fits_12 : decode mX11_fits.2.1 12 = .ok (.if_icmp .ge 43, 3) := by decide +kernel
theorem dX11_fits_15 : decode mX11_fits.2.1 15 = .ok (.aload_n 0, 1) := by decide +kernel
theorem dX11_fits_16 : decode mX11_fits.2.1 16 = .ok (.getfield 78, 3) := by decide +kernel
theorem dX11_fits_19 : decode mX11_fits.2.1 19 = .ok (.aload_n 0, 1) := by decide +kernel
theorem dX11_fits_20 : decode mX11_fits.2.1 20 = .ok (.getfield 28, 3) := by decide +kernel
theorem dX11_fits_23 : decode mX11_fits.2.1 23 = .ok (.getfield 190, 3) := by decide +kernel
theorem dX11_fits_26 : decode mX11_fits.2.1 26 = .ok (.iload_n 2, 1) := by decide +kernel
theorem dX11_fits_27 : decode mX11_fits.2.1 27 = .ok (.iaload, 1) := by decide +kernel
theorem dX11_fits_28 : decode mX11_fits.2.1 28 = .ok (.aload_n 0, 1) := by decide +kernel
theorem dX11_fits_29 : decode mX11_fits.2.1 29 = .ok (.getfield 28, 3) := by decide +kernel
theorem dX11_fits_32 : decode mX11_fits.2.1 32 = .ok (.getfield 193, 3) := by decide +kernel
theorem dX11_fits_35 : decode mX11_fits.2.1 35 = .ok (.iload_n 2, 1) := by decide +kernel
theorem dX11_fits_36 : decode mX11_fits.2.1 36 = .ok (.iaload, 1) := by decide +kernel
theorem dX11_fits_37 : decode mX11_fits.2.1 37 = .ok (.invokevirtual 409, 3) := by decide +kernel
theorem dX11_fits_40 : decode mX11_fits.2.1 40 = .ok (.ifCond .eq 9, 3) := by decide +kernel
theorem dX11_fits_43 : decode mX11_fits.2.1 43 = .ok (.iload_n 1, 1) := by decide +kernel
theorem dX11_fits_44 : decode mX11_fits.2.1 44 = .ok (.iconst 1, 1) := by decide +kernel
theorem dX11_fits_45 : decode mX11_fits.2.1 45 = .ok (.iload_n 2, 1) := by decide +kernel
theorem dX11_fits_46 : decode mX11_fits.2.1 46 = .ok (.ishl, 1) := by decide +kernel
theorem dX11_fits_47 : decode mX11_fits.2.1 47 = .ok (.ior, 1) := by decide +kernel
theorem dX11_fits_48 : decode mX11_fits.2.1 48 = .ok (.istore_n 1, 1) := by decide +kernel
theorem dX11_fits_49 : decode mX11_fits.2.1 49 = .ok (.iinc 2 1, 3) := by decide +kernel
theorem dX11_fits_52 : decode mX11_fits.2.1 52 = .ok (.goto (-48), 3) := by decide +kernel
theorem dX11_fits_55 : decode mX11_fits.2.1 55 = .ok (.aload_n 0, 1) := by decide +kernel
theorem dX11_fits_56 : decode mX11_fits.2.1 56 = .ok (.getfield 55, 3) := by decide +kernel
theorem dX11_fits_59 : decode mX11_fits.2.1 59 = .ok (.iload_n 1, 1) := by decide +kernel
theorem dX11_fits_60 : decode mX11_fits.2.1 60 = .ok (.invokestatic 254, 3) := by decide +kernel
theorem dX11_fits_63 : decode mX11_fits.2.1 63 = .ok (.i2l, 1) := by decide +kernel
theorem dX11_fits_64 : decode mX11_fits.2.1 64 = .ok (.invokevirtual 330, 3) := by decide +kernel
theorem dX11_fits_67 : decode mX11_fits.2.1 67 = .ok (.iload_n 1, 1) := by decide +kernel
theorem dX11_fits_68 : decode mX11_fits.2.1 68 = .ok (.ireturn, 1) := by decide +kernel
theorem dX11_claims_0 : decode mX11_claims.2.1 0 = .ok (.aload_n 0, 1) := by decide +kernel
theorem dX11_claims_1 : decode mX11_claims.2.1 1 = .ok (.getfield 85, 3) := by decide +kernel
theorem dX11_claims_4 : decode mX11_claims.2.1 4 = .ok (.invokevirtual 412, 3) := by decide +kernel
theorem dX11_claims_7 : decode mX11_claims.2.1 7 = .ok (.aload_n 0, 1) := by decide +kernel
theorem dX11_claims_8 : decode mX11_claims.2.1 8 = .ok (.invokevirtual 413, 3) := by decide +kernel
theorem dX11_claims_11 : decode mX11_claims.2.1 11 = .ok (.istore_n 1, 1) := by decide +kernel
theorem dX11_claims_12 : decode mX11_claims.2.1 12 = .ok (.aload_n 0, 1) := by decide +kernel
theorem dX11_claims_13 : decode mX11_claims.2.1 13 = .ok (.getfield 10, 3) := by decide +kernel
theorem dX11_claims_16 : decode mX11_claims.2.1 16 = .ok (.invokevirtual 115, 3) := by decide +kernel
theorem dX11_claims_19 : decode mX11_claims.2.1 19 = .ok (.iload_n 1, 1) := by decide +kernel
theorem dX11_claims_20 : decode mX11_claims.2.1 20 = .ok (.ifCond .ne 17, 3) := by decide +kernel
theorem dX11_claims_23 : decode mX11_claims.2.1 23 = .ok (.aload_n 0, 1) := by decide +kernel
theorem dX11_claims_24 : decode mX11_claims.2.1 24 = .ok (.getfield 85, 3) := by decide +kernel
theorem dX11_claims_27 : decode mX11_claims.2.1 27 = .ok (.aload_n 0, 1) := by decide +kernel
theorem dX11_claims_28 : decode mX11_claims.2.1 28 = .ok (.getfield 55, 3) := by decide +kernel
theorem dX11_claims_31 : decode mX11_claims.2.1 31 = .ok (.invokevirtual 416, 3) := by decide +kernel
theorem dX11_claims_34 : decode mX11_claims.2.1 34 = .ok (.goto 4, 3) := by decide +kernel
theorem dX11_claims_37 : decode mX11_claims.2.1 37 = .ok (.iload_n 1, 1) := by decide +kernel
theorem dX11_claims_38 : decode mX11_claims.2.1 38 = .ok (.ireturn, 1) := by decide +kernel
theorem dX11_readClaims_0 : decode mX11_readClaims.2.1 0 = .ok (.aload_n 0, 1) := by decide +kernel
theorem dX11_readClaims_1 : decode mX11_readClaims.2.1 1 = .ok (.getfield 21, 3) := by decide +kernel
theorem dX11_readClaims_4 : decode mX11_readClaims.2.1 4 = .ok (.bipush 80, 2) := by decide +kernel
theorem dX11_readClaims_6 : decode mX11_readClaims.2.1 6 = .ok (.invokevirtual 104, 3) := by decide +kernel
theorem dX11_readClaims_9 : decode mX11_readClaims.2.1 9 = .ok (.aload_n 0, 1) := by decide +kernel
theorem dX11_readClaims_10 : decode mX11_readClaims.2.1 10 = .ok (.getfield 10, 3) := by decide +kernel
theorem dX11_readClaims_13 : decode mX11_readClaims.2.1 13 = .ok (.invokevirtual 129, 3) := by decide +kernel
theorem dX11_readClaims_16 : decode mX11_readClaims.2.1 16 = .ok (.ifCond .ne 7, 3) := by decide +kernel
theorem dX11_readClaims_19 : decode mX11_readClaims.2.1 19 = .ok (.iconst 1, 1) := by decide +kernel
theorem dX11_readClaims_20 : decode mX11_readClaims.2.1 20 = .ok (.goto 4, 3) := by decide +kernel
theorem dX11_readClaims_23 : decode mX11_readClaims.2.1 23 = .ok (.iconst 0, 1) := by decide +kernel
theorem dX11_readClaims_24 : decode mX11_readClaims.2.1 24 = .ok (.istore_n 1, 1) := by decide +kernel
theorem dX11_readClaims_25 : decode mX11_readClaims.2.1 25 = .ok (.iconst 0, 1) := by decide +kernel
theorem dX11_readClaims_26 : decode mX11_readClaims.2.1 26 = .ok (.istore_n 2, 1) := by decide +kernel
theorem dX11_readClaims_27 : decode mX11_readClaims.2.1 27 = .ok (.iload_n 1, 1) := by decide +kernel
theorem dX11_readClaims_28 : decode mX11_readClaims.2.1 28 = .ok (.ifCond .eq 63, 3) := by decide +kernel
theorem dX11_readClaims_31 : decode mX11_readClaims.2.1 31 = .ok (.iload_n 2, 1) := by decide +kernel
theorem dX11_readClaims_32 : decode mX11_readClaims.2.1 32 = .ok (.bipush 8, 2) := by decide +kernel
theorem dX11_readClaims_34 : decode mX11_readClaims.2.1 34 = .ok (.if_icmp .ge 57, 3) := by decide +kernel
theorem dX11_readClaims_37 : decode mX11_readClaims.2.1 37 = .ok (.aload_n 0, 1) := by decide +kernel
theorem dX11_readClaims_38 : decode mX11_readClaims.2.1 38 = .ok (.getfield 21, 3) := by decide +kernel
theorem dX11_readClaims_41 : decode mX11_readClaims.2.1 41 = .ok (.invokevirtual 420, 3) := by decide +kernel
theorem dX11_readClaims_44 : decode mX11_readClaims.2.1 44 = .ok (.istore_n 3, 1) := by decide +kernel
theorem dX11_readClaims_45 : decode mX11_readClaims.2.1 45 = .ok (.aload_n 0, 1) := by decide +kernel
theorem dX11_readClaims_46 : decode mX11_readClaims.2.1 46 = .ok (.getfield 21, 3) := by decide +kernel
theorem dX11_readClaims_49 : decode mX11_readClaims.2.1 49 = .ok (.iload_n 3, 1) := by decide +kernel
theorem dX11_readClaims_50 : decode mX11_readClaims.2.1 50 = .ok (.ifCond .eq 7, 3) := by decide +kernel
theorem dX11_readClaims_53 : decode mX11_readClaims.2.1 53 = .ok (.iconst 1, 1) := by decide +kernel
theorem dX11_readClaims_54 : decode mX11_readClaims.2.1 54 = .ok (.goto 4, 3) := by decide +kernel
theorem dX11_readClaims_57 : decode mX11_readClaims.2.1 57 = .ok (.iconst 0, 1) := by decide +kernel
theorem dX11_readClaims_58 : decode mX11_readClaims.2.1 58 = .ok (.invokevirtual 423, 3) := by decide +kernel
theorem dX11_readClaims_61 : decode mX11_readClaims.2.1 61 = .ok (.pop, 1) := by decide +kernel
theorem dX11_readClaims_62 : decode mX11_readClaims.2.1 62 = .ok (.aload_n 0, 1) := by decide +kernel
theorem dX11_readClaims_63 : decode mX11_readClaims.2.1 63 = .ok (.getfield 85, 3) := by decide +kernel
theorem dX11_readClaims_66 : decode mX11_readClaims.2.1 66 = .ok (.aload_n 0, 1) := by decide +kernel
theorem dX11_readClaims_67 : decode mX11_readClaims.2.1 67 = .ok (.getfield 28, 3) := by decide +kernel
theorem dX11_readClaims_70 : decode mX11_readClaims.2.1 70 = .ok (.iload_n 3, 1) := by decide +kernel
theorem dX11_readClaims_71 : decode mX11_readClaims.2.1 71 = .ok (.invokevirtual 427, 3) := by decide +kernel
theorem dX11_readClaims_74 : decode mX11_readClaims.2.1 74 = .ok (.invokevirtual 430, 3) := by decide +kernel
theorem dX11_readClaims_77 : decode mX11_readClaims.2.1 77 = .ok (.aload_n 0, 1) := by decide +kernel
theorem dX11_readClaims_78 : decode mX11_readClaims.2.1 78 = .ok (.getfield 21, 3) := by decide +kernel
theorem dX11_readClaims_81 : decode mX11_readClaims.2.1 81 = .ok (.invokevirtual 431, 3) := by decide +kernel
theorem dX11_readClaims_84 : decode mX11_readClaims.2.1 84 = .ok (.istore_n 1, 1) := by decide +kernel
theorem dX11_readClaims_85 : decode mX11_readClaims.2.1 85 = .ok (.iinc 2 1, 3) := by decide +kernel
theorem dX11_readClaims_88 : decode mX11_readClaims.2.1 88 = .ok (.goto (-61), 3) := by decide +kernel
theorem dX11_readClaims_91 : decode mX11_readClaims.2.1 91 = .ok (.aload_n 0, 1) := by decide +kernel
theorem dX11_readClaims_92 : decode mX11_readClaims.2.1 92 = .ok (.getfield 21, 3) := by decide +kernel
theorem dX11_readClaims_95 : decode mX11_readClaims.2.1 95 = .ok (.iload_n 1, 1) := by decide +kernel
theorem dX11_readClaims_96 : decode mX11_readClaims.2.1 96 = .ok (.ifCond .ne 7, 3) := by decide +kernel
theorem dX11_readClaims_99 : decode mX11_readClaims.2.1 99 = .ok (.iconst 1, 1) := by decide +kernel
theorem dX11_readClaims_100 : decode mX11_readClaims.2.1 100 = .ok (.goto 4, 3) := by decide +kernel
theorem dX11_readClaims_103 : decode mX11_readClaims.2.1 103 = .ok (.iconst 0, 1) := by decide +kernel
theorem dX11_readClaims_104 : decode mX11_readClaims.2.1 104 = .ok (.invokevirtual 423, 3) := by decide +kernel
theorem dX11_readClaims_107 : decode mX11_readClaims.2.1 107 = .ok (.pop, 1) := by decide +kernel
theorem dX11_readClaims_108 : decode mX11_readClaims.2.1 108 = .ok (.aload_n 0, 1) := by decide +kernel
theorem dX11_readClaims_109 : decode mX11_readClaims.2.1 109 = .ok (.getfield 21, 3) := by decide +kernel
theorem dX11_readClaims_112 : decode mX11_readClaims.2.1 112 = .ok (.iconst 0, 1) := by decide +kernel
theorem dX11_readClaims_113 : decode mX11_readClaims.2.1 113 = .ok (.invokevirtual 112, 3) := by decide +kernel
theorem dX11_readClaims_116 : decode mX11_readClaims.2.1 116 = .ok (.ireturn, 1) := by decide +kernel
theorem dX11_balls_0 : decode mX11_balls.2.1 0 = .ok (.aload_n 0, 1) := by decide +kernel
theorem dX11_balls_1 : decode mX11_balls.2.1 1 = .ok (.getfield 28, 3) := by decide +kernel
theorem dX11_balls_4 : decode mX11_balls.2.1 4 = .ok (.iload_n 1, 1) := by decide +kernel
theorem dX11_balls_5 : decode mX11_balls.2.1 5 = .ok (.invokevirtual 209, 3) := by decide +kernel
theorem dX11_balls_8 : decode mX11_balls.2.1 8 = .ok (.ifCond .eq 24, 3) := by decide +kernel
theorem dX11_balls_11 : decode mX11_balls.2.1 11 = .ok (.aload_n 0, 1) := by decide +kernel
theorem dX11_balls_12 : decode mX11_balls.2.1 12 = .ok (.getfield 28, 3) := by decide +kernel
theorem dX11_balls_15 : decode mX11_balls.2.1 15 = .ok (.iload_n 2, 1) := by decide +kernel
theorem dX11_balls_16 : decode mX11_balls.2.1 16 = .ok (.invokevirtual 164, 3) := by decide +kernel
theorem dX11_balls_19 : decode mX11_balls.2.1 19 = .ok (.ifCond .eq 13, 3) := by decide +kernel
theorem dX11_balls_22 : decode mX11_balls.2.1 22 = .ok (.iload_n 3, 1) := by decide +kernel
theorem dX11_balls_23 : decode mX11_balls.2.1 23 = .ok (.ifCond .lt 9, 3) := by decide +kernel
theorem dX11_balls_26 : decode mX11_balls.2.1 26 = .ok (.iload_n 3, 1) := by decide +kernel
theorem dX11_balls_27 : decode mX11_balls.2.1 27 = .ok (.bipush 10, 2) := by decide +kernel
theorem dX11_balls_29 : decode mX11_balls.2.1 29 = .ok (.if_icmp .le 5, 3) := by decide +kernel
theorem dX11_balls_32 : decode mX11_balls.2.1 32 = .ok (.iconst (-1), 1) := by decide +kernel
theorem dX11_balls_33 : decode mX11_balls.2.1 33 = .ok (.ireturn, 1) := by decide +kernel
theorem dX11_balls_34 : decode mX11_balls.2.1 34 = .ok (.aload_n 0, 1) := by decide +kernel
theorem dX11_balls_35 : decode mX11_balls.2.1 35 = .ok (.getfield 28, 3) := by decide +kernel
theorem dX11_balls_38 : decode mX11_balls.2.1 38 = .ok (.aload_n 0, 1) := by decide +kernel
theorem dX11_balls_39 : decode mX11_balls.2.1 39 = .ok (.getfield 35, 3) := by decide +kernel
theorem dX11_balls_42 : decode mX11_balls.2.1 42 = .ok (.iload_n 1, 1) := by decide +kernel
theorem dX11_balls_43 : decode mX11_balls.2.1 43 = .ok (.iload_n 2, 1) := by decide +kernel
theorem dX11_balls_44 : decode mX11_balls.2.1 44 = .ok (.invokevirtual 326, 3) := by decide +kernel
theorem dX11_balls_47 : decode mX11_balls.2.1 47 = .ok (.ifCond .eq 14, 3) := by decide +kernel
theorem dX11_balls_50 : decode mX11_balls.2.1 50 = .ok (.aload_n 0, 1) := by decide +kernel
theorem dX11_balls_51 : decode mX11_balls.2.1 51 = .ok (.getfield 55, 3) := by decide +kernel
theorem dX11_balls_54 : decode mX11_balls.2.1 54 = .ok (.lconst 1, 1) := by decide +kernel
theorem dX11_balls_55 : decode mX11_balls.2.1 55 = .ok (.lconst 1, 1) := by decide +kernel
theorem dX11_balls_56 : decode mX11_balls.2.1 56 = .ok (.invokevirtual 298, 3) := by decide +kernel
theorem dX11_balls_59 : decode mX11_balls.2.1 59 = .ok (.iconst 0, 1) := by decide +kernel
theorem dX11_balls_60 : decode mX11_balls.2.1 60 = .ok (.ireturn, 1) := by decide +kernel
theorem dX11_balls_61 : decode mX11_balls.2.1 61 = .ok (.aload_n 0, 1) := by decide +kernel
theorem dX11_balls_62 : decode mX11_balls.2.1 62 = .ok (.getfield 28, 3) := by decide +kernel
theorem dX11_balls_65 : decode mX11_balls.2.1 65 = .ok (.aload_n 0, 1) := by decide +kernel
theorem dX11_balls_66 : decode mX11_balls.2.1 66 = .ok (.getfield 35, 3) := by decide +kernel
theorem dX11_balls_69 : decode mX11_balls.2.1 69 = .ok (.iload_n 1, 1) := by decide +kernel
theorem dX11_balls_70 : decode mX11_balls.2.1 70 = .ok (.invokevirtual 224, 3) := by decide +kernel
theorem dX11_balls_73 : decode mX11_balls.2.1 73 = .ok (.iload_n 2, 1) := by decide +kernel
theorem dX11_balls_74 : decode mX11_balls.2.1 74 = .ok (.invokestatic 363, 3) := by decide +kernel
theorem dX11_balls_77 : decode mX11_balls.2.1 77 = .ok (.istore 4, 2) := by decide +kernel
theorem dX11_balls_79 : decode mX11_balls.2.1 79 = .ok (.iload 4, 2) := by decide +kernel
theorem dX11_balls_81 : decode mX11_balls.2.1 81 = .ok (.ifCond .eq 21, 3) := by decide +kernel
theorem dX11_balls_84 : decode mX11_balls.2.1 84 = .ok (.aload_n 0, 1) := by decide +kernel
theorem dX11_balls_85 : decode mX11_balls.2.1 85 = .ok (.getfield 28, 3) := by decide +kernel
theorem dX11_balls_88 : decode mX11_balls.2.1 88 = .ok (.aload_n 0, 1) := by decide +kernel
theorem dX11_balls_89 : decode mX11_balls.2.1 89 = .ok (.getfield 35, 3) := by decide +kernel
theorem dX11_balls_92 : decode mX11_balls.2.1 92 = .ok (.iload_n 1, 1) := by decide +kernel
theorem dX11_balls_93 : decode mX11_balls.2.1 93 = .ok (.invokevirtual 218, 3) := by decide +kernel
theorem dX11_balls_96 : decode mX11_balls.2.1 96 = .ok (.invokestatic 254, 3) := by decide +kernel
theorem dX11_balls_99 : decode mX11_balls.2.1 99 = .ok (.goto 4, 3) := by decide +kernel
theorem dX11_balls_102 : decode mX11_balls.2.1 102 = .ok (.iconst 0, 1) := by decide +kernel
theorem dX11_balls_103 : decode mX11_balls.2.1 103 = .ok (.istore 5, 2) := by decide +kernel
theorem dX11_balls_105 : decode mX11_balls.2.1 105 = .ok (.lconst 1, 1) := by decide +kernel
theorem dX11_balls_106 : decode mX11_balls.2.1 106 = .ok (.lstore 6, 2) := by decide +kernel
theorem dX11_balls_108 : decode mX11_balls.2.1 108 = .ok (.lconst 1, 1) := by decide +kernel
theorem dX11_balls_109 : decode mX11_balls.2.1 109 = .ok (.lstore 8, 2) := by decide +kernel
theorem dX11_balls_111 : decode mX11_balls.2.1 111 = .ok (.iconst 0, 1) := by decide +kernel
theorem dX11_balls_112 : decode mX11_balls.2.1 112 = .ok (.istore 10, 2) := by decide +kernel
theorem dX11_balls_114 : decode mX11_balls.2.1 114 = .ok (.iload 10, 2) := by decide +kernel
theorem dX11_balls_116 : decode mX11_balls.2.1 116 = .ok (.iload 5, 2) := by decide +kernel
theorem dX11_balls_118 : decode mX11_balls.2.1 118 = .ok (.if_icmp .ge 27, 3) := by decide +kernel
theorem dX11_balls_121 : decode mX11_balls.2.1 121 = .ok (.lload 6, 2) := by decide +kernel
theorem dX11_balls_123 : decode mX11_balls.2.1 123 = .ok (.ldc2_w 434, 3) := by decide +kernel
theorem dX11_balls_126 : decode mX11_balls.2.1 126 = .ok (.lmul, 1) := by decide +kernel
theorem dX11_balls_127 : decode mX11_balls.2.1 127 = .ok (.lstore 6, 2) := by decide +kernel
theorem dX11_balls_129 : decode mX11_balls.2.1 129 = .ok (.lload 8, 2) := by decide +kernel
theorem dX11_balls_131 : decode mX11_balls.2.1 131 = .ok (.bipush 10, 2) := by decide +kernel
theorem dX11_balls_133 : decode mX11_balls.2.1 133 = .ok (.iload_n 3, 1) := by decide +kernel
theorem dX11_balls_134 : decode mX11_balls.2.1 134 = .ok (.isub, 1) := by decide +kernel
theorem dX11_balls_135 : decode mX11_balls.2.1 135 = .ok (.i2l, 1) := by decide +kernel
theorem dX11_balls_136 : decode mX11_balls.2.1 136 = .ok (.lmul, 1) := by decide +kernel
theorem dX11_balls_137 : decode mX11_balls.2.1 137 = .ok (.lstore 8, 2) := by decide +kernel
theorem dX11_balls_139 : decode mX11_balls.2.1 139 = .ok (.iinc 10 1, 3) := by decide +kernel
theorem dX11_balls_142 : decode mX11_balls.2.1 142 = .ok (.goto (-28), 3) := by decide +kernel
theorem dX11_balls_145 : decode mX11_balls.2.1 145 = .ok (.aload_n 0, 1) := by decide +kernel
theorem dX11_balls_146 : decode mX11_balls.2.1 146 = .ok (.lload 6, 2) := by decide +kernel
theorem dX11_balls_148 : decode mX11_balls.2.1 148 = .ok (.lload 8, 2) := by decide +kernel
theorem dX11_balls_150 : decode mX11_balls.2.1 150 = .ok (.lsub, 1) := by decide +kernel
theorem dX11_balls_151 : decode mX11_balls.2.1 151 = .ok (.lload 6, 2) := by decide +kernel
theorem dX11_balls_153 : decode mX11_balls.2.1 153 = .ok (.invokevirtual 436, 3) := by decide +kernel
theorem dX11_balls_156 : decode mX11_balls.2.1 156 = .ok (.iconst 0, 1) := by decide +kernel
theorem dX11_balls_157 : decode mX11_balls.2.1 157 = .ok (.ireturn, 1) := by decide +kernel
theorem dX11_tellFraction_0 : decode mX11_tellFraction.2.1 0 = .ok (.lload_n 1, 1) := by decide +kernel
theorem dX11_tellFraction_1 : decode mX11_tellFraction.2.1 1 = .ok (.lload_n 3, 1) := by decide +kernel
theorem dX11_tellFraction_2 : decode mX11_tellFraction.2.1 2 = .ok (.invokestatic 439, 3) := by decide +kernel
theorem dX11_tellFraction_5 : decode mX11_tellFraction.2.1 5 = .ok (.lstore 5, 2) := by decide +kernel
theorem dX11_tellFraction_7 : decode mX11_tellFraction.2.1 7 = .ok (.lload 5, 2) := by decide +kernel
theorem dX11_tellFraction_9 : decode mX11_tellFraction.2.1 9 = .ok (.lconst 0, 1) := by decide +kernel
theorem dX11_tellFraction_10 : decode mX11_tellFraction.2.1 10 = .ok (.lcmp, 1) := by decide +kernel
theorem dX11_tellFraction_11 : decode mX11_tellFraction.2.1 11 = .ok (.ifCond .le 18, 3) := by decide +kernel
theorem dX11_tellFraction_14 : decode mX11_tellFraction.2.1 14 = .ok (.aload_n 0, 1) := by decide +kernel
theorem dX11_tellFraction_15 : decode mX11_tellFraction.2.1 15 = .ok (.getfield 55, 3) := by decide +kernel
theorem dX11_tellFraction_18 : decode mX11_tellFraction.2.1 18 = .ok (.lload_n 1, 1) := by decide +kernel
theorem dX11_tellFraction_19 : decode mX11_tellFraction.2.1 19 = .ok (.lload 5, 2) := by decide +kernel
theorem dX11_tellFraction_21 : decode mX11_tellFraction.2.1 21 = .ok (.ldiv, 1) := by decide +kernel
theorem dX11_tellFraction_22 : decode mX11_tellFraction.2.1 22 = .ok (.lload_n 3, 1) := by decide +kernel
theorem dX11_tellFraction_23 : decode mX11_tellFraction.2.1 23 = .ok (.lload 5, 2) := by decide +kernel
theorem dX11_tellFraction_25 : decode mX11_tellFraction.2.1 25 = .ok (.ldiv, 1) := by decide +kernel
theorem dX11_tellFraction_26 : decode mX11_tellFraction.2.1 26 = .ok (.invokevirtual 298, 3) := by decide +kernel
theorem dX11_tellFraction_29 : decode mX11_tellFraction.2.1 29 = .ok (.return_, 1) := by decide +kernel
theorem dX11_commonDivisor_0 : decode mX11_commonDivisor.2.1 0 = .ok (.lload_n 0, 1) := by decide +kernel
theorem dX11_commonDivisor_1 : decode mX11_commonDivisor.2.1 1 = .ok (.lstore 4, 2) := by decide +kernel
theorem dX11_commonDivisor_3 : decode mX11_commonDivisor.2.1 3 = .ok (.lload_n 2, 1) := by decide +kernel
theorem dX11_commonDivisor_4 : decode mX11_commonDivisor.2.1 4 = .ok (.lstore 6, 2) := by decide +kernel
theorem dX11_commonDivisor_6 : decode mX11_commonDivisor.2.1 6 = .ok (.iconst 0, 1) := by decide +kernel
theorem dX11_commonDivisor_7 : decode mX11_commonDivisor.2.1 7 = .ok (.istore 8, 2) := by decide +kernel
theorem dX11_commonDivisor_9 : decode mX11_commonDivisor.2.1 9 = .ok (.iload 8, 2) := by decide +kernel
theorem dX11_commonDivisor_11 : decode mX11_commonDivisor.2.1 11 = .ok (.bipush 100, 2) := by decide +kernel
theorem dX11_commonDivisor_13 : decode mX11_commonDivisor.2.1 13 = .ok (.if_icmp .ge 31, 3) := by decide +kernel
theorem dX11_commonDivisor_16 : decode mX11_commonDivisor.2.1 16 = .ok (.lload 6, 2) := by decide +kernel
theorem dX11_commonDivisor_18 : decode mX11_commonDivisor.2.1 18 = .ok (.lconst 0, 1) := by decide +kernel
theorem dX11_commonDivisor_19 : decode mX11_commonDivisor.2.1 19 = .ok (.lcmp, 1) := by decide +kernel
theorem dX11_commonDivisor_20 : decode mX11_commonDivisor.2.1 20 = .ok (.ifCond .eq 24, 3) := by decide +kernel
theorem dX11_commonDivisor_23 : decode mX11_commonDivisor.2.1 23 = .ok (.lload 4, 2) := by decide +kernel
theorem dX11_commonDivisor_25 : decode mX11_commonDivisor.2.1 25 = .ok (.lload 6, 2) := by decide +kernel
theorem dX11_commonDivisor_27 : decode mX11_commonDivisor.2.1 27 = .ok (.lrem, 1) := by decide +kernel
theorem dX11_commonDivisor_28 : decode mX11_commonDivisor.2.1 28 = .ok (.lstore 9, 2) := by decide +kernel
theorem dX11_commonDivisor_30 : decode mX11_commonDivisor.2.1 30 = .ok (.lload 6, 2) := by decide +kernel
theorem dX11_commonDivisor_32 : decode mX11_commonDivisor.2.1 32 = .ok (.lstore 4, 2) := by decide +kernel
theorem dX11_commonDivisor_34 : decode mX11_commonDivisor.2.1 34 = .ok (.lload 9, 2) := by decide +kernel
theorem dX11_commonDivisor_36 : decode mX11_commonDivisor.2.1 36 = .ok (.lstore 6, 2) := by decide +kernel
theorem dX11_commonDivisor_38 : decode mX11_commonDivisor.2.1 38 = .ok (.iinc 8 1, 3) := by decide +kernel
theorem dX11_commonDivisor_41 : decode mX11_commonDivisor.2.1 41 = .ok (.goto (-32), 3) := by decide +kernel
theorem dX11_commonDivisor_44 : decode mX11_commonDivisor.2.1 44 = .ok (.lload 4, 2) := by decide +kernel
theorem dX11_commonDivisor_46 : decode mX11_commonDivisor.2.1 46 = .ok (.lreturn, 1) := by decide +kernel
theorem dX11_law_0 : decode mX11_law.2.1 0 = .ok (.aload_n 0, 1) := by decide +kernel
theorem dX11_law_1 : decode mX11_law.2.1 1 = .ok (.invokevirtual 147, 3) := by decide +kernel
theorem dX11_law_4 : decode mX11_law.2.1 4 = .ok (.istore_n 1, 1) := by decide +kernel
theorem dX11_law_5 : decode mX11_law.2.1 5 = .ok (.iload_n 1, 1) := by decide +kernel
theorem dX11_law_6 : decode mX11_law.2.1 6 = .ok (.iconst (-1), 1) := by decide +kernel
theorem dX11_law_7 : decode mX11_law.2.1 7 = .ok (.if_icmp .eq 9, 3) := by decide +kernel
theorem dX11_law_10 : decode mX11_law.2.1 10 = .ok (.sipush (-10000), 3) := by decide +kernel
theorem dX11_law_13 : decode mX11_law.2.1 13 = .ok (.iload_n 1, 1) := by decide +kernel
theorem dX11_law_14 : decode mX11_law.2.1 14 = .ok (.isub, 1) := by decide +kernel
theorem dX11_law_15 : decode mX11_law.2.1 15 = .ok (.ireturn, 1) := by decide +kernel
theorem dX11_law_16 : decode mX11_law.2.1 16 = .ok (.aload_n 0, 1) := by decide +kernel
theorem dX11_law_17 : decode mX11_law.2.1 17 = .ok (.getfield 28, 3) := by decide +kernel
theorem dX11_law_20 : decode mX11_law.2.1 20 = .ok (.aload_n 0, 1) := by decide +kernel
theorem dX11_law_21 : decode mX11_law.2.1 21 = .ok (.getfield 35, 3) := by decide +kernel
theorem dX11_law_24 : decode mX11_law.2.1 24 = .ok (.invokevirtual 443, 3) := by decide +kernel
theorem dX11_law_27 : decode mX11_law.2.1 27 = .ok (.istore_n 2, 1) := by decide +kernel
theorem dX11_law_28 : decode mX11_law.2.1 28 = .ok (.aload_n 0, 1) := by decide +kernel
theorem dX11_law_29 : decode mX11_law.2.1 29 = .ok (.invokevirtual 150, 3) := by decide +kernel
theorem dX11_law_32 : decode mX11_law.2.1 32 = .ok (.aload_n 0, 1) := by decide +kernel
theorem dX11_law_33 : decode mX11_law.2.1 33 = .ok (.getfield 28, 3) := by decide +kernel
theorem dX11_law_36 : decode mX11_law.2.1 36 = .ok (.aload_n 0, 1) := by decide +kernel
theorem dX11_law_37 : decode mX11_law.2.1 37 = .ok (.getfield 35, 3) := by decide +kernel
theorem dX11_law_40 : decode mX11_law.2.1 40 = .ok (.invokevirtual 443, 3) := by decide +kernel
theorem dX11_law_43 : decode mX11_law.2.1 43 = .ok (.istore_n 3, 1) := by decide +kernel
theorem dX11_law_44 : decode mX11_law.2.1 44 = .ok (.aload_n 0, 1) := by decide +kernel
theorem dX11_law_45 : decode mX11_law.2.1 45 = .ok (.invokevirtual 150, 3) := by decide +kernel
theorem dX11_law_48 : decode mX11_law.2.1 48 = .ok (.aload_n 0, 1) := by decide +kernel
theorem dX11_law_49 : decode mX11_law.2.1 49 = .ok (.getfield 55, 3) := by decide +kernel
theorem dX11_law_52 : decode mX11_law.2.1 52 = .ok (.iload_n 3, 1) := by decide +kernel
theorem dX11_law_53 : decode mX11_law.2.1 53 = .ok (.i2l, 1) := by decide +kernel
theorem dX11_law_54 : decode mX11_law.2.1 54 = .ok (.iload_n 2, 1) := by decide +kernel
theorem dX11_law_55 : decode mX11_law.2.1 55 = .ok (.i2l, 1) := by decide +kernel
theorem dX11_law_56 : decode mX11_law.2.1 56 = .ok (.invokevirtual 298, 3) := by decide +kernel
theorem dX11_law_59 : decode mX11_law.2.1 59 = .ok (.iload_n 3, 1) := by decide +kernel
theorem dX11_law_60 : decode mX11_law.2.1 60 = .ok (.iload_n 2, 1) := by decide +kernel
theorem dX11_law_61 : decode mX11_law.2.1 61 = .ok (.isub, 1) := by decide +kernel
theorem dX11_law_62 : decode mX11_law.2.1 62 = .ok (.ireturn, 1) := by decide +kernel
theorem dX11_rests_0 : decode mX11_rests.2.1 0 = .ok (.iload_n 1, 1) := by decide +kernel
theorem dX11_rests_1 : decode mX11_rests.2.1 1 = .ok (.ifCond .lt 9, 3) := by decide +kernel
theorem dX11_rests_4 : decode mX11_rests.2.1 4 = .ok (.iload_n 1, 1) := by decide +kernel
theorem dX11_rests_5 : decode mX11_rests.2.1 5 = .ok (.bipush 10, 2) := by decide +kernel
theorem dX11_rests_7 : decode mX11_rests.2.1 7 = .ok (.if_icmp .lt 5, 3) := by decide +kernel
theorem dX11_rests_10 : decode mX11_rests.2.1 10 = .ok (.iconst (-1), 1) := by decide +kernel
theorem dX11_rests_11 : decode mX11_rests.2.1 11 = .ok (.ireturn, 1) := by decide +kernel
theorem dX11_rests_12 : decode mX11_rests.2.1 12 = .ok (.aload_n 0, 1) := by decide +kernel
theorem dX11_rests_13 : decode mX11_rests.2.1 13 = .ok (.getfield 55, 3) := by decide +kernel
theorem dX11_rests_16 : decode mX11_rests.2.1 16 = .ok (.invokevirtual 266, 3) := by decide +kernel
theorem dX11_rests_19 : decode mX11_rests.2.1 19 = .ok (.iconst 0, 1) := by decide +kernel
theorem dX11_rests_20 : decode mX11_rests.2.1 20 = .ok (.istore_n 2, 1) := by decide +kernel
theorem dX11_rests_21 : decode mX11_rests.2.1 21 = .ok (.iconst 0, 1) := by decide +kernel
theorem dX11_rests_22 : decode mX11_rests.2.1 22 = .ok (.istore_n 3, 1) := by decide +kernel
theorem dX11_rests_23 : decode mX11_rests.2.1 23 = .ok (.iload_n 3, 1) := by decide +kernel
theorem dX11_rests_24 : decode mX11_rests.2.1 24 = .ok (.bipush 10, 2) := by decide +kernel
theorem dX11_rests_26 : decode mX11_rests.2.1 26 = .ok (.if_icmp .ge 64, 3) := by decide +kernel
theorem dX11_rests_29 : decode mX11_rests.2.1 29 = .ok (.iconst 0, 1) := by decide +kernel
theorem dX11_rests_30 : decode mX11_rests.2.1 30 = .ok (.istore 4, 2) := by decide +kernel
theorem dX11_rests_32 : decode mX11_rests.2.1 32 = .ok (.iload 4, 2) := by decide +kernel
theorem dX11_rests_34 : decode mX11_rests.2.1 34 = .ok (.bipush 10, 2) := by decide +kernel
theorem dX11_rests_36 : decode mX11_rests.2.1 36 = .ok (.if_icmp .ge 48, 3) := by decide +kernel
theorem dX11_rests_39 : decode mX11_rests.2.1 39 = .ok (.iload_n 1, 1) := by decide +kernel
theorem dX11_rests_40 : decode mX11_rests.2.1 40 = .ok (.iload_n 3, 1) := by decide +kernel
theorem dX11_rests_41 : decode mX11_rests.2.1 41 = .ok (.iload 4, 2) := by decide +kernel
theorem dX11_rests_43 : decode mX11_rests.2.1 43 = .ok (.invokestatic 446, 3) := by decide +kernel
theorem dX11_rests_46 : decode mX11_rests.2.1 46 = .ok (.ifCond .eq 32, 3) := by decide +kernel
theorem dX11_rests_49 : decode mX11_rests.2.1 49 = .ok (.iload_n 1, 1) := by decide +kernel
theorem dX11_rests_50 : decode mX11_rests.2.1 50 = .ok (.iload 4, 2) := by decide +kernel
theorem dX11_rests_52 : decode mX11_rests.2.1 52 = .ok (.iload_n 3, 1) := by decide +kernel
theorem dX11_rests_53 : decode mX11_rests.2.1 53 = .ok (.invokestatic 446, 3) := by decide +kernel
theorem dX11_rests_56 : decode mX11_rests.2.1 56 = .ok (.ifCond .eq 22, 3) := by decide +kernel
theorem dX11_rests_59 : decode mX11_rests.2.1 59 = .ok (.iload_n 2, 1) := by decide +kernel
theorem dX11_rests_60 : decode mX11_rests.2.1 60 = .ok (.ifCond .ne 15, 3) := by decide +kernel
theorem dX11_rests_63 : decode mX11_rests.2.1 63 = .ok (.aload_n 0, 1) := by decide +kernel
theorem dX11_rests_64 : decode mX11_rests.2.1 64 = .ok (.getfield 55, 3) := by decide +kernel
theorem dX11_rests_67 : decode mX11_rests.2.1 67 = .ok (.iload_n 3, 1) := by decide +kernel
theorem dX11_rests_68 : decode mX11_rests.2.1 68 = .ok (.i2l, 1) := by decide +kernel
theorem dX11_rests_69 : decode mX11_rests.2.1 69 = .ok (.iload 4, 2) := by decide +kernel
theorem dX11_rests_71 : decode mX11_rests.2.1 71 = .ok (.i2l, 1) := by decide +kernel
theorem dX11_rests_72 : decode mX11_rests.2.1 72 = .ok (.invokevirtual 298, 3) := by decide +kernel
theorem dX11_rests_75 : decode mX11_rests.2.1 75 = .ok (.iinc 2 1, 3) := by decide +kernel
theorem dX11_rests_78 : decode mX11_rests.2.1 78 = .ok (.iinc 4 1, 3) := by decide +kernel
theorem dX11_rests_81 : decode mX11_rests.2.1 81 = .ok (.goto (-49), 3) := by decide +kernel
theorem dX11_rests_84 : decode mX11_rests.2.1 84 = .ok (.iinc 3 1, 3) := by decide +kernel
theorem dX11_rests_87 : decode mX11_rests.2.1 87 = .ok (.goto (-64), 3) := by decide +kernel
theorem dX11_rests_90 : decode mX11_rests.2.1 90 = .ok (.iload_n 2, 1) := by decide +kernel
theorem dX11_rests_91 : decode mX11_rests.2.1 91 = .ok (.ireturn, 1) := by decide +kernel
theorem dX11_isContent_0 : decode mX11_isContent.2.1 0 = .ok (.iload_n 0, 1) := by decide +kernel
theorem dX11_isContent_1 : decode mX11_isContent.2.1 1 = .ok (.iload_n 1, 1) := by decide +kernel
theorem dX11_isContent_2 : decode mX11_isContent.2.1 2 = .ok (.iload_n 2, 1) := by decide +kernel
theorem dX11_isContent_3 : decode mX11_isContent.2.1 3 = .ok (.invokestatic 450, 3) := by decide +kernel
theorem dX11_isContent_6 : decode mX11_isContent.2.1 6 = .ok (.istore_n 3, 1) := by decide +kernel
theorem dX11_isContent_7 : decode mX11_isContent.2.1 7 = .ok (.iconst 0, 1) := by decide +kernel
theorem dX11_isContent_8 : decode mX11_isContent.2.1 8 = .ok (.istore 4, 2) := by decide +kernel
theorem dX11_isContent_10 : decode mX11_isContent.2.1 10 = .ok (.iload 4, 2) := by decide +kernel
theorem dX11_isContent_12 : decode mX11_isContent.2.1 12 = .ok (.bipush 10, 2) := by decide +kernel
theorem dX11_isContent_14 : decode mX11_isContent.2.1 14 = .ok (.if_icmp .ge 22, 3) := by decide +kernel
theorem dX11_isContent_17 : decode mX11_isContent.2.1 17 = .ok (.iload_n 0, 1) := by decide +kernel
theorem dX11_isContent_18 : decode mX11_isContent.2.1 18 = .ok (.iload 4, 2) := by decide +kernel
theorem dX11_isContent_20 : decode mX11_isContent.2.1 20 = .ok (.iload_n 2, 1) := by decide +kernel
theorem dX11_isContent_21 : decode mX11_isContent.2.1 21 = .ok (.invokestatic 450, 3) := by decide +kernel
theorem dX11_isContent_24 : decode mX11_isContent.2.1 24 = .ok (.iload_n 3, 1) := by decide +kernel
theorem dX11_isContent_25 : decode mX11_isContent.2.1 25 = .ok (.if_icmp .le 5, 3) := by decide +kernel
theorem dX11_isContent_28 : decode mX11_isContent.2.1 28 = .ok (.iconst 0, 1) := by decide +kernel
theorem dX11_isContent_29 : decode mX11_isContent.2.1 29 = .ok (.ireturn, 1) := by decide +kernel
theorem dX11_isContent_30 : decode mX11_isContent.2.1 30 = .ok (.iinc 4 1, 3) := by decide +kernel
theorem dX11_isContent_33 : decode mX11_isContent.2.1 33 = .ok (.goto (-23), 3) := by decide +kernel
theorem dX11_isContent_36 : decode mX11_isContent.2.1 36 = .ok (.iconst 1, 1) := by decide +kernel
theorem dX11_isContent_37 : decode mX11_isContent.2.1 37 = .ok (.ireturn, 1) := by decide +kernel
theorem dX11_gain_0 : decode mX11_gain.2.1 0 = .ok (.iload_n 0, 1) := by decide +kernel
theorem dX11_gain_1 : decode mX11_gain.2.1 1 = .ok (.iload_n 1, 1) := by decide +kernel
theorem dX11_gain_2 : decode mX11_gain.2.1 2 = .ok (.imul, 1) := by decide +kernel
theorem dX11_gain_3 : decode mX11_gain.2.1 3 = .ok (.iload_n 1, 1) := by decide +kernel
theorem dX11_gain_4 : decode mX11_gain.2.1 4 = .ok (.iload_n 2, 1) := by decide +kernel
theorem dX11_gain_5 : decode mX11_gain.2.1 5 = .ok (.imul, 1) := by decide +kernel
theorem dX11_gain_6 : decode mX11_gain.2.1 6 = .ok (.iconst 3, 1) := by decide +kernel
theorem dX11_gain_7 : decode mX11_gain.2.1 7 = .ok (.idiv, 1) := by decide +kernel
theorem dX11_gain_8 : decode mX11_gain.2.1 8 = .ok (.isub, 1) := by decide +kernel
theorem dX11_gain_9 : decode mX11_gain.2.1 9 = .ok (.ireturn, 1) := by decide +kernel
theorem dX11_years_0 : decode mX11_years.2.1 0 = .ok (.iload_n 2, 1) := by decide +kernel
theorem dX11_years_1 : decode mX11_years.2.1 1 = .ok (.iconst 1, 1) := by decide +kernel
theorem dX11_years_2 : decode mX11_years.2.1 2 = .ok (.if_icmp .lt 9, 3) := by decide +kernel
theorem dX11_years_5 : decode mX11_years.2.1 5 = .ok (.iload_n 2, 1) := by decide +kernel
theorem dX11_years_6 : decode mX11_years.2.1 6 = .ok (.bipush 60, 2) := by decide +kernel
theorem dX11_years_8 : decode mX11_years.2.1 8 = .ok (.if_icmp .le 5, 3) := by decide +kernel
theorem dX11_years_11 : decode mX11_years.2.1 11 = .ok (.iconst (-1), 1) := by decide +kernel
theorem dX11_years_12 : decode mX11_years.2.1 12 = .ok (.ireturn, 1) := by decide +kernel
theorem dX11_years_13 : decode mX11_years.2.1 13 = .ok (.aload_n 0, 1) := by decide +kernel
theorem dX11_years_14 : decode mX11_years.2.1 14 = .ok (.iload_n 1, 1) := by decide +kernel
theorem dX11_years_15 : decode mX11_years.2.1 15 = .ok (.putfield 453, 3) := by decide +kernel
theorem dX11_years_18 : decode mX11_years.2.1 18 = .ok (.aload_n 0, 1) := by decide +kernel
theorem dX11_years_19 : decode mX11_years.2.1 19 = .ok (.getfield 42, 3) := by decide +kernel
theorem dX11_years_22 : decode mX11_years.2.1 22 = .ok (.aload_n 0, 1) := by decide +kernel
theorem dX11_years_23 : decode mX11_years.2.1 23 = .ok (.getfield 35, 3) := by decide +kernel
theorem dX11_years_26 : decode mX11_years.2.1 26 = .ok (.invokevirtual 231, 3) := by decide +kernel
theorem dX11_years_29 : decode mX11_years.2.1 29 = .ok (.iconst 0, 1) := by decide +kernel
theorem dX11_years_30 : decode mX11_years.2.1 30 = .ok (.istore_n 3, 1) := by decide +kernel
theorem dX11_years_31 : decode mX11_years.2.1 31 = .ok (.iconst 0, 1) := by decide +kernel
theorem dX11_years_32 : decode mX11_years.2.1 32 = .ok (.istore 4, 2) := by decide +kernel
theorem dX11_years_34 : decode mX11_years.2.1 34 = .ok (.iload 4, 2) := by decide +kernel
theorem dX11_years_36 : decode mX11_years.2.1 36 = .ok (.iload_n 2, 1) := by decide +kernel
theorem dX11_years_37 : decode mX11_years.2.1 37 = .ok (.if_icmp .ge 53, 3) := by decide +kernel
theorem dX11_years_40 : decode mX11_years.2.1 40 = .ok (.aload_n 0, 1) := by decide +kernel
theorem dX11_years_41 : decode mX11_years.2.1 41 = .ok (.invokevirtual 456, 3) := by decide +kernel
theorem dX11_years_44 : decode mX11_years.2.1 44 = .ok (.iconst 0, 1) := by decide +kernel
theorem dX11_years_45 : decode mX11_years.2.1 45 = .ok (.istore 5, 2) := by decide +kernel
theorem dX11_years_47 : decode mX11_years.2.1 47 = .ok (.iload 5, 2) := by decide +kernel
theorem dX11_years_49 : decode mX11_years.2.1 49 = .ok (.aload_n 0, 1) := by decide +kernel
theorem dX11_years_50 : decode mX11_years.2.1 50 = .ok (.getfield 28, 3) := by decide +kernel
theorem dX11_years_53 : decode mX11_years.2.1 53 = .ok (.getfield 267, 3) := by decide +kernel
theorem dX11_years_56 : decode mX11_years.2.1 56 = .ok (.if_icmp .ge 28, 3) := by decide +kernel
theorem dX11_years_59 : decode mX11_years.2.1 59 = .ok (.iload_n 3, 1) := by decide +kernel
theorem dX11_years_60 : decode mX11_years.2.1 60 = .ok (.aload_n 0, 1) := by decide +kernel
theorem dX11_years_61 : decode mX11_years.2.1 61 = .ok (.getfield 28, 3) := by decide +kernel
theorem dX11_years_64 : decode mX11_years.2.1 64 = .ok (.aload_n 0, 1) := by decide +kernel
theorem dX11_years_65 : decode mX11_years.2.1 65 = .ok (.getfield 42, 3) := by decide +kernel
theorem dX11_years_68 : decode mX11_years.2.1 68 = .ok (.iload 5, 2) := by decide +kernel
theorem dX11_years_70 : decode mX11_years.2.1 70 = .ok (.invokevirtual 221, 3) := by decide +kernel
theorem dX11_years_73 : decode mX11_years.2.1 73 = .ok (.invokestatic 254, 3) := by decide +kernel
theorem dX11_years_76 : decode mX11_years.2.1 76 = .ok (.iadd, 1) := by decide +kernel
theorem dX11_years_77 : decode mX11_years.2.1 77 = .ok (.istore_n 3, 1) := by decide +kernel
theorem dX11_years_78 : decode mX11_years.2.1 78 = .ok (.iinc 5 1, 3) := by decide +kernel
theorem dX11_years_81 : decode mX11_years.2.1 81 = .ok (.goto (-34), 3) := by decide +kernel
theorem dX11_years_84 : decode mX11_years.2.1 84 = .ok (.iinc 4 1, 3) := by decide +kernel
theorem dX11_years_87 : decode mX11_years.2.1 87 = .ok (.goto (-53), 3) := by decide +kernel
theorem dX11_years_90 : decode mX11_years.2.1 90 = .ok (.aload_n 0, 1) := by decide +kernel
theorem dX11_years_91 : decode mX11_years.2.1 91 = .ok (.getfield 55, 3) := by decide +kernel
theorem dX11_years_94 : decode mX11_years.2.1 94 = .ok (.aload_n 0, 1) := by decide +kernel
theorem dX11_years_95 : decode mX11_years.2.1 95 = .ok (.getfield 42, 3) := by decide +kernel
theorem dX11_years_98 : decode mX11_years.2.1 98 = .ok (.getfield 280, 3) := by decide +kernel
theorem dX11_years_101 : decode mX11_years.2.1 101 = .ok (.i2l, 1) := by decide +kernel
theorem dX11_years_102 : decode mX11_years.2.1 102 = .ok (.aload_n 0, 1) := by decide +kernel
theorem dX11_years_103 : decode mX11_years.2.1 103 = .ok (.getfield 42, 3) := by decide +kernel
theorem dX11_years_106 : decode mX11_years.2.1 106 = .ok (.getfield 259, 3) := by decide +kernel
theorem dX11_years_109 : decode mX11_years.2.1 109 = .ok (.invokestatic 254, 3) := by decide +kernel
theorem dX11_years_112 : decode mX11_years.2.1 112 = .ok (.i2l, 1) := by decide +kernel
theorem dX11_years_113 : decode mX11_years.2.1 113 = .ok (.invokevirtual 298, 3) := by decide +kernel
theorem dX11_years_116 : decode mX11_years.2.1 116 = .ok (.iload_n 3, 1) := by decide +kernel
theorem dX11_years_117 : decode mX11_years.2.1 117 = .ok (.ireturn, 1) := by decide +kernel
theorem dX11_liveYear_0 : decode mX11_liveYear.2.1 0 = .ok (.aload_n 0, 1) := by decide +kernel
theorem dX11_liveYear_1 : decode mX11_liveYear.2.1 1 = .ok (.iconst 4, 1) := by decide +kernel
theorem dX11_liveYear_2 : decode mX11_liveYear.2.1 2 = .ok (.invokevirtual 459, 3) := by decide +kernel
theorem dX11_liveYear_5 : decode mX11_liveYear.2.1 5 = .ok (.istore_n 1, 1) := by decide +kernel
theorem dX11_liveYear_6 : decode mX11_liveYear.2.1 6 = .ok (.iload_n 1, 1) := by decide +kernel
theorem dX11_liveYear_7 : decode mX11_liveYear.2.1 7 = .ok (.iconst 2, 1) := by decide +kernel
theorem dX11_liveYear_8 : decode mX11_liveYear.2.1 8 = .ok (.if_icmp .ge 17, 3) := by decide +kernel
theorem dX11_liveYear_11 : decode mX11_liveYear.2.1 11 = .ok (.aload_n 0, 1) := by decide +kernel
theorem dX11_liveYear_12 : decode mX11_liveYear.2.1 12 = .ok (.getfield 28, 3) := by decide +kernel
theorem dX11_liveYear_15 : decode mX11_liveYear.2.1 15 = .ok (.aload_n 0, 1) := by decide +kernel
theorem dX11_liveYear_16 : decode mX11_liveYear.2.1 16 = .ok (.getfield 42, 3) := by decide +kernel
theorem dX11_liveYear_19 : decode mX11_liveYear.2.1 19 = .ok (.invokevirtual 273, 3) := by decide +kernel
theorem dX11_liveYear_22 : decode mX11_liveYear.2.1 22 = .ok (.goto 103, 3) := by decide +kernel
theorem dX11_liveYear_25 : decode mX11_liveYear.2.1 25 = .ok (.iload_n 1, 1) := by decide +kernel
theorem dX11_liveYear_26 : decode mX11_liveYear.2.1 26 = .ok (.iconst 2, 1) := by decide +kernel
theorem dX11_liveYear_27 : decode mX11_liveYear.2.1 27 = .ok (.if_icmp .ne 58, 3) := by decide +kernel
theorem dX11_liveYear_30 : decode mX11_liveYear.2.1 30 = .ok (.aload_n 0, 1) := by decide +kernel
theorem dX11_liveYear_31 : decode mX11_liveYear.2.1 31 = .ok (.getfield 28, 3) := by decide +kernel
theorem dX11_liveYear_34 : decode mX11_liveYear.2.1 34 = .ok (.getfield 357, 3) := by decide +kernel
theorem dX11_liveYear_37 : decode mX11_liveYear.2.1 37 = .ok (.ifCond .le 48, 3) := by decide +kernel
theorem dX11_liveYear_40 : decode mX11_liveYear.2.1 40 = .ok (.aload_n 0, 1) := by decide +kernel
theorem dX11_liveYear_41 : decode mX11_liveYear.2.1 41 = .ok (.getfield 28, 3) := by decide +kernel
theorem dX11_liveYear_44 : decode mX11_liveYear.2.1 44 = .ok (.getfield 267, 3) := by decide +kernel
theorem dX11_liveYear_47 : decode mX11_liveYear.2.1 47 = .ok (.ifCond .le 38, 3) := by decide +kernel
theorem dX11_liveYear_50 : decode mX11_liveYear.2.1 50 = .ok (.aload_n 0, 1) := by decide +kernel
theorem dX11_liveYear_51 : decode mX11_liveYear.2.1 51 = .ok (.aload_n 0, 1) := by decide +kernel
theorem dX11_liveYear_52 : decode mX11_liveYear.2.1 52 = .ok (.getfield 28, 3) := by decide +kernel
theorem dX11_liveYear_55 : decode mX11_liveYear.2.1 55 = .ok (.getfield 357, 3) := by decide +kernel
theorem dX11_liveYear_58 : decode mX11_liveYear.2.1 58 = .ok (.invokevirtual 459, 3) := by decide +kernel
theorem dX11_liveYear_61 : decode mX11_liveYear.2.1 61 = .ok (.istore_n 2, 1) := by decide +kernel
theorem dX11_liveYear_62 : decode mX11_liveYear.2.1 62 = .ok (.aload_n 0, 1) := by decide +kernel
theorem dX11_liveYear_63 : decode mX11_liveYear.2.1 63 = .ok (.getfield 42, 3) := by decide +kernel
theorem dX11_liveYear_66 : decode mX11_liveYear.2.1 66 = .ok (.getfield 196, 3) := by decide +kernel
theorem dX11_liveYear_69 : decode mX11_liveYear.2.1 69 = .ok (.iload_n 2, 1) := by decide +kernel
theorem dX11_liveYear_70 : decode mX11_liveYear.2.1 70 = .ok (.aload_n 0, 1) := by decide +kernel
theorem dX11_liveYear_71 : decode mX11_liveYear.2.1 71 = .ok (.aload_n 0, 1) := by decide +kernel
theorem dX11_liveYear_72 : decode mX11_liveYear.2.1 72 = .ok (.getfield 28, 3) := by decide +kernel
theorem dX11_liveYear_75 : decode mX11_liveYear.2.1 75 = .ok (.getfield 267, 3) := by decide +kernel
theorem dX11_liveYear_78 : decode mX11_liveYear.2.1 78 = .ok (.invokevirtual 459, 3) := by decide +kernel
theorem dX11_liveYear_81 : decode mX11_liveYear.2.1 81 = .ok (.iastore, 1) := by decide +kernel
theorem dX11_liveYear_82 : decode mX11_liveYear.2.1 82 = .ok (.goto 43, 3) := by decide +kernel
theorem dX11_liveYear_85 : decode mX11_liveYear.2.1 85 = .ok (.iload_n 1, 1) := by decide +kernel
theorem dX11_liveYear_86 : decode mX11_liveYear.2.1 86 = .ok (.iconst 3, 1) := by decide +kernel
theorem dX11_liveYear_87 : decode mX11_liveYear.2.1 87 = .ok (.if_icmp .ne 38, 3) := by decide +kernel
theorem dX11_liveYear_90 : decode mX11_liveYear.2.1 90 = .ok (.aload_n 0, 1) := by decide +kernel
theorem dX11_liveYear_91 : decode mX11_liveYear.2.1 91 = .ok (.getfield 28, 3) := by decide +kernel
theorem dX11_liveYear_94 : decode mX11_liveYear.2.1 94 = .ok (.getfield 357, 3) := by decide +kernel
theorem dX11_liveYear_97 : decode mX11_liveYear.2.1 97 = .ok (.ifCond .le 28, 3) := by decide +kernel
theorem dX11_liveYear_100 : decode mX11_liveYear.2.1 100 = .ok (.aload_n 0, 1) := by decide +kernel
theorem dX11_liveYear_101 : decode mX11_liveYear.2.1 101 = .ok (.getfield 42, 3) := by decide +kernel
theorem dX11_liveYear_104 : decode mX11_liveYear.2.1 104 = .ok (.dup, 1) := by decide +kernel
theorem dX11_liveYear_105 : decode mX11_liveYear.2.1 105 = .ok (.getfield 259, 3) := by decide +kernel
theorem dX11_liveYear_108 : decode mX11_liveYear.2.1 108 = .ok (.iconst 1, 1) := by decide +kernel
theorem dX11_liveYear_109 : decode mX11_liveYear.2.1 109 = .ok (.aload_n 0, 1) := by decide +kernel
theorem dX11_liveYear_110 : decode mX11_liveYear.2.1 110 = .ok (.aload_n 0, 1) := by decide +kernel
theorem dX11_liveYear_111 : decode mX11_liveYear.2.1 111 = .ok (.getfield 28, 3) := by decide +kernel
theorem dX11_liveYear_114 : decode mX11_liveYear.2.1 114 = .ok (.getfield 357, 3) := by decide +kernel
theorem dX11_liveYear_117 : decode mX11_liveYear.2.1 117 = .ok (.invokevirtual 459, 3) := by decide +kernel
theorem dX11_liveYear_120 : decode mX11_liveYear.2.1 120 = .ok (.ishl, 1) := by decide +kernel
theorem dX11_liveYear_121 : decode mX11_liveYear.2.1 121 = .ok (.ior, 1) := by decide +kernel
theorem dX11_liveYear_122 : decode mX11_liveYear.2.1 122 = .ok (.putfield 259, 3) := by decide +kernel
theorem dX11_liveYear_125 : decode mX11_liveYear.2.1 125 = .ok (.return_, 1) := by decide +kernel
theorem dX11_draw_0 : decode mX11_draw.2.1 0 = .ok (.aload_n 0, 1) := by decide +kernel
theorem dX11_draw_1 : decode mX11_draw.2.1 1 = .ok (.aload_n 0, 1) := by decide +kernel
theorem dX11_draw_2 : decode mX11_draw.2.1 2 = .ok (.getfield 453, 3) := by decide +kernel
theorem dX11_draw_5 : decode mX11_draw.2.1 5 = .ok (.ldc_w 462, 3) := by decide +kernel
theorem dX11_draw_8 : decode mX11_draw.2.1 8 = .ok (.imul, 1) := by decide +kernel
theorem dX11_draw_9 : decode mX11_draw.2.1 9 = .ok (.sipush 12345, 3) := by decide +kernel
theorem dX11_draw_12 : decode mX11_draw.2.1 12 = .ok (.iadd, 1) := by decide +kernel
theorem dX11_draw_13 : decode mX11_draw.2.1 13 = .ok (.putfield 453, 3) := by decide +kernel
theorem dX11_draw_16 : decode mX11_draw.2.1 16 = .ok (.iload_n 1, 1) := by decide +kernel
theorem dX11_draw_17 : decode mX11_draw.2.1 17 = .ok (.ifCond .le 15, 3) := by decide +kernel
theorem dX11_draw_20 : decode mX11_draw.2.1 20 = .ok (.aload_n 0, 1) := by decide +kernel
theorem dX11_draw_21 : decode mX11_draw.2.1 21 = .ok (.getfield 453, 3) := by decide +kernel
theorem dX11_draw_24 : decode mX11_draw.2.1 24 = .ok (.bipush 16, 2) := by decide +kernel
theorem dX11_draw_26 : decode mX11_draw.2.1 26 = .ok (.iushr, 1) := by decide +kernel
theorem dX11_draw_27 : decode mX11_draw.2.1 27 = .ok (.iload_n 1, 1) := by decide +kernel
theorem dX11_draw_28 : decode mX11_draw.2.1 28 = .ok (.irem, 1) := by decide +kernel
theorem dX11_draw_29 : decode mX11_draw.2.1 29 = .ok (.goto 4, 3) := by decide +kernel
theorem dX11_draw_32 : decode mX11_draw.2.1 32 = .ok (.iconst 0, 1) := by decide +kernel
theorem dX11_draw_33 : decode mX11_draw.2.1 33 = .ok (.ireturn, 1) := by decide +kernel
theorem dX11_keep_0 : decode mX11_keep.2.1 0 = .ok (.aload_n 0, 1) := by decide +kernel
theorem dX11_keep_1 : decode mX11_keep.2.1 1 = .ok (.getfield 48, 3) := by decide +kernel
theorem dX11_keep_4 : decode mX11_keep.2.1 4 = .ok (.iload_n 1, 1) := by decide +kernel
theorem dX11_keep_5 : decode mX11_keep.2.1 5 = .ok (.aload_n 0, 1) := by decide +kernel
theorem dX11_keep_6 : decode mX11_keep.2.1 6 = .ok (.getfield 35, 3) := by decide +kernel
theorem dX11_keep_9 : decode mX11_keep.2.1 9 = .ok (.invokevirtual 463, 3) := by decide +kernel
theorem dX11_keep_12 : decode mX11_keep.2.1 12 = .ok (.ireturn, 1) := by decide +kernel
theorem dX11_again_0 : decode mX11_again.2.1 0 = .ok (.aload_n 0, 1) := by decide +kernel
theorem dX11_again_1 : decode mX11_again.2.1 1 = .ok (.getfield 48, 3) := by decide +kernel
theorem dX11_again_4 : decode mX11_again.2.1 4 = .ok (.iload_n 1, 1) := by decide +kernel
theorem dX11_again_5 : decode mX11_again.2.1 5 = .ok (.aload_n 0, 1) := by decide +kernel
theorem dX11_again_6 : decode mX11_again.2.1 6 = .ok (.getfield 35, 3) := by decide +kernel
theorem dX11_again_9 : decode mX11_again.2.1 9 = .ok (.invokevirtual 467, 3) := by decide +kernel
theorem dX11_again_12 : decode mX11_again.2.1 12 = .ok (.ireturn, 1) := by decide +kernel
theorem dX11_count_0 : decode mX11_count.2.1 0 = .ok (.iload_n 1, 1) := by decide +kernel
theorem dX11_count_1 : decode mX11_count.2.1 1 = .ok (.tableswitch 163 0 11 #[63, 71, 79, 87, 95, 103, 111, 119, 131, 139, 147, 155], 63) := by decide +kernel
theorem dX11_count_64 : decode mX11_count.2.1 64 = .ok (.aload_n 0, 1) := by decide +kernel
theorem dX11_count_65 : decode mX11_count.2.1 65 = .ok (.getfield 28, 3) := by decide +kernel
theorem dX11_count_68 : decode mX11_count.2.1 68 = .ok (.getfield 316, 3) := by decide +kernel
theorem dX11_count_71 : decode mX11_count.2.1 71 = .ok (.ireturn, 1) := by decide +kernel
theorem dX11_count_72 : decode mX11_count.2.1 72 = .ok (.aload_n 0, 1) := by decide +kernel
theorem dX11_count_73 : decode mX11_count.2.1 73 = .ok (.getfield 28, 3) := by decide +kernel
theorem dX11_count_76 : decode mX11_count.2.1 76 = .ok (.getfield 319, 3) := by decide +kernel
theorem dX11_count_79 : decode mX11_count.2.1 79 = .ok (.ireturn, 1) := by decide +kernel
theorem dX11_count_80 : decode mX11_count.2.1 80 = .ok (.aload_n 0, 1) := by decide +kernel
theorem dX11_count_81 : decode mX11_count.2.1 81 = .ok (.getfield 28, 3) := by decide +kernel
theorem dX11_count_84 : decode mX11_count.2.1 84 = .ok (.getfield 470, 3) := by decide +kernel
theorem dX11_count_87 : decode mX11_count.2.1 87 = .ok (.ireturn, 1) := by decide +kernel
theorem dX11_count_88 : decode mX11_count.2.1 88 = .ok (.aload_n 0, 1) := by decide +kernel
theorem dX11_count_89 : decode mX11_count.2.1 89 = .ok (.getfield 28, 3) := by decide +kernel
theorem dX11_count_92 : decode mX11_count.2.1 92 = .ok (.getfield 357, 3) := by decide +kernel
theorem dX11_count_95 : decode mX11_count.2.1 95 = .ok (.ireturn, 1) := by decide +kernel
theorem dX11_count_96 : decode mX11_count.2.1 96 = .ok (.aload_n 0, 1) := by decide +kernel
theorem dX11_count_97 : decode mX11_count.2.1 97 = .ok (.getfield 28, 3) := by decide +kernel
theorem dX11_count_100 : decode mX11_count.2.1 100 = .ok (.getfield 267, 3) := by decide +kernel
theorem dX11_count_103 : decode mX11_count.2.1 103 = .ok (.ireturn, 1) := by decide +kernel
theorem dX11_count_104 : decode mX11_count.2.1 104 = .ok (.aload_n 0, 1) := by decide +kernel
theorem dX11_count_105 : decode mX11_count.2.1 105 = .ok (.getfield 35, 3) := by decide +kernel
theorem dX11_count_108 : decode mX11_count.2.1 108 = .ok (.getfield 280, 3) := by decide +kernel
theorem dX11_count_111 : decode mX11_count.2.1 111 = .ok (.ireturn, 1) := by decide +kernel
theorem dX11_count_112 : decode mX11_count.2.1 112 = .ok (.aload_n 0, 1) := by decide +kernel
theorem dX11_count_113 : decode mX11_count.2.1 113 = .ok (.getfield 35, 3) := by decide +kernel
theorem dX11_count_116 : decode mX11_count.2.1 116 = .ok (.getfield 259, 3) := by decide +kernel
theorem dX11_count_119 : decode mX11_count.2.1 119 = .ok (.ireturn, 1) := by decide +kernel
theorem dX11_count_120 : decode mX11_count.2.1 120 = .ok (.aload_n 0, 1) := by decide +kernel
theorem dX11_count_121 : decode mX11_count.2.1 121 = .ok (.getfield 28, 3) := by decide +kernel
theorem dX11_count_124 : decode mX11_count.2.1 124 = .ok (.aload_n 0, 1) := by decide +kernel
theorem dX11_count_125 : decode mX11_count.2.1 125 = .ok (.getfield 35, 3) := by decide +kernel
theorem dX11_count_128 : decode mX11_count.2.1 128 = .ok (.invokevirtual 473, 3) := by decide +kernel
theorem dX11_count_131 : decode mX11_count.2.1 131 = .ok (.ireturn, 1) := by decide +kernel
theorem dX11_count_132 : decode mX11_count.2.1 132 = .ok (.aload_n 0, 1) := by decide +kernel
theorem dX11_count_133 : decode mX11_count.2.1 133 = .ok (.getfield 78, 3) := by decide +kernel
theorem dX11_count_136 : decode mX11_count.2.1 136 = .ok (.getfield 476, 3) := by decide +kernel
theorem dX11_count_139 : decode mX11_count.2.1 139 = .ok (.ireturn, 1) := by decide +kernel
theorem dX11_count_140 : decode mX11_count.2.1 140 = .ok (.aload_n 0, 1) := by decide +kernel
theorem dX11_count_141 : decode mX11_count.2.1 141 = .ok (.getfield 48, 3) := by decide +kernel
theorem dX11_count_144 : decode mX11_count.2.1 144 = .ok (.getfield 479, 3) := by decide +kernel
theorem dX11_count_147 : decode mX11_count.2.1 147 = .ok (.ireturn, 1) := by decide +kernel
theorem dX11_count_148 : decode mX11_count.2.1 148 = .ok (.aload_n 0, 1) := by decide +kernel
theorem dX11_count_149 : decode mX11_count.2.1 149 = .ok (.getfield 55, 3) := by decide +kernel
theorem dX11_count_152 : decode mX11_count.2.1 152 = .ok (.getfield 482, 3) := by decide +kernel
theorem dX11_count_155 : decode mX11_count.2.1 155 = .ok (.ireturn, 1) := by decide +kernel
theorem dX11_count_156 : decode mX11_count.2.1 156 = .ok (.aload_n 0, 1) := by decide +kernel
theorem dX11_count_157 : decode mX11_count.2.1 157 = .ok (.getfield 10, 3) := by decide +kernel
theorem dX11_count_160 : decode mX11_count.2.1 160 = .ok (.getfield 483, 3) := by decide +kernel
theorem dX11_count_163 : decode mX11_count.2.1 163 = .ok (.ireturn, 1) := by decide +kernel
theorem dX11_count_164 : decode mX11_count.2.1 164 = .ok (.bipush (-100), 2) := by decide +kernel
theorem dX11_count_166 : decode mX11_count.2.1 166 = .ok (.ireturn, 1) := by decide +kernel
theorem dX11_row_0 : decode mX11_row.2.1 0 = .ok (.iload_n 1, 1) := by decide +kernel
theorem dX11_row_1 : decode mX11_row.2.1 1 = .ok (.ifCond .lt 14, 3) := by decide +kernel
theorem dX11_row_4 : decode mX11_row.2.1 4 = .ok (.iload_n 1, 1) := by decide +kernel
theorem dX11_row_5 : decode mX11_row.2.1 5 = .ok (.aload_n 0, 1) := by decide +kernel
theorem dX11_row_6 : decode mX11_row.2.1 6 = .ok (.getfield 55, 3) := by decide +kernel
theorem dX11_row_9 : decode mX11_row.2.1 9 = .ok (.getfield 482, 3) := by decide +kernel
theorem dX11_row_12 : decode mX11_row.2.1 12 = .ok (.if_icmp .lt 11, 3) := by decide +kernel
theorem dX11_row_15 : decode mX11_row.2.1 15 = .ok (.new 167, 3) := by decide +kernel
theorem dX11_row_18 : decode mX11_row.2.1 18 = .ok (.dup, 1) := by decide +kernel
theorem dX11_row_19 : decode mX11_row.2.1 19 = .ok (.invokespecial 169, 3) := by decide +kernel
theorem dX11_row_22 : decode mX11_row.2.1 22 = .ok (.athrow, 1) := by decide +kernel
theorem dX11_row_23 : decode mX11_row.2.1 23 = .ok (.aload_n 0, 1) := by decide +kernel
theorem dX11_row_24 : decode mX11_row.2.1 24 = .ok (.getfield 55, 3) := by decide +kernel
theorem dX11_row_27 : decode mX11_row.2.1 27 = .ok (.getfield 486, 3) := by decide +kernel
theorem dX11_row_30 : decode mX11_row.2.1 30 = .ok (.iload_n 1, 1) := by decide +kernel
theorem dX11_row_31 : decode mX11_row.2.1 31 = .ok (.laload, 1) := by decide +kernel
theorem dX11_row_32 : decode mX11_row.2.1 32 = .ok (.lreturn, 1) := by decide +kernel
theorem dX11_isSort_0 : decode mX11_isSort.2.1 0 = .ok (.iload_n 0, 1) := by decide +kernel
theorem dX11_isSort_1 : decode mX11_isSort.2.1 1 = .ok (.ifCond .lt 23, 3) := by decide +kernel
theorem dX11_isSort_4 : decode mX11_isSort.2.1 4 = .ok (.iload_n 0, 1) := by decide +kernel
theorem dX11_isSort_5 : decode mX11_isSort.2.1 5 = .ok (.bipush 8, 2) := by decide +kernel
theorem dX11_isSort_7 : decode mX11_isSort.2.1 7 = .ok (.if_icmp .ge 17, 3) := by decide +kernel
theorem dX11_isSort_10 : decode mX11_isSort.2.1 10 = .ok (.iload_n 1, 1) := by decide +kernel
theorem dX11_isSort_11 : decode mX11_isSort.2.1 11 = .ok (.ifCond .lt 13, 3) := by decide +kernel
theorem dX11_isSort_14 : decode mX11_isSort.2.1 14 = .ok (.iload_n 1, 1) := by decide +kernel
theorem dX11_isSort_15 : decode mX11_isSort.2.1 15 = .ok (.bipush 10, 2) := by decide +kernel
theorem dX11_isSort_17 : decode mX11_isSort.2.1 17 = .ok (.if_icmp .ge 7, 3) := by decide +kernel
theorem dX11_isSort_20 : decode mX11_isSort.2.1 20 = .ok (.iconst 1, 1) := by decide +kernel
theorem dX11_isSort_21 : decode mX11_isSort.2.1 21 = .ok (.goto 4, 3) := by decide +kernel
theorem dX11_isSort_24 : decode mX11_isSort.2.1 24 = .ok (.iconst 0, 1) := by decide +kernel
theorem dX11_isSort_25 : decode mX11_isSort.2.1 25 = .ok (.ireturn, 1) := by decide +kernel
theorem dX11_has_0 : decode mX11_has.2.1 0 = .ok (.iload_n 0, 1) := by decide +kernel
theorem dX11_has_1 : decode mX11_has.2.1 1 = .ok (.iload_n 1, 1) := by decide +kernel
theorem dX11_has_2 : decode mX11_has.2.1 2 = .ok (.iushr, 1) := by decide +kernel
theorem dX11_has_3 : decode mX11_has.2.1 3 = .ok (.iconst 1, 1) := by decide +kernel
theorem dX11_has_4 : decode mX11_has.2.1 4 = .ok (.iand, 1) := by decide +kernel
theorem dX11_has_5 : decode mX11_has.2.1 5 = .ok (.ifCond .eq 7, 3) := by decide +kernel
theorem dX11_has_8 : decode mX11_has.2.1 8 = .ok (.iconst 1, 1) := by decide +kernel
theorem dX11_has_9 : decode mX11_has.2.1 9 = .ok (.goto 4, 3) := by decide +kernel
theorem dX11_has_12 : decode mX11_has.2.1 12 = .ok (.iconst 0, 1) := by decide +kernel
theorem dX11_has_13 : decode mX11_has.2.1 13 = .ok (.ireturn, 1) := by decide +kernel
theorem dX11_allOf_0 : decode mX11_allOf.2.1 0 = .ok (.iconst 1, 1) := by decide +kernel
theorem dX11_allOf_1 : decode mX11_allOf.2.1 1 = .ok (.iload_n 0, 1) := by decide +kernel
theorem dX11_allOf_2 : decode mX11_allOf.2.1 2 = .ok (.ishl, 1) := by decide +kernel
theorem dX11_allOf_3 : decode mX11_allOf.2.1 3 = .ok (.iconst 1, 1) := by decide +kernel
theorem dX11_allOf_4 : decode mX11_allOf.2.1 4 = .ok (.isub, 1) := by decide +kernel
theorem dX11_allOf_5 : decode mX11_allOf.2.1 5 = .ok (.ireturn, 1) := by decide +kernel
theorem dX11_bears_0 : decode mX11_bears.2.1 0 = .ok (.iload_n 1, 1) := by decide +kernel
theorem dX11_bears_1 : decode mX11_bears.2.1 1 = .ok (.iload_n 2, 1) := by decide +kernel
theorem dX11_bears_2 : decode mX11_bears.2.1 2 = .ok (.iushr, 1) := by decide +kernel
theorem dX11_bears_3 : decode mX11_bears.2.1 3 = .ok (.iconst 1, 1) := by decide +kernel
theorem dX11_bears_4 : decode mX11_bears.2.1 4 = .ok (.iand, 1) := by decide +kernel
theorem dX11_bears_5 : decode mX11_bears.2.1 5 = .ok (.ifCond .ne 12, 3) := by decide +kernel
theorem dX11_bears_8 : decode mX11_bears.2.1 8 = .ok (.iload_n 3, 1) := by decide +kernel
theorem dX11_bears_9 : decode mX11_bears.2.1 9 = .ok (.iload_n 0, 1) := by decide +kernel
theorem dX11_bears_10 : decode mX11_bears.2.1 10 = .ok (.if_icmp .gt 7, 3) := by decide +kernel
theorem dX11_bears_13 : decode mX11_bears.2.1 13 = .ok (.iconst 1, 1) := by decide +kernel
theorem dX11_bears_14 : decode mX11_bears.2.1 14 = .ok (.goto 4, 3) := by decide +kernel
theorem dX11_bears_17 : decode mX11_bears.2.1 17 = .ok (.iconst 0, 1) := by decide +kernel
theorem dX11_bears_18 : decode mX11_bears.2.1 18 = .ok (.ireturn, 1) := by decide +kernel
theorem dJ6_bitCount_0f7a4_0 : decode mJ6_bitCount_0f7a4.2.1 0 = .ok (.iload_n 0, 1) := by decide +kernel
theorem dJ6_bitCount_0f7a4_1 : decode mJ6_bitCount_0f7a4.2.1 1 = .ok (.iload_n 0, 1) := by decide +kernel
theorem dJ6_bitCount_0f7a4_2 : decode mJ6_bitCount_0f7a4.2.1 2 = .ok (.iconst 1, 1) := by decide +kernel
theorem dJ6_bitCount_0f7a4_3 : decode mJ6_bitCount_0f7a4.2.1 3 = .ok (.iushr, 1) := by decide +kernel
theorem dJ6_bitCount_0f7a4_4 : decode mJ6_bitCount_0f7a4.2.1 4 = .ok (.ldc_w 265, 3) := by decide +kernel
theorem dJ6_bitCount_0f7a4_7 : decode mJ6_bitCount_0f7a4.2.1 7 = .ok (.iand, 1) := by decide +kernel
theorem dJ6_bitCount_0f7a4_8 : decode mJ6_bitCount_0f7a4.2.1 8 = .ok (.isub, 1) := by decide +kernel
theorem dJ6_bitCount_0f7a4_9 : decode mJ6_bitCount_0f7a4.2.1 9 = .ok (.istore_n 0, 1) := by decide +kernel
theorem dJ6_bitCount_0f7a4_10 : decode mJ6_bitCount_0f7a4.2.1 10 = .ok (.iload_n 0, 1) := by decide +kernel
theorem dJ6_bitCount_0f7a4_11 : decode mJ6_bitCount_0f7a4.2.1 11 = .ok (.ldc_w 266, 3) := by decide +kernel
theorem dJ6_bitCount_0f7a4_14 : decode mJ6_bitCount_0f7a4.2.1 14 = .ok (.iand, 1) := by decide +kernel
theorem dJ6_bitCount_0f7a4_15 : decode mJ6_bitCount_0f7a4.2.1 15 = .ok (.iload_n 0, 1) := by decide +kernel
theorem dJ6_bitCount_0f7a4_16 : decode mJ6_bitCount_0f7a4.2.1 16 = .ok (.iconst 2, 1) := by decide +kernel
theorem dJ6_bitCount_0f7a4_17 : decode mJ6_bitCount_0f7a4.2.1 17 = .ok (.iushr, 1) := by decide +kernel
theorem dJ6_bitCount_0f7a4_18 : decode mJ6_bitCount_0f7a4.2.1 18 = .ok (.ldc_w 266, 3) := by decide +kernel
theorem dJ6_bitCount_0f7a4_21 : decode mJ6_bitCount_0f7a4.2.1 21 = .ok (.iand, 1) := by decide +kernel
theorem dJ6_bitCount_0f7a4_22 : decode mJ6_bitCount_0f7a4.2.1 22 = .ok (.iadd, 1) := by decide +kernel
theorem dJ6_bitCount_0f7a4_23 : decode mJ6_bitCount_0f7a4.2.1 23 = .ok (.istore_n 0, 1) := by decide +kernel
theorem dJ6_bitCount_0f7a4_24 : decode mJ6_bitCount_0f7a4.2.1 24 = .ok (.iload_n 0, 1) := by decide +kernel
theorem dJ6_bitCount_0f7a4_25 : decode mJ6_bitCount_0f7a4.2.1 25 = .ok (.iload_n 0, 1) := by decide +kernel
theorem dJ6_bitCount_0f7a4_26 : decode mJ6_bitCount_0f7a4.2.1 26 = .ok (.iconst 4, 1) := by decide +kernel
theorem dJ6_bitCount_0f7a4_27 : decode mJ6_bitCount_0f7a4.2.1 27 = .ok (.iushr, 1) := by decide +kernel
theorem dJ6_bitCount_0f7a4_28 : decode mJ6_bitCount_0f7a4.2.1 28 = .ok (.iadd, 1) := by decide +kernel
theorem dJ6_bitCount_0f7a4_29 : decode mJ6_bitCount_0f7a4.2.1 29 = .ok (.ldc_w 267, 3) := by decide +kernel
theorem dJ6_bitCount_0f7a4_32 : decode mJ6_bitCount_0f7a4.2.1 32 = .ok (.iand, 1) := by decide +kernel
theorem dJ6_bitCount_0f7a4_33 : decode mJ6_bitCount_0f7a4.2.1 33 = .ok (.istore_n 0, 1) := by decide +kernel
theorem dJ6_bitCount_0f7a4_34 : decode mJ6_bitCount_0f7a4.2.1 34 = .ok (.iload_n 0, 1) := by decide +kernel
theorem dJ6_bitCount_0f7a4_35 : decode mJ6_bitCount_0f7a4.2.1 35 = .ok (.iload_n 0, 1) := by decide +kernel
theorem dJ6_bitCount_0f7a4_36 : decode mJ6_bitCount_0f7a4.2.1 36 = .ok (.bipush 8, 2) := by decide +kernel
theorem dJ6_bitCount_0f7a4_38 : decode mJ6_bitCount_0f7a4.2.1 38 = .ok (.iushr, 1) := by decide +kernel
theorem dJ6_bitCount_0f7a4_39 : decode mJ6_bitCount_0f7a4.2.1 39 = .ok (.iadd, 1) := by decide +kernel
theorem dJ6_bitCount_0f7a4_40 : decode mJ6_bitCount_0f7a4.2.1 40 = .ok (.istore_n 0, 1) := by decide +kernel
theorem dJ6_bitCount_0f7a4_41 : decode mJ6_bitCount_0f7a4.2.1 41 = .ok (.iload_n 0, 1) := by decide +kernel
theorem dJ6_bitCount_0f7a4_42 : decode mJ6_bitCount_0f7a4.2.1 42 = .ok (.iload_n 0, 1) := by decide +kernel
theorem dJ6_bitCount_0f7a4_43 : decode mJ6_bitCount_0f7a4.2.1 43 = .ok (.bipush 16, 2) := by decide +kernel
theorem dJ6_bitCount_0f7a4_45 : decode mJ6_bitCount_0f7a4.2.1 45 = .ok (.iushr, 1) := by decide +kernel
theorem dJ6_bitCount_0f7a4_46 : decode mJ6_bitCount_0f7a4.2.1 46 = .ok (.iadd, 1) := by decide +kernel
theorem dJ6_bitCount_0f7a4_47 : decode mJ6_bitCount_0f7a4.2.1 47 = .ok (.istore_n 0, 1) := by decide +kernel
theorem dJ6_bitCount_0f7a4_48 : decode mJ6_bitCount_0f7a4.2.1 48 = .ok (.iload_n 0, 1) := by decide +kernel
theorem dJ6_bitCount_0f7a4_49 : decode mJ6_bitCount_0f7a4.2.1 49 = .ok (.bipush 63, 2) := by decide +kernel
theorem dJ6_bitCount_0f7a4_51 : decode mJ6_bitCount_0f7a4.2.1 51 = .ok (.iand, 1) := by decide +kernel
theorem dJ6_bitCount_0f7a4_52 : decode mJ6_bitCount_0f7a4.2.1 52 = .ok (.ireturn, 1) := by decide +kernel
theorem dJ13_bitCount_95d88_0 : decode mJ13_bitCount_95d88.2.1 0 = .ok (.lload_n 0, 1) := by decide +kernel
theorem dJ13_bitCount_95d88_1 : decode mJ13_bitCount_95d88.2.1 1 = .ok (.lload_n 0, 1) := by decide +kernel
theorem dJ13_bitCount_95d88_2 : decode mJ13_bitCount_95d88.2.1 2 = .ok (.iconst 1, 1) := by decide +kernel
theorem dJ13_bitCount_95d88_3 : decode mJ13_bitCount_95d88.2.1 3 = .ok (.lushr, 1) := by decide +kernel
theorem dJ13_bitCount_95d88_4 : decode mJ13_bitCount_95d88.2.1 4 = .ok (.ldc2_w 314, 3) := by decide +kernel
theorem dJ13_bitCount_95d88_7 : decode mJ13_bitCount_95d88.2.1 7 = .ok (.land, 1) := by decide +kernel
theorem dJ13_bitCount_95d88_8 : decode mJ13_bitCount_95d88.2.1 8 = .ok (.lsub, 1) := by decide +kernel
theorem dJ13_bitCount_95d88_9 : decode mJ13_bitCount_95d88.2.1 9 = .ok (.lstore_n 0, 1) := by decide +kernel
theorem dJ13_bitCount_95d88_10 : decode mJ13_bitCount_95d88.2.1 10 = .ok (.lload_n 0, 1) := by decide +kernel
theorem dJ13_bitCount_95d88_11 : decode mJ13_bitCount_95d88.2.1 11 = .ok (.ldc2_w 316, 3) := by decide +kernel
theorem dJ13_bitCount_95d88_14 : decode mJ13_bitCount_95d88.2.1 14 = .ok (.land, 1) := by decide +kernel
theorem dJ13_bitCount_95d88_15 : decode mJ13_bitCount_95d88.2.1 15 = .ok (.lload_n 0, 1) := by decide +kernel
theorem dJ13_bitCount_95d88_16 : decode mJ13_bitCount_95d88.2.1 16 = .ok (.iconst 2, 1) := by decide +kernel
theorem dJ13_bitCount_95d88_17 : decode mJ13_bitCount_95d88.2.1 17 = .ok (.lushr, 1) := by decide +kernel
theorem dJ13_bitCount_95d88_18 : decode mJ13_bitCount_95d88.2.1 18 = .ok (.ldc2_w 316, 3) := by decide +kernel
theorem dJ13_bitCount_95d88_21 : decode mJ13_bitCount_95d88.2.1 21 = .ok (.land, 1) := by decide +kernel
theorem dJ13_bitCount_95d88_22 : decode mJ13_bitCount_95d88.2.1 22 = .ok (.ladd, 1) := by decide +kernel
theorem dJ13_bitCount_95d88_23 : decode mJ13_bitCount_95d88.2.1 23 = .ok (.lstore_n 0, 1) := by decide +kernel
theorem dJ13_bitCount_95d88_24 : decode mJ13_bitCount_95d88.2.1 24 = .ok (.lload_n 0, 1) := by decide +kernel
theorem dJ13_bitCount_95d88_25 : decode mJ13_bitCount_95d88.2.1 25 = .ok (.lload_n 0, 1) := by decide +kernel
theorem dJ13_bitCount_95d88_26 : decode mJ13_bitCount_95d88.2.1 26 = .ok (.iconst 4, 1) := by decide +kernel
theorem dJ13_bitCount_95d88_27 : decode mJ13_bitCount_95d88.2.1 27 = .ok (.lushr, 1) := by decide +kernel
theorem dJ13_bitCount_95d88_28 : decode mJ13_bitCount_95d88.2.1 28 = .ok (.ladd, 1) := by decide +kernel
theorem dJ13_bitCount_95d88_29 : decode mJ13_bitCount_95d88.2.1 29 = .ok (.ldc2_w 318, 3) := by decide +kernel
theorem dJ13_bitCount_95d88_32 : decode mJ13_bitCount_95d88.2.1 32 = .ok (.land, 1) := by decide +kernel
theorem dJ13_bitCount_95d88_33 : decode mJ13_bitCount_95d88.2.1 33 = .ok (.lstore_n 0, 1) := by decide +kernel
theorem dJ13_bitCount_95d88_34 : decode mJ13_bitCount_95d88.2.1 34 = .ok (.lload_n 0, 1) := by decide +kernel
theorem dJ13_bitCount_95d88_35 : decode mJ13_bitCount_95d88.2.1 35 = .ok (.lload_n 0, 1) := by decide +kernel
theorem dJ13_bitCount_95d88_36 : decode mJ13_bitCount_95d88.2.1 36 = .ok (.bipush 8, 2) := by decide +kernel
theorem dJ13_bitCount_95d88_38 : decode mJ13_bitCount_95d88.2.1 38 = .ok (.lushr, 1) := by decide +kernel
theorem dJ13_bitCount_95d88_39 : decode mJ13_bitCount_95d88.2.1 39 = .ok (.ladd, 1) := by decide +kernel
theorem dJ13_bitCount_95d88_40 : decode mJ13_bitCount_95d88.2.1 40 = .ok (.lstore_n 0, 1) := by decide +kernel
theorem dJ13_bitCount_95d88_41 : decode mJ13_bitCount_95d88.2.1 41 = .ok (.lload_n 0, 1) := by decide +kernel
theorem dJ13_bitCount_95d88_42 : decode mJ13_bitCount_95d88.2.1 42 = .ok (.lload_n 0, 1) := by decide +kernel
theorem dJ13_bitCount_95d88_43 : decode mJ13_bitCount_95d88.2.1 43 = .ok (.bipush 16, 2) := by decide +kernel
theorem dJ13_bitCount_95d88_45 : decode mJ13_bitCount_95d88.2.1 45 = .ok (.lushr, 1) := by decide +kernel
theorem dJ13_bitCount_95d88_46 : decode mJ13_bitCount_95d88.2.1 46 = .ok (.ladd, 1) := by decide +kernel
theorem dJ13_bitCount_95d88_47 : decode mJ13_bitCount_95d88.2.1 47 = .ok (.lstore_n 0, 1) := by decide +kernel
theorem dJ13_bitCount_95d88_48 : decode mJ13_bitCount_95d88.2.1 48 = .ok (.lload_n 0, 1) := by decide +kernel
theorem dJ13_bitCount_95d88_49 : decode mJ13_bitCount_95d88.2.1 49 = .ok (.lload_n 0, 1) := by decide +kernel
theorem dJ13_bitCount_95d88_50 : decode mJ13_bitCount_95d88.2.1 50 = .ok (.bipush 32, 2) := by decide +kernel
theorem dJ13_bitCount_95d88_52 : decode mJ13_bitCount_95d88.2.1 52 = .ok (.lushr, 1) := by decide +kernel
theorem dJ13_bitCount_95d88_53 : decode mJ13_bitCount_95d88.2.1 53 = .ok (.ladd, 1) := by decide +kernel
theorem dJ13_bitCount_95d88_54 : decode mJ13_bitCount_95d88.2.1 54 = .ok (.lstore_n 0, 1) := by decide +kernel
theorem dJ13_bitCount_95d88_55 : decode mJ13_bitCount_95d88.2.1 55 = .ok (.lload_n 0, 1) := by decide +kernel
theorem dJ13_bitCount_95d88_56 : decode mJ13_bitCount_95d88.2.1 56 = .ok (.l2i, 1) := by decide +kernel
theorem dJ13_bitCount_95d88_57 : decode mJ13_bitCount_95d88.2.1 57 = .ok (.bipush 127, 2) := by decide +kernel
theorem dJ13_bitCount_95d88_59 : decode mJ13_bitCount_95d88.2.1 59 = .ok (.iand, 1) := by decide +kernel
theorem dJ13_bitCount_95d88_60 : decode mJ13_bitCount_95d88.2.1 60 = .ok (.ireturn, 1) := by decide +kernel
theorem dJ0_length_8abf5_0 : decode mJ0_length_8abf5.2.1 0 = .ok (.aload_n 0, 1) := by decide +kernel
theorem dJ0_length_8abf5_1 : decode mJ0_length_8abf5.2.1 1 = .ok (.getfield 9, 3) := by decide +kernel
theorem dJ0_length_8abf5_4 : decode mJ0_length_8abf5.2.1 4 = .ok (.arraylength, 1) := by decide +kernel
theorem dJ0_length_8abf5_5 : decode mJ0_length_8abf5.2.1 5 = .ok (.aload_n 0, 1) := by decide +kernel
theorem dJ0_length_8abf5_6 : decode mJ0_length_8abf5.2.1 6 = .ok (.invokevirtual 335, 3) := by decide +kernel
theorem dJ0_length_8abf5_9 : decode mJ0_length_8abf5.2.1 9 = .ok (.ishr, 1) := by decide +kernel
theorem dJ0_length_8abf5_10 : decode mJ0_length_8abf5.2.1 10 = .ok (.ireturn, 1) := by decide +kernel
theorem dJ0_charAt_5068e_0 : decode mJ0_charAt_5068e.2.1 0 = .ok (.aload_n 0, 1) := by decide +kernel
theorem dJ0_charAt_5068e_1 : decode mJ0_charAt_5068e.2.1 1 = .ok (.invokevirtual 492, 3) := by decide +kernel
theorem dJ0_charAt_5068e_4 : decode mJ0_charAt_5068e.2.1 4 = .ok (.ifCond .eq 12, 3) := by decide +kernel
theorem dJ0_charAt_5068e_7 : decode mJ0_charAt_5068e.2.1 7 = .ok (.aload_n 0, 1) := by decide +kernel
theorem dJ0_charAt_5068e_8 : decode mJ0_charAt_5068e.2.1 8 = .ok (.getfield 9, 3) := by decide +kernel
theorem dJ0_charAt_5068e_11 : decode mJ0_charAt_5068e.2.1 11 = .ok (.iload_n 1, 1) := by decide +kernel
theorem dJ0_charAt_5068e_12 : decode mJ0_charAt_5068e.2.1 12 = .ok (.invokestatic 495, 3) := by decide +kernel
theorem dJ0_charAt_5068e_15 : decode mJ0_charAt_5068e.2.1 15 = .ok (.ireturn, 1) := by decide +kernel
theorem dJ0_charAt_5068e_16 : decode mJ0_charAt_5068e.2.1 16 = .ok (.aload_n 0, 1) := by decide +kernel
theorem dJ0_charAt_5068e_17 : decode mJ0_charAt_5068e.2.1 17 = .ok (.getfield 9, 3) := by decide +kernel
theorem dJ0_charAt_5068e_20 : decode mJ0_charAt_5068e.2.1 20 = .ok (.iload_n 1, 1) := by decide +kernel
theorem dJ0_charAt_5068e_21 : decode mJ0_charAt_5068e.2.1 21 = .ok (.invokestatic 498, 3) := by decide +kernel
theorem dJ0_charAt_5068e_24 : decode mJ0_charAt_5068e.2.1 24 = .ok (.ireturn, 1) := by decide +kernel
theorem dJ0_coder_7d493_0 : decode mJ0_coder_7d493.2.1 0 = .ok (.getstatic 38, 3) := by decide +kernel
theorem dJ0_coder_7d493_3 : decode mJ0_coder_7d493.2.1 3 = .ok (.ifCond .eq 10, 3) := by decide +kernel
theorem dJ0_coder_7d493_6 : decode mJ0_coder_7d493.2.1 6 = .ok (.aload_n 0, 1) := by decide +kernel
theorem dJ0_coder_7d493_7 : decode mJ0_coder_7d493.2.1 7 = .ok (.getfield 15, 3) := by decide +kernel
theorem dJ0_coder_7d493_10 : decode mJ0_coder_7d493.2.1 10 = .ok (.goto 4, 3) := by decide +kernel
theorem dJ0_coder_7d493_13 : decode mJ0_coder_7d493.2.1 13 = .ok (.iconst 1, 1) := by decide +kernel
theorem dJ0_coder_7d493_14 : decode mJ0_coder_7d493.2.1 14 = .ok (.ireturn, 1) := by decide +kernel
theorem dJ0_isLatin1_aae02_0 : decode mJ0_isLatin1_aae02.2.1 0 = .ok (.getstatic 38, 3) := by decide +kernel
theorem dJ0_isLatin1_aae02_3 : decode mJ0_isLatin1_aae02.2.1 3 = .ok (.ifCond .eq 14, 3) := by decide +kernel
theorem dJ0_isLatin1_aae02_6 : decode mJ0_isLatin1_aae02.2.1 6 = .ok (.aload_n 0, 1) := by decide +kernel
theorem dJ0_isLatin1_aae02_7 : decode mJ0_isLatin1_aae02.2.1 7 = .ok (.getfield 15, 3) := by decide +kernel
theorem dJ0_isLatin1_aae02_10 : decode mJ0_isLatin1_aae02.2.1 10 = .ok (.ifCond .ne 7, 3) := by decide +kernel
theorem dJ0_isLatin1_aae02_13 : decode mJ0_isLatin1_aae02.2.1 13 = .ok (.iconst 1, 1) := by decide +kernel
theorem dJ0_isLatin1_aae02_14 : decode mJ0_isLatin1_aae02.2.1 14 = .ok (.goto 4, 3) := by decide +kernel
theorem dJ0_isLatin1_aae02_17 : decode mJ0_isLatin1_aae02.2.1 17 = .ok (.iconst 0, 1) := by decide +kernel
theorem dJ0_isLatin1_aae02_18 : decode mJ0_isLatin1_aae02.2.1 18 = .ok (.ireturn, 1) := by decide +kernel
theorem dJ0_checkIndex_df160_0 : decode mJ0_checkIndex_df160.2.1 0 = .ok (.iload_n 0, 1) := by decide +kernel
theorem dJ0_checkIndex_df160_1 : decode mJ0_checkIndex_df160.2.1 1 = .ok (.iload_n 1, 1) := by decide +kernel
theorem dJ0_checkIndex_df160_2 : decode mJ0_checkIndex_df160.2.1 2 = .ok (.getstatic 1053, 3) := by decide +kernel
theorem dJ0_checkIndex_df160_5 : decode mJ0_checkIndex_df160.2.1 5 = .ok (.invokestatic 1059, 3) := by decide +kernel
theorem dJ0_checkIndex_df160_8 : decode mJ0_checkIndex_df160.2.1 8 = .ok (.pop, 1) := by decide +kernel
theorem dJ0_checkIndex_df160_9 : decode mJ0_checkIndex_df160.2.1 9 = .ok (.return_, 1) := by decide +kernel
theorem dJ1_charAt_3b067_0 : decode mJ1_charAt_3b067.2.1 0 = .ok (.iload_n 1, 1) := by decide +kernel
theorem dJ1_charAt_3b067_1 : decode mJ1_charAt_3b067.2.1 1 = .ok (.aload_n 0, 1) := by decide +kernel
theorem dJ1_charAt_3b067_2 : decode mJ1_charAt_3b067.2.1 2 = .ok (.arraylength, 1) := by decide +kernel
theorem dJ1_charAt_3b067_3 : decode mJ1_charAt_3b067.2.1 3 = .ok (.invokestatic 9, 3) := by decide +kernel
theorem dJ1_charAt_3b067_6 : decode mJ1_charAt_3b067.2.1 6 = .ok (.aload_n 0, 1) := by decide +kernel
theorem dJ1_charAt_3b067_7 : decode mJ1_charAt_3b067.2.1 7 = .ok (.iload_n 1, 1) := by decide +kernel
theorem dJ1_charAt_3b067_8 : decode mJ1_charAt_3b067.2.1 8 = .ok (.baload, 1) := by decide +kernel
theorem dJ1_charAt_3b067_9 : decode mJ1_charAt_3b067.2.1 9 = .ok (.sipush 255, 3) := by decide +kernel
theorem dJ1_charAt_3b067_12 : decode mJ1_charAt_3b067.2.1 12 = .ok (.iand, 1) := by decide +kernel
theorem dJ1_charAt_3b067_13 : decode mJ1_charAt_3b067.2.1 13 = .ok (.i2c, 1) := by decide +kernel
theorem dJ1_charAt_3b067_14 : decode mJ1_charAt_3b067.2.1 14 = .ok (.ireturn, 1) := by decide +kernel
theorem dJ7_fill_53178_0 : decode mJ7_fill_53178.2.1 0 = .ok (.iconst 0, 1) := by decide +kernel
theorem dJ7_fill_53178_1 : decode mJ7_fill_53178.2.1 1 = .ok (.istore_n 2, 1) := by decide +kernel
theorem dJ7_fill_53178_2 : decode mJ7_fill_53178.2.1 2 = .ok (.aload_n 0, 1) := by decide +kernel
theorem dJ7_fill_53178_3 : decode mJ7_fill_53178.2.1 3 = .ok (.arraylength, 1) := by decide +kernel
theorem dJ7_fill_53178_4 : decode mJ7_fill_53178.2.1 4 = .ok (.istore_n 3, 1) := by decide +kernel
theorem dJ7_fill_53178_5 : decode mJ7_fill_53178.2.1 5 = .ok (.iload_n 2, 1) := by decide +kernel
theorem dJ7_fill_53178_6 : decode mJ7_fill_53178.2.1 6 = .ok (.iload_n 3, 1) := by decide +kernel
theorem dJ7_fill_53178_7 : decode mJ7_fill_53178.2.1 7 = .ok (.if_icmp .ge 13, 3) := by decide +kernel
theorem dJ7_fill_53178_10 : decode mJ7_fill_53178.2.1 10 = .ok (.aload_n 0, 1) := by decide +kernel
theorem dJ7_fill_53178_11 : decode mJ7_fill_53178.2.1 11 = .ok (.iload_n 2, 1) := by decide +kernel
theorem dJ7_fill_53178_12 : decode mJ7_fill_53178.2.1 12 = .ok (.iload_n 1, 1) := by decide +kernel
theorem dJ7_fill_53178_13 : decode mJ7_fill_53178.2.1 13 = .ok (.iastore, 1) := by decide +kernel
theorem dJ7_fill_53178_14 : decode mJ7_fill_53178.2.1 14 = .ok (.iinc 2 1, 3) := by decide +kernel
theorem dJ7_fill_53178_17 : decode mJ7_fill_53178.2.1 17 = .ok (.goto (-12), 3) := by decide +kernel
theorem dJ7_fill_53178_20 : decode mJ7_fill_53178.2.1 20 = .ok (.return_, 1) := by decide +kernel
theorem dJ3_checkIndex_8e157_0 : decode mJ3_checkIndex_8e157.2.1 0 = .ok (.iload_n 0, 1) := by decide +kernel
theorem dJ3_checkIndex_8e157_1 : decode mJ3_checkIndex_8e157.2.1 1 = .ok (.ifCond .lt 8, 3) := by decide +kernel
theorem dJ3_checkIndex_8e157_4 : decode mJ3_checkIndex_8e157.2.1 4 = .ok (.iload_n 0, 1) := by decide +kernel
theorem dJ3_checkIndex_8e157_5 : decode mJ3_checkIndex_8e157.2.1 5 = .ok (.iload_n 1, 1) := by decide +kernel
theorem dJ3_checkIndex_8e157_6 : decode mJ3_checkIndex_8e157.2.1 6 = .ok (.if_icmp .lt 10, 3) := by decide +kernel
theorem dJ3_checkIndex_8e157_9 : decode mJ3_checkIndex_8e157.2.1 9 = .ok (.aload_n 2, 1) := by decide +kernel
theorem dJ3_checkIndex_8e157_10 : decode mJ3_checkIndex_8e157.2.1 10 = .ok (.iload_n 0, 1) := by decide +kernel
theorem dJ3_checkIndex_8e157_11 : decode mJ3_checkIndex_8e157.2.1 11 = .ok (.iload_n 1, 1) := by decide +kernel
theorem dJ3_checkIndex_8e157_12 : decode mJ3_checkIndex_8e157.2.1 12 = .ok (.invokestatic 95, 3) := by decide +kernel
theorem dJ3_checkIndex_8e157_15 : decode mJ3_checkIndex_8e157.2.1 15 = .ok (.athrow, 1) := by decide +kernel
theorem dJ3_checkIndex_8e157_16 : decode mJ3_checkIndex_8e157.2.1 16 = .ok (.iload_n 0, 1) := by decide +kernel
theorem dJ3_checkIndex_8e157_17 : decode mJ3_checkIndex_8e157.2.1 17 = .ok (.ireturn, 1) := by decide +kernel
