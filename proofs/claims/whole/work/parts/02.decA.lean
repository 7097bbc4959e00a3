theorem dX0_init_0 : decode cX0_init 0 = .ok (.aload_n 0, 1) := by decide +kernel
theorem dX0_init_1 : decode cX0_init 1 = .ok (.invokespecial 5, 3) := by decide +kernel
theorem dX0_init_4 : decode cX0_init 4 = .ok (.aload_n 0, 1) := by decide +kernel
theorem dX0_init_5 : decode cX0_init 5 = .ok (.sipush 160, 3) := by decide +kernel
theorem dX0_init_8 : decode cX0_init 8 = .ok (.newarray .int, 2) := by decide +kernel
theorem dX0_init_10 : decode cX0_init 10 = .ok (.putfield 11, 3) := by decide +kernel
theorem dX0_init_13 : decode cX0_init 13 = .ok (.aload_n 0, 1) := by decide +kernel
theorem dX0_init_14 : decode cX0_init 14 = .ok (.sipush 160, 3) := by decide +kernel
theorem dX0_init_17 : decode cX0_init 17 = .ok (.newarray .int, 2) := by decide +kernel
theorem dX0_init_19 : decode cX0_init 19 = .ok (.putfield 15, 3) := by decide +kernel
theorem dX0_init_22 : decode cX0_init 22 = .ok (.aload_n 0, 1) := by decide +kernel
theorem dX0_init_23 : decode cX0_init 23 = .ok (.iconst 3, 1) := by decide +kernel
theorem dX0_init_24 : decode cX0_init 24 = .ok (.newarray .int, 2) := by decide +kernel
theorem dX0_init_26 : decode cX0_init 26 = .ok (.putfield 18, 3) := by decide +kernel
theorem dX0_init_29 : decode cX0_init 29 = .ok (.return_, 1) := by decide +kernel
theorem dX0_append_0 : decode cX0_append 0 = .ok (.aload_n 0, 1) := by decide +kernel
theorem dX0_append_1 : decode cX0_append 1 = .ok (.getfield 21, 3) := by decide +kernel
theorem dX0_append_4 : decode cX0_append 4 = .ok (.ifCond .lt 13, 3) := by decide +kernel
theorem dX0_append_7 : decode cX0_append 7 = .ok (.aload_n 0, 1) := by decide +kernel
theorem dX0_append_8 : decode cX0_append 8 = .ok (.getfield 21, 3) := by decide +kernel
theorem dX0_append_11 : decode cX0_append 11 = .ok (.sipush 160, 3) := by decide +kernel
theorem dX0_append_14 : decode cX0_append 14 = .ok (.if_icmp .lt 5, 3) := by decide +kernel
theorem dX0_append_17 : decode cX0_append 17 = .ok (.iconst 0, 1) := by decide +kernel
theorem dX0_append_18 : decode cX0_append 18 = .ok (.ireturn, 1) := by decide +kernel
theorem dX0_append_19 : decode cX0_append 19 = .ok (.aload_n 0, 1) := by decide +kernel
theorem dX0_append_20 : decode cX0_append 20 = .ok (.getfield 11, 3) := by decide +kernel
theorem dX0_append_23 : decode cX0_append 23 = .ok (.aload_n 0, 1) := by decide +kernel
theorem dX0_append_24 : decode cX0_append 24 = .ok (.getfield 21, 3) := by decide +kernel
theorem dX0_append_27 : decode cX0_append 27 = .ok (.iload_n 1, 1) := by decide +kernel
theorem dX0_append_28 : decode cX0_append 28 = .ok (.iastore, 1) := by decide +kernel
theorem dX0_append_29 : decode cX0_append 29 = .ok (.aload_n 0, 1) := by decide +kernel
theorem dX0_append_30 : decode cX0_append 30 = .ok (.dup, 1) := by decide +kernel
theorem dX0_append_31 : decode cX0_append 31 = .ok (.getfield 21, 3) := by decide +kernel
theorem dX0_append_34 : decode cX0_append 34 = .ok (.iconst 1, 1) := by decide +kernel
theorem dX0_append_35 : decode cX0_append 35 = .ok (.iadd, 1) := by decide +kernel
theorem dX0_append_36 : decode cX0_append 36 = .ok (.putfield 21, 3) := by decide +kernel
theorem dX0_append_39 : decode cX0_append 39 = .ok (.iconst 1, 1) := by decide +kernel
theorem dX0_append_40 : decode cX0_append 40 = .ok (.ireturn, 1) := by decide +kernel
theorem dX0_write_0 : decode cX0_write 0 = .ok (.aload_n 1, 1) := by decide +kernel
theorem dX0_write_1 : decode cX0_write 1 = .ok (.ifnonnull 4, 3) := by decide +kernel
theorem dX0_write_4 : decode cX0_write 4 = .ok (.return_, 1) := by decide +kernel
theorem dX0_write_5 : decode cX0_write 5 = .ok (.iconst 0, 1) := by decide +kernel
theorem dX0_write_6 : decode cX0_write 6 = .ok (.istore_n 2, 1) := by decide +kernel
theorem dX0_write_7 : decode cX0_write 7 = .ok (.iload_n 2, 1) := by decide +kernel
theorem dX0_write_8 : decode cX0_write 8 = .ok (.aload_n 1, 1) := by decide +kernel
theorem dX0_write_9 : decode cX0_write 9 = .ok (.invokevirtual 25, 3) := by decide +kernel
theorem dX0_write_12 : decode cX0_write 12 = .ok (.if_icmp .ge 26, 3) := by decide +kernel
theorem dX0_write_15 : decode cX0_write 15 = .ok (.iload_n 2, 1) := by decide +kernel
theorem dX0_write_16 : decode cX0_write 16 = .ok (.sipush 160, 3) := by decide +kernel
theorem dX0_write_19 : decode cX0_write 19 = .ok (.if_icmp .ge 19, 3) := by decide +kernel
theorem dX0_write_22 : decode cX0_write 22 = .ok (.aload_n 0, 1) := by decide +kernel
theorem dX0_write_23 : decode cX0_write 23 = .ok (.aload_n 1, 1) := by decide +kernel
theorem dX0_write_24 : decode cX0_write 24 = .ok (.iload_n 2, 1) := by decide +kernel
theorem dX0_write_25 : decode cX0_write 25 = .ok (.invokevirtual 31, 3) := by decide +kernel
theorem dX0_write_28 : decode cX0_write 28 = .ok (.invokevirtual 35, 3) := by decide +kernel
theorem dX0_write_31 : decode cX0_write 31 = .ok (.pop, 1) := by decide +kernel
theorem dX0_write_32 : decode cX0_write 32 = .ok (.iinc 2 1, 3) := by decide +kernel
theorem dX0_write_35 : decode cX0_write 35 = .ok (.goto (-28), 3) := by decide +kernel
theorem dX0_write_38 : decode cX0_write 38 = .ok (.return_, 1) := by decide +kernel
theorem dX0_reads_0 : decode cX0_reads 0 = .ok (.aload_n 0, 1) := by decide +kernel
theorem dX0_reads_1 : decode cX0_reads 1 = .ok (.iconst 0, 1) := by decide +kernel
theorem dX0_reads_2 : decode cX0_reads 2 = .ok (.putfield 39, 3) := by decide +kernel
theorem dX0_reads_5 : decode cX0_reads 5 = .ok (.aload_n 0, 1) := by decide +kernel
theorem dX0_reads_6 : decode cX0_reads 6 = .ok (.iconst 0, 1) := by decide +kernel
theorem dX0_reads_7 : decode cX0_reads 7 = .ok (.putfield 42, 3) := by decide +kernel
theorem dX0_reads_10 : decode cX0_reads 10 = .ok (.aload_n 0, 1) := by decide +kernel
theorem dX0_reads_11 : decode cX0_reads 11 = .ok (.iconst (-1), 1) := by decide +kernel
theorem dX0_reads_12 : decode cX0_reads 12 = .ok (.putfield 44, 3) := by decide +kernel
theorem dX0_reads_15 : decode cX0_reads 15 = .ok (.aload_n 0, 1) := by decide +kernel
theorem dX0_reads_16 : decode cX0_reads 16 = .ok (.invokevirtual 47, 3) := by decide +kernel
theorem dX0_reads_19 : decode cX0_reads 19 = .ok (.iconst 0, 1) := by decide +kernel
theorem dX0_reads_20 : decode cX0_reads 20 = .ok (.istore_n 1, 1) := by decide +kernel
theorem dX0_reads_21 : decode cX0_reads 21 = .ok (.iload_n 1, 1) := by decide +kernel
theorem dX0_reads_22 : decode cX0_reads 22 = .ok (.iconst 3, 1) := by decide +kernel
theorem dX0_reads_23 : decode cX0_reads 23 = .ok (.if_icmp .ge 39, 3) := by decide +kernel
theorem dX0_reads_26 : decode cX0_reads 26 = .ok (.aload_n 0, 1) := by decide +kernel
theorem dX0_reads_27 : decode cX0_reads 27 = .ok (.bipush 100, 2) := by decide +kernel
theorem dX0_reads_29 : decode cX0_reads 29 = .ok (.iload_n 1, 1) := by decide +kernel
theorem dX0_reads_30 : decode cX0_reads 30 = .ok (.iadd, 1) := by decide +kernel
theorem dX0_reads_31 : decode cX0_reads 31 = .ok (.invokevirtual 50, 3) := by decide +kernel
theorem dX0_reads_34 : decode cX0_reads 34 = .ok (.aload_n 0, 1) := by decide +kernel
theorem dX0_reads_35 : decode cX0_reads 35 = .ok (.iconst 0, 1) := by decide +kernel
theorem dX0_reads_36 : decode cX0_reads 36 = .ok (.iconst 0, 1) := by decide +kernel
theorem dX0_reads_37 : decode cX0_reads 37 = .ok (.invokevirtual 54, 3) := by decide +kernel
theorem dX0_reads_40 : decode cX0_reads 40 = .ok (.aload_n 0, 1) := by decide +kernel
theorem dX0_reads_41 : decode cX0_reads 41 = .ok (.bipush 59, 2) := by decide +kernel
theorem dX0_reads_43 : decode cX0_reads 43 = .ok (.invokevirtual 50, 3) := by decide +kernel
theorem dX0_reads_46 : decode cX0_reads 46 = .ok (.aload_n 0, 1) := by decide +kernel
theorem dX0_reads_47 : decode cX0_reads 47 = .ok (.getfield 18, 3) := by decide +kernel
theorem dX0_reads_50 : decode cX0_reads 50 = .ok (.iload_n 1, 1) := by decide +kernel
theorem dX0_reads_51 : decode cX0_reads 51 = .ok (.aload_n 0, 1) := by decide +kernel
theorem dX0_reads_52 : decode cX0_reads 52 = .ok (.getfield 42, 3) := by decide +kernel
theorem dX0_reads_55 : decode cX0_reads 55 = .ok (.iastore, 1) := by decide +kernel
theorem dX0_reads_56 : decode cX0_reads 56 = .ok (.iinc 1 1, 3) := by decide +kernel
theorem dX0_reads_59 : decode cX0_reads 59 = .ok (.goto (-38), 3) := by decide +kernel
theorem dX0_reads_62 : decode cX0_reads 62 = .ok (.aload_n 0, 1) := by decide +kernel
theorem dX0_reads_63 : decode cX0_reads 63 = .ok (.iconst 0, 1) := by decide +kernel
theorem dX0_reads_64 : decode cX0_reads 64 = .ok (.invokevirtual 50, 3) := by decide +kernel
theorem dX0_reads_67 : decode cX0_reads 67 = .ok (.aload_n 0, 1) := by decide +kernel
theorem dX0_reads_68 : decode cX0_reads 68 = .ok (.iconst 0, 1) := by decide +kernel
theorem dX0_reads_69 : decode cX0_reads 69 = .ok (.putfield 21, 3) := by decide +kernel
theorem dX0_reads_72 : decode cX0_reads 72 = .ok (.aload_n 0, 1) := by decide +kernel
theorem dX0_reads_73 : decode cX0_reads 73 = .ok (.getfield 44, 3) := by decide +kernel
theorem dX0_reads_76 : decode cX0_reads 76 = .ok (.iconst (-1), 1) := by decide +kernel
theorem dX0_reads_77 : decode cX0_reads 77 = .ok (.if_icmp .ne 7, 3) := by decide +kernel
theorem dX0_reads_80 : decode cX0_reads 80 = .ok (.iconst 1, 1) := by decide +kernel
theorem dX0_reads_81 : decode cX0_reads 81 = .ok (.goto 4, 3) := by decide +kernel
theorem dX0_reads_84 : decode cX0_reads 84 = .ok (.iconst 0, 1) := by decide +kernel
theorem dX0_reads_85 : decode cX0_reads 85 = .ok (.ireturn, 1) := by decide +kernel
theorem dX0_demand_0 : decode cX0_demand 0 = .ok (.aload_n 0, 1) := by decide +kernel
theorem dX0_demand_1 : decode cX0_demand 1 = .ok (.getfield 58, 3) := by decide +kernel
theorem dX0_demand_4 : decode cX0_demand 4 = .ok (.iload_n 1, 1) := by decide +kernel
theorem dX0_demand_5 : decode cX0_demand 5 = .ok (.if_icmp .ne 10, 3) := by decide +kernel
theorem dX0_demand_8 : decode cX0_demand 8 = .ok (.aload_n 0, 1) := by decide +kernel
theorem dX0_demand_9 : decode cX0_demand 9 = .ok (.invokevirtual 47, 3) := by decide +kernel
theorem dX0_demand_12 : decode cX0_demand 12 = .ok (.goto 7, 3) := by decide +kernel
theorem dX0_demand_15 : decode cX0_demand 15 = .ok (.aload_n 0, 1) := by decide +kernel
theorem dX0_demand_16 : decode cX0_demand 16 = .ok (.invokevirtual 61, 3) := by decide +kernel
theorem dX0_demand_19 : decode cX0_demand 19 = .ok (.return_, 1) := by decide +kernel
theorem dX0_breakOff_0 : decode cX0_breakOff 0 = .ok (.aload_n 0, 1) := by decide +kernel
theorem dX0_breakOff_1 : decode cX0_breakOff 1 = .ok (.getfield 44, 3) := by decide +kernel
theorem dX0_breakOff_4 : decode cX0_breakOff 4 = .ok (.iconst (-1), 1) := by decide +kernel
theorem dX0_breakOff_5 : decode cX0_breakOff 5 = .ok (.if_icmp .ne 11, 3) := by decide +kernel
theorem dX0_breakOff_8 : decode cX0_breakOff 8 = .ok (.aload_n 0, 1) := by decide +kernel
theorem dX0_breakOff_9 : decode cX0_breakOff 9 = .ok (.aload_n 0, 1) := by decide +kernel
theorem dX0_breakOff_10 : decode cX0_breakOff 10 = .ok (.getfield 64, 3) := by decide +kernel
theorem dX0_breakOff_13 : decode cX0_breakOff 13 = .ok (.putfield 44, 3) := by decide +kernel
theorem dX0_breakOff_16 : decode cX0_breakOff 16 = .ok (.aload_n 0, 1) := by decide +kernel
theorem dX0_breakOff_17 : decode cX0_breakOff 17 = .ok (.iconst 1, 1) := by decide +kernel
theorem dX0_breakOff_18 : decode cX0_breakOff 18 = .ok (.putfield 58, 3) := by decide +kernel
theorem dX0_breakOff_21 : decode cX0_breakOff 21 = .ok (.return_, 1) := by decide +kernel
theorem dX0_put_0 : decode cX0_put 0 = .ok (.aload_n 0, 1) := by decide +kernel
theorem dX0_put_1 : decode cX0_put 1 = .ok (.getfield 42, 3) := by decide +kernel
theorem dX0_put_4 : decode cX0_put 4 = .ok (.ifCond .lt 33, 3) := by decide +kernel
theorem dX0_put_7 : decode cX0_put 7 = .ok (.aload_n 0, 1) := by decide +kernel
theorem dX0_put_8 : decode cX0_put 8 = .ok (.getfield 42, 3) := by decide +kernel
theorem dX0_put_11 : decode cX0_put 11 = .ok (.sipush 160, 3) := by decide +kernel
theorem dX0_put_14 : decode cX0_put 14 = .ok (.if_icmp .ge 23, 3) := by decide +kernel
theorem dX0_put_17 : decode cX0_put 17 = .ok (.aload_n 0, 1) := by decide +kernel
theorem dX0_put_18 : decode cX0_put 18 = .ok (.getfield 15, 3) := by decide +kernel
theorem dX0_put_21 : decode cX0_put 21 = .ok (.aload_n 0, 1) := by decide +kernel
theorem dX0_put_22 : decode cX0_put 22 = .ok (.getfield 42, 3) := by decide +kernel
theorem dX0_put_25 : decode cX0_put 25 = .ok (.iload_n 1, 1) := by decide +kernel
theorem dX0_put_26 : decode cX0_put 26 = .ok (.iastore, 1) := by decide +kernel
theorem dX0_put_27 : decode cX0_put 27 = .ok (.aload_n 0, 1) := by decide +kernel
theorem dX0_put_28 : decode cX0_put 28 = .ok (.dup, 1) := by decide +kernel
theorem dX0_put_29 : decode cX0_put 29 = .ok (.getfield 42, 3) := by decide +kernel
theorem dX0_put_32 : decode cX0_put 32 = .ok (.iconst 1, 1) := by decide +kernel
theorem dX0_put_33 : decode cX0_put 33 = .ok (.iadd, 1) := by decide +kernel
theorem dX0_put_34 : decode cX0_put 34 = .ok (.putfield 42, 3) := by decide +kernel
theorem dX0_put_37 : decode cX0_put 37 = .ok (.return_, 1) := by decide +kernel
theorem dX0_reckon_0 : decode cX0_reckon 0 = .ok (.iload_n 1, 1) := by decide +kernel
theorem dX0_reckon_1 : decode cX0_reckon 1 = .ok (.iconst 5, 1) := by decide +kernel
theorem dX0_reckon_2 : decode cX0_reckon 2 = .ok (.if_icmp .lt 9, 3) := by decide +kernel
theorem dX0_reckon_5 : decode cX0_reckon 5 = .ok (.aload_n 0, 1) := by decide +kernel
theorem dX0_reckon_6 : decode cX0_reckon 6 = .ok (.iload_n 2, 1) := by decide +kernel
theorem dX0_reckon_7 : decode cX0_reckon 7 = .ok (.invokevirtual 67, 3) := by decide +kernel
theorem dX0_reckon_10 : decode cX0_reckon 10 = .ok (.return_, 1) := by decide +kernel
theorem dX0_reckon_11 : decode cX0_reckon 11 = .ok (.iload_n 1, 1) := by decide +kernel
theorem dX0_reckon_12 : decode cX0_reckon 12 = .ok (.iconst 2, 1) := by decide +kernel
theorem dX0_reckon_13 : decode cX0_reckon 13 = .ok (.if_icmp .ne 42, 3) := by decide +kernel
theorem dX0_reckon_16 : decode cX0_reckon 16 = .ok (.aload_n 0, 1) := by decide +kernel
theorem dX0_reckon_17 : decode cX0_reckon 17 = .ok (.getfield 58, 3) := by decide +kernel
theorem dX0_reckon_20 : decode cX0_reckon 20 = .ok (.bipush 105, 2) := by decide +kernel
theorem dX0_reckon_22 : decode cX0_reckon 22 = .ok (.if_icmp .ne 33, 3) := by decide +kernel
theorem dX0_reckon_25 : decode cX0_reckon 25 = .ok (.iload_n 2, 1) := by decide +kernel
theorem dX0_reckon_26 : decode cX0_reckon 26 = .ok (.iconst 5, 1) := by decide +kernel
theorem dX0_reckon_27 : decode cX0_reckon 27 = .ok (.if_icmp .lt 8, 3) := by decide +kernel
theorem dX0_reckon_30 : decode cX0_reckon 30 = .ok (.aload_n 0, 1) := by decide +kernel
theorem dX0_reckon_31 : decode cX0_reckon 31 = .ok (.invokevirtual 61, 3) := by decide +kernel
theorem dX0_reckon_34 : decode cX0_reckon 34 = .ok (.return_, 1) := by decide +kernel
theorem dX0_reckon_35 : decode cX0_reckon 35 = .ok (.aload_n 0, 1) := by decide +kernel
theorem dX0_reckon_36 : decode cX0_reckon 36 = .ok (.invokevirtual 47, 3) := by decide +kernel
theorem dX0_reckon_39 : decode cX0_reckon 39 = .ok (.aload_n 0, 1) := by decide +kernel
theorem dX0_reckon_40 : decode cX0_reckon 40 = .ok (.iconst 2, 1) := by decide +kernel
theorem dX0_reckon_41 : decode cX0_reckon 41 = .ok (.iload_n 2, 1) := by decide +kernel
theorem dX0_reckon_42 : decode cX0_reckon 42 = .ok (.iconst 1, 1) := by decide +kernel
theorem dX0_reckon_43 : decode cX0_reckon 43 = .ok (.iadd, 1) := by decide +kernel
theorem dX0_reckon_44 : decode cX0_reckon 44 = .ok (.invokevirtual 54, 3) := by decide +kernel
theorem dX0_reckon_47 : decode cX0_reckon 47 = .ok (.aload_n 0, 1) := by decide +kernel
theorem dX0_reckon_48 : decode cX0_reckon 48 = .ok (.sipush 20105, 3) := by decide +kernel
theorem dX0_reckon_51 : decode cX0_reckon 51 = .ok (.invokevirtual 70, 3) := by decide +kernel
theorem dX0_reckon_54 : decode cX0_reckon 54 = .ok (.return_, 1) := by decide +kernel
theorem dX0_reckon_55 : decode cX0_reckon 55 = .ok (.aload_n 0, 1) := by decide +kernel
theorem dX0_reckon_56 : decode cX0_reckon 56 = .ok (.iload_n 1, 1) := by decide +kernel
theorem dX0_reckon_57 : decode cX0_reckon 57 = .ok (.iconst 1, 1) := by decide +kernel
theorem dX0_reckon_58 : decode cX0_reckon 58 = .ok (.iadd, 1) := by decide +kernel
theorem dX0_reckon_59 : decode cX0_reckon 59 = .ok (.iload_n 2, 1) := by decide +kernel
theorem dX0_reckon_60 : decode cX0_reckon 60 = .ok (.invokevirtual 54, 3) := by decide +kernel
theorem dX0_reckon_63 : decode cX0_reckon 63 = .ok (.iload_n 1, 1) := by decide +kernel
theorem dX0_reckon_64 : decode cX0_reckon 64 = .ok (.iconst 2, 1) := by decide +kernel
theorem dX0_reckon_65 : decode cX0_reckon 65 = .ok (.if_icmp .ne 7, 3) := by decide +kernel
theorem dX0_reckon_68 : decode cX0_reckon 68 = .ok (.iconst 1, 1) := by decide +kernel
theorem dX0_reckon_69 : decode cX0_reckon 69 = .ok (.goto 6, 3) := by decide +kernel
theorem dX0_reckon_72 : decode cX0_reckon 72 = .ok (.sipush 160, 3) := by decide +kernel
theorem dX0_reckon_75 : decode cX0_reckon 75 = .ok (.istore_n 3, 1) := by decide +kernel
theorem dX0_reckon_76 : decode cX0_reckon 76 = .ok (.iconst 0, 1) := by decide +kernel
theorem dX0_reckon_77 : decode cX0_reckon 77 = .ok (.istore 4, 2) := by decide +kernel
theorem dX0_reckon_79 : decode cX0_reckon 79 = .ok (.iload 4, 2) := by decide +kernel
theorem dX0_reckon_81 : decode cX0_reckon 81 = .ok (.iload_n 3, 1) := by decide +kernel
theorem dX0_reckon_82 : decode cX0_reckon 82 = .ok (.if_icmp .ge 48, 3) := by decide +kernel
theorem dX0_reckon_85 : decode cX0_reckon 85 = .ok (.aload_n 0, 1) := by decide +kernel
theorem dX0_reckon_86 : decode cX0_reckon 86 = .ok (.getfield 58, 3) := by decide +kernel
theorem dX0_reckon_89 : decode cX0_reckon 89 = .ok (.invokestatic 73, 3) := by decide +kernel
theorem dX0_reckon_92 : decode cX0_reckon 92 = .ok (.iload_n 1, 1) := by decide +kernel
theorem dX0_reckon_93 : decode cX0_reckon 93 = .ok (.if_icmp .ne 37, 3) := by decide +kernel
theorem dX0_reckon_96 : decode cX0_reckon 96 = .ok (.aload_n 0, 1) := by decide +kernel
theorem dX0_reckon_97 : decode cX0_reckon 97 = .ok (.getfield 58, 3) := by decide +kernel
theorem dX0_reckon_100 : decode cX0_reckon 100 = .ok (.istore 5, 2) := by decide +kernel
theorem dX0_reckon_102 : decode cX0_reckon 102 = .ok (.aload_n 0, 1) := by decide +kernel
theorem dX0_reckon_103 : decode cX0_reckon 103 = .ok (.invokevirtual 47, 3) := by decide +kernel
theorem dX0_reckon_106 : decode cX0_reckon 106 = .ok (.aload_n 0, 1) := by decide +kernel
theorem dX0_reckon_107 : decode cX0_reckon 107 = .ok (.iload_n 1, 1) := by decide +kernel
theorem dX0_reckon_108 : decode cX0_reckon 108 = .ok (.iconst 1, 1) := by decide +kernel
theorem dX0_reckon_109 : decode cX0_reckon 109 = .ok (.iadd, 1) := by decide +kernel
theorem dX0_reckon_110 : decode cX0_reckon 110 = .ok (.iload_n 2, 1) := by decide +kernel
theorem dX0_reckon_111 : decode cX0_reckon 111 = .ok (.invokevirtual 54, 3) := by decide +kernel
theorem dX0_reckon_114 : decode cX0_reckon 114 = .ok (.aload_n 0, 1) := by decide +kernel
theorem dX0_reckon_115 : decode cX0_reckon 115 = .ok (.sipush 20000, 3) := by decide +kernel
theorem dX0_reckon_118 : decode cX0_reckon 118 = .ok (.iload 5, 2) := by decide +kernel
theorem dX0_reckon_120 : decode cX0_reckon 120 = .ok (.iadd, 1) := by decide +kernel
theorem dX0_reckon_121 : decode cX0_reckon 121 = .ok (.invokevirtual 70, 3) := by decide +kernel
theorem dX0_reckon_124 : decode cX0_reckon 124 = .ok (.iinc 4 1, 3) := by decide +kernel
theorem dX0_reckon_127 : decode cX0_reckon 127 = .ok (.goto (-48), 3) := by decide +kernel
theorem dX0_reckon_130 : decode cX0_reckon 130 = .ok (.return_, 1) := by decide +kernel
theorem dX0_one_0 : decode cX0_one 0 = .ok (.aload_n 0, 1) := by decide +kernel
theorem dX0_one_1 : decode cX0_one 1 = .ok (.getfield 58, 3) := by decide +kernel
theorem dX0_one_4 : decode cX0_one 4 = .ok (.istore_n 2, 1) := by decide +kernel
theorem dX0_one_5 : decode cX0_one 5 = .ok (.iload_n 2, 1) := by decide +kernel
theorem dX0_one_6 : decode cX0_one 6 = .ok (.iconst 2, 1) := by decide +kernel
theorem dX0_one_7 : decode cX0_one 7 = .ok (.if_icmp .eq 8, 3) := by decide +kernel
theorem dX0_one_10 : decode cX0_one 10 = .ok (.iload_n 2, 1) := by decide +kernel
theorem dX0_one_11 : decode cX0_one 11 = .ok (.iconst 3, 1) := by decide +kernel
theorem dX0_one_12 : decode cX0_one 12 = .ok (.if_icmp .ne 16, 3) := by decide +kernel
theorem dX0_one_15 : decode cX0_one 15 = .ok (.aload_n 0, 1) := by decide +kernel
theorem dX0_one_16 : decode cX0_one 16 = .ok (.aload_n 0, 1) := by decide +kernel
theorem dX0_one_17 : decode cX0_one 17 = .ok (.getfield 77, 3) := by decide +kernel
theorem dX0_one_20 : decode cX0_one 20 = .ok (.invokevirtual 70, 3) := by decide +kernel
theorem dX0_one_23 : decode cX0_one 23 = .ok (.aload_n 0, 1) := by decide +kernel
theorem dX0_one_24 : decode cX0_one 24 = .ok (.invokevirtual 47, 3) := by decide +kernel
theorem dX0_one_27 : decode cX0_one 27 = .ok (.return_, 1) := by decide +kernel
theorem dX0_one_28 : decode cX0_one 28 = .ok (.iload_n 2, 1) := by decide +kernel
theorem dX0_one_29 : decode cX0_one 29 = .ok (.bipush 45, 2) := by decide +kernel
theorem dX0_one_31 : decode cX0_one 31 = .ok (.if_icmp .eq 9, 3) := by decide +kernel
theorem dX0_one_34 : decode cX0_one 34 = .ok (.iload_n 2, 1) := by decide +kernel
theorem dX0_one_35 : decode cX0_one 35 = .ok (.bipush 40, 2) := by decide +kernel
theorem dX0_one_37 : decode cX0_one 37 = .ok (.if_icmp .ne 8, 3) := by decide +kernel
theorem dX0_one_40 : decode cX0_one 40 = .ok (.iload_n 1, 1) := by decide +kernel
theorem dX0_one_41 : decode cX0_one 41 = .ok (.iconst 5, 1) := by decide +kernel
theorem dX0_one_42 : decode cX0_one 42 = .ok (.if_icmp .lt 8, 3) := by decide +kernel
theorem dX0_one_45 : decode cX0_one 45 = .ok (.aload_n 0, 1) := by decide +kernel
theorem dX0_one_46 : decode cX0_one 46 = .ok (.invokevirtual 61, 3) := by decide +kernel
theorem dX0_one_49 : decode cX0_one 49 = .ok (.return_, 1) := by decide +kernel
theorem dX0_one_50 : decode cX0_one 50 = .ok (.aload_n 0, 1) := by decide +kernel
theorem dX0_one_51 : decode cX0_one 51 = .ok (.invokevirtual 47, 3) := by decide +kernel
theorem dX0_one_54 : decode cX0_one 54 = .ok (.iload_n 2, 1) := by decide +kernel
theorem dX0_one_55 : decode cX0_one 55 = .ok (.bipush 45, 2) := by decide +kernel
theorem dX0_one_57 : decode cX0_one 57 = .ok (.if_icmp .ne 18, 3) := by decide +kernel
theorem dX0_one_60 : decode cX0_one 60 = .ok (.aload_n 0, 1) := by decide +kernel
theorem dX0_one_61 : decode cX0_one 61 = .ok (.iload_n 1, 1) := by decide +kernel
theorem dX0_one_62 : decode cX0_one 62 = .ok (.iconst 1, 1) := by decide +kernel
theorem dX0_one_63 : decode cX0_one 63 = .ok (.iadd, 1) := by decide +kernel
theorem dX0_one_64 : decode cX0_one 64 = .ok (.invokevirtual 67, 3) := by decide +kernel
theorem dX0_one_67 : decode cX0_one 67 = .ok (.aload_n 0, 1) := by decide +kernel
theorem dX0_one_68 : decode cX0_one 68 = .ok (.sipush 20000, 3) := by decide +kernel
theorem dX0_one_71 : decode cX0_one 71 = .ok (.invokevirtual 70, 3) := by decide +kernel
theorem dX0_one_74 : decode cX0_one 74 = .ok (.return_, 1) := by decide +kernel
theorem dX0_one_75 : decode cX0_one 75 = .ok (.aload_n 0, 1) := by decide +kernel
theorem dX0_one_76 : decode cX0_one 76 = .ok (.iconst 0, 1) := by decide +kernel
theorem dX0_one_77 : decode cX0_one 77 = .ok (.iload_n 1, 1) := by decide +kernel
theorem dX0_one_78 : decode cX0_one 78 = .ok (.iconst 1, 1) := by decide +kernel
theorem dX0_one_79 : decode cX0_one 79 = .ok (.iadd, 1) := by decide +kernel
theorem dX0_one_80 : decode cX0_one 80 = .ok (.invokevirtual 54, 3) := by decide +kernel
theorem dX0_one_83 : decode cX0_one 83 = .ok (.aload_n 0, 1) := by decide +kernel
theorem dX0_one_84 : decode cX0_one 84 = .ok (.getfield 58, 3) := by decide +kernel
theorem dX0_one_87 : decode cX0_one 87 = .ok (.bipush 41, 2) := by decide +kernel
theorem dX0_one_89 : decode cX0_one 89 = .ok (.if_icmp .ne 10, 3) := by decide +kernel
theorem dX0_one_92 : decode cX0_one 92 = .ok (.aload_n 0, 1) := by decide +kernel
theorem dX0_one_93 : decode cX0_one 93 = .ok (.invokevirtual 47, 3) := by decide +kernel
theorem dX0_one_96 : decode cX0_one 96 = .ok (.goto 7, 3) := by decide +kernel
theorem dX0_one_99 : decode cX0_one 99 = .ok (.aload_n 0, 1) := by decide +kernel
theorem dX0_one_100 : decode cX0_one 100 = .ok (.invokevirtual 61, 3) := by decide +kernel
theorem dX0_one_103 : decode cX0_one 103 = .ok (.return_, 1) := by decide +kernel
theorem dX0_levelOf_0 : decode cX0_levelOf 0 = .ok (.iload_n 0, 1) := by decide +kernel
theorem dX0_levelOf_1 : decode cX0_levelOf 1 = .ok (.lookupswitch 77 #[(42, 75), (43, 73), (45, 73), (60, 71), (61, 71), (103, 67), (104, 69)], 67) := by decide +kernel
theorem dX0_levelOf_68 : decode cX0_levelOf 68 = .ok (.iconst 0, 1) := by decide +kernel
theorem dX0_levelOf_69 : decode cX0_levelOf 69 = .ok (.ireturn, 1) := by decide +kernel
theorem dX0_levelOf_70 : decode cX0_levelOf 70 = .ok (.iconst 1, 1) := by decide +kernel
theorem dX0_levelOf_71 : decode cX0_levelOf 71 = .ok (.ireturn, 1) := by decide +kernel
theorem dX0_levelOf_72 : decode cX0_levelOf 72 = .ok (.iconst 2, 1) := by decide +kernel
theorem dX0_levelOf_73 : decode cX0_levelOf 73 = .ok (.ireturn, 1) := by decide +kernel
theorem dX0_levelOf_74 : decode cX0_levelOf 74 = .ok (.iconst 3, 1) := by decide +kernel
theorem dX0_levelOf_75 : decode cX0_levelOf 75 = .ok (.ireturn, 1) := by decide +kernel
theorem dX0_levelOf_76 : decode cX0_levelOf 76 = .ok (.iconst 4, 1) := by decide +kernel
theorem dX0_levelOf_77 : decode cX0_levelOf 77 = .ok (.ireturn, 1) := by decide +kernel
theorem dX0_levelOf_78 : decode cX0_levelOf 78 = .ok (.iconst (-1), 1) := by decide +kernel
theorem dX0_levelOf_79 : decode cX0_levelOf 79 = .ok (.ireturn, 1) := by decide +kernel
theorem dX0_byteAt_0 : decode cX0_byteAt 0 = .ok (.iload_n 1, 1) := by decide +kernel
theorem dX0_byteAt_1 : decode cX0_byteAt 1 = .ok (.ifCond .lt 27, 3) := by decide +kernel
theorem dX0_byteAt_4 : decode cX0_byteAt 4 = .ok (.iload_n 1, 1) := by decide +kernel
theorem dX0_byteAt_5 : decode cX0_byteAt 5 = .ok (.aload_n 0, 1) := by decide +kernel
theorem dX0_byteAt_6 : decode cX0_byteAt 6 = .ok (.getfield 21, 3) := by decide +kernel
theorem dX0_byteAt_9 : decode cX0_byteAt 9 = .ok (.if_icmp .ge 19, 3) := by decide +kernel
theorem dX0_byteAt_12 : decode cX0_byteAt 12 = .ok (.iload_n 1, 1) := by decide +kernel
theorem dX0_byteAt_13 : decode cX0_byteAt 13 = .ok (.sipush 160, 3) := by decide +kernel
theorem dX0_byteAt_16 : decode cX0_byteAt 16 = .ok (.if_icmp .ge 12, 3) := by decide +kernel
theorem dX0_byteAt_19 : decode cX0_byteAt 19 = .ok (.aload_n 0, 1) := by decide +kernel
theorem dX0_byteAt_20 : decode cX0_byteAt 20 = .ok (.getfield 11, 3) := by decide +kernel
theorem dX0_byteAt_23 : decode cX0_byteAt 23 = .ok (.iload_n 1, 1) := by decide +kernel
theorem dX0_byteAt_24 : decode cX0_byteAt 24 = .ok (.iaload, 1) := by decide +kernel
theorem dX0_byteAt_25 : decode cX0_byteAt 25 = .ok (.goto 4, 3) := by decide +kernel
theorem dX0_byteAt_28 : decode cX0_byteAt 28 = .ok (.iconst (-1), 1) := by decide +kernel
theorem dX0_byteAt_29 : decode cX0_byteAt 29 = .ok (.ireturn, 1) := by decide +kernel
theorem dX0_step_0 : decode cX0_step 0 = .ok (.iconst 0, 1) := by decide +kernel
theorem dX0_step_1 : decode cX0_step 1 = .ok (.istore_n 1, 1) := by decide +kernel
theorem dX0_step_2 : decode cX0_step 2 = .ok (.iload_n 1, 1) := by decide +kernel
theorem dX0_step_3 : decode cX0_step 3 = .ok (.sipush 160, 3) := by decide +kernel
theorem dX0_step_6 : decode cX0_step 6 = .ok (.if_icmp .ge 45, 3) := by decide +kernel
theorem dX0_step_9 : decode cX0_step 9 = .ok (.aload_n 0, 1) := by decide +kernel
theorem dX0_step_10 : decode cX0_step 10 = .ok (.aload_n 0, 1) := by decide +kernel
theorem dX0_step_11 : decode cX0_step 11 = .ok (.getfield 39, 3) := by decide +kernel
theorem dX0_step_14 : decode cX0_step 14 = .ok (.invokevirtual 80, 3) := by decide +kernel
theorem dX0_step_17 : decode cX0_step 17 = .ok (.bipush 32, 2) := by decide +kernel
theorem dX0_step_19 : decode cX0_step 19 = .ok (.if_icmp .eq 16, 3) := by decide +kernel
theorem dX0_step_22 : decode cX0_step 22 = .ok (.aload_n 0, 1) := by decide +kernel
theorem dX0_step_23 : decode cX0_step 23 = .ok (.aload_n 0, 1) := by decide +kernel
theorem dX0_step_24 : decode cX0_step 24 = .ok (.getfield 39, 3) := by decide +kernel
theorem dX0_step_27 : decode cX0_step 27 = .ok (.invokevirtual 80, 3) := by decide +kernel
theorem dX0_step_30 : decode cX0_step 30 = .ok (.bipush 10, 2) := by decide +kernel
theorem dX0_step_32 : decode cX0_step 32 = .ok (.if_icmp .ne 19, 3) := by decide +kernel
theorem dX0_step_35 : decode cX0_step 35 = .ok (.aload_n 0, 1) := by decide +kernel
theorem dX0_step_36 : decode cX0_step 36 = .ok (.dup, 1) := by decide +kernel
theorem dX0_step_37 : decode cX0_step 37 = .ok (.getfield 39, 3) := by decide +kernel
theorem dX0_step_40 : decode cX0_step 40 = .ok (.iconst 1, 1) := by decide +kernel
theorem dX0_step_41 : decode cX0_step 41 = .ok (.iadd, 1) := by decide +kernel
theorem dX0_step_42 : decode cX0_step 42 = .ok (.putfield 39, 3) := by decide +kernel
theorem dX0_step_45 : decode cX0_step 45 = .ok (.iinc 1 1, 3) := by decide +kernel
theorem dX0_step_48 : decode cX0_step 48 = .ok (.goto (-46), 3) := by decide +kernel
theorem dX0_step_51 : decode cX0_step 51 = .ok (.aload_n 0, 1) := by decide +kernel
theorem dX0_step_52 : decode cX0_step 52 = .ok (.aload_n 0, 1) := by decide +kernel
theorem dX0_step_53 : decode cX0_step 53 = .ok (.getfield 39, 3) := by decide +kernel
theorem dX0_step_56 : decode cX0_step 56 = .ok (.putfield 64, 3) := by decide +kernel
theorem dX0_step_59 : decode cX0_step 59 = .ok (.aload_n 0, 1) := by decide +kernel
theorem dX0_step_60 : decode cX0_step 60 = .ok (.aload_n 0, 1) := by decide +kernel
theorem dX0_step_61 : decode cX0_step 61 = .ok (.getfield 39, 3) := by decide +kernel
theorem dX0_step_64 : decode cX0_step 64 = .ok (.invokevirtual 80, 3) := by decide +kernel
theorem dX0_step_67 : decode cX0_step 67 = .ok (.istore_n 1, 1) := by decide +kernel
theorem dX0_step_68 : decode cX0_step 68 = .ok (.iload_n 1, 1) := by decide +kernel
theorem dX0_step_69 : decode cX0_step 69 = .ok (.iconst (-1), 1) := by decide +kernel
theorem dX0_step_70 : decode cX0_step 70 = .ok (.if_icmp .ne 11, 3) := by decide +kernel
theorem dX0_step_73 : decode cX0_step 73 = .ok (.aload_n 0, 1) := by decide +kernel
theorem dX0_step_74 : decode cX0_step 74 = .ok (.iconst 0, 1) := by decide +kernel
theorem dX0_step_75 : decode cX0_step 75 = .ok (.putfield 58, 3) := by decide +kernel
theorem dX0_step_78 : decode cX0_step 78 = .ok (.goto 57, 3) := by decide +kernel
theorem dX0_step_81 : decode cX0_step 81 = .ok (.iload_n 1, 1) := by decide +kernel
theorem dX0_step_82 : decode cX0_step 82 = .ok (.invokestatic 83, 3) := by decide +kernel
theorem dX0_step_85 : decode cX0_step 85 = .ok (.ifCond .eq 10, 3) := by decide +kernel
theorem dX0_step_88 : decode cX0_step 88 = .ok (.aload_n 0, 1) := by decide +kernel
theorem dX0_step_89 : decode cX0_step 89 = .ok (.invokevirtual 86, 3) := by decide +kernel
theorem dX0_step_92 : decode cX0_step 92 = .ok (.goto 43, 3) := by decide +kernel
theorem dX0_step_95 : decode cX0_step 95 = .ok (.iload_n 1, 1) := by decide +kernel
theorem dX0_step_96 : decode cX0_step 96 = .ok (.invokestatic 89, 3) := by decide +kernel
theorem dX0_step_99 : decode cX0_step 99 = .ok (.ifCond .eq 10, 3) := by decide +kernel
theorem dX0_step_102 : decode cX0_step 102 = .ok (.aload_n 0, 1) := by decide +kernel
theorem dX0_step_103 : decode cX0_step 103 = .ok (.invokevirtual 92, 3) := by decide +kernel
theorem dX0_step_106 : decode cX0_step 106 = .ok (.goto 29, 3) := by decide +kernel
theorem dX0_step_109 : decode cX0_step 109 = .ok (.aload_n 0, 1) := by decide +kernel
theorem dX0_step_110 : decode cX0_step 110 = .ok (.iload_n 1, 1) := by decide +kernel
theorem dX0_step_111 : decode cX0_step 111 = .ok (.invokestatic 95, 3) := by decide +kernel
theorem dX0_step_114 : decode cX0_step 114 = .ok (.ifCond .eq 7, 3) := by decide +kernel
theorem dX0_step_117 : decode cX0_step 117 = .ok (.iload_n 1, 1) := by decide +kernel
theorem dX0_step_118 : decode cX0_step 118 = .ok (.goto 4, 3) := by decide +kernel
theorem dX0_step_121 : decode cX0_step 121 = .ok (.iconst 1, 1) := by decide +kernel
theorem dX0_step_122 : decode cX0_step 122 = .ok (.putfield 58, 3) := by decide +kernel
theorem dX0_step_125 : decode cX0_step 125 = .ok (.aload_n 0, 1) := by decide +kernel
theorem dX0_step_126 : decode cX0_step 126 = .ok (.dup, 1) := by decide +kernel
theorem dX0_step_127 : decode cX0_step 127 = .ok (.getfield 39, 3) := by decide +kernel
theorem dX0_step_130 : decode cX0_step 130 = .ok (.iconst 1, 1) := by decide +kernel
theorem dX0_step_131 : decode cX0_step 131 = .ok (.iadd, 1) := by decide +kernel
theorem dX0_step_132 : decode cX0_step 132 = .ok (.putfield 39, 3) := by decide +kernel
theorem dX0_step_135 : decode cX0_step 135 = .ok (.return_, 1) := by decide +kernel
theorem dX0_readWord_0 : decode cX0_readWord 0 = .ok (.iconst 0, 1) := by decide +kernel
theorem dX0_readWord_1 : decode cX0_readWord 1 = .ok (.istore_n 1, 1) := by decide +kernel
theorem dX0_readWord_2 : decode cX0_readWord 2 = .ok (.iload_n 1, 1) := by decide +kernel
theorem dX0_readWord_3 : decode cX0_readWord 3 = .ok (.sipush 160, 3) := by decide +kernel
theorem dX0_readWord_6 : decode cX0_readWord 6 = .ok (.if_icmp .ge 33, 3) := by decide +kernel
theorem dX0_readWord_9 : decode cX0_readWord 9 = .ok (.aload_n 0, 1) := by decide +kernel
theorem dX0_readWord_10 : decode cX0_readWord 10 = .ok (.aload_n 0, 1) := by decide +kernel
theorem dX0_readWord_11 : decode cX0_readWord 11 = .ok (.getfield 39, 3) := by decide +kernel
theorem dX0_readWord_14 : decode cX0_readWord 14 = .ok (.invokevirtual 80, 3) := by decide +kernel
theorem dX0_readWord_17 : decode cX0_readWord 17 = .ok (.invokestatic 83, 3) := by decide +kernel
theorem dX0_readWord_20 : decode cX0_readWord 20 = .ok (.ifCond .eq 19, 3) := by decide +kernel
theorem dX0_readWord_23 : decode cX0_readWord 23 = .ok (.aload_n 0, 1) := by decide +kernel
theorem dX0_readWord_24 : decode cX0_readWord 24 = .ok (.dup, 1) := by decide +kernel
theorem dX0_readWord_25 : decode cX0_readWord 25 = .ok (.getfield 39, 3) := by decide +kernel
theorem dX0_readWord_28 : decode cX0_readWord 28 = .ok (.iconst 1, 1) := by decide +kernel
theorem dX0_readWord_29 : decode cX0_readWord 29 = .ok (.iadd, 1) := by decide +kernel
theorem dX0_readWord_30 : decode cX0_readWord 30 = .ok (.putfield 39, 3) := by decide +kernel
theorem dX0_readWord_33 : decode cX0_readWord 33 = .ok (.iinc 1 1, 3) := by decide +kernel
theorem dX0_readWord_36 : decode cX0_readWord 36 = .ok (.goto (-34), 3) := by decide +kernel
theorem dX0_readWord_39 : decode cX0_readWord 39 = .ok (.aload_n 0, 1) := by decide +kernel
theorem dX0_readWord_40 : decode cX0_readWord 40 = .ok (.iconst 1, 1) := by decide +kernel
theorem dX0_readWord_41 : decode cX0_readWord 41 = .ok (.putfield 58, 3) := by decide +kernel
theorem dX0_readWord_44 : decode cX0_readWord 44 = .ok (.iconst 0, 1) := by decide +kernel
theorem dX0_readWord_45 : decode cX0_readWord 45 = .ok (.istore_n 1, 1) := by decide +kernel
theorem dX0_readWord_46 : decode cX0_readWord 46 = .ok (.iload_n 1, 1) := by decide +kernel
theorem dX0_readWord_47 : decode cX0_readWord 47 = .ok (.bipush 12, 2) := by decide +kernel
theorem dX0_readWord_49 : decode cX0_readWord 49 = .ok (.if_icmp .ge 50, 3) := by decide +kernel
theorem dX0_readWord_52 : decode cX0_readWord 52 = .ok (.aload_n 0, 1) := by decide +kernel
theorem dX0_readWord_53 : decode cX0_readWord 53 = .ok (.iload_n 1, 1) := by decide +kernel
theorem dX0_readWord_54 : decode cX0_readWord 54 = .ok (.invokestatic 98, 3) := by decide +kernel
theorem dX0_readWord_57 : decode cX0_readWord 57 = .ok (.invokevirtual 102, 3) := by decide +kernel
theorem dX0_readWord_60 : decode cX0_readWord 60 = .ok (.ifCond .eq 33, 3) := by decide +kernel
theorem dX0_readWord_63 : decode cX0_readWord 63 = .ok (.aload_n 0, 1) := by decide +kernel
theorem dX0_readWord_64 : decode cX0_readWord 64 = .ok (.iload_n 1, 1) := by decide +kernel
theorem dX0_readWord_65 : decode cX0_readWord 65 = .ok (.bipush 6, 2) := by decide +kernel
theorem dX0_readWord_67 : decode cX0_readWord 67 = .ok (.if_icmp .ge 7, 3) := by decide +kernel
theorem dX0_readWord_70 : decode cX0_readWord 70 = .ok (.iconst 3, 1) := by decide +kernel
theorem dX0_readWord_71 : decode cX0_readWord 71 = .ok (.goto 10, 3) := by decide +kernel
theorem dX0_readWord_74 : decode cX0_readWord 74 = .ok (.bipush 100, 2) := by decide +kernel
theorem dX0_readWord_76 : decode cX0_readWord 76 = .ok (.iload_n 1, 1) := by decide +kernel
theorem dX0_readWord_77 : decode cX0_readWord 77 = .ok (.iadd, 1) := by decide +kernel
theorem dX0_readWord_78 : decode cX0_readWord 78 = .ok (.bipush 6, 2) := by decide +kernel
theorem dX0_readWord_80 : decode cX0_readWord 80 = .ok (.isub, 1) := by decide +kernel
theorem dX0_readWord_81 : decode cX0_readWord 81 = .ok (.putfield 58, 3) := by decide +kernel
theorem dX0_readWord_84 : decode cX0_readWord 84 = .ok (.aload_n 0, 1) := by decide +kernel
theorem dX0_readWord_85 : decode cX0_readWord 85 = .ok (.sipush 10000, 3) := by decide +kernel
theorem dX0_readWord_88 : decode cX0_readWord 88 = .ok (.iload_n 1, 1) := by decide +kernel
theorem dX0_readWord_89 : decode cX0_readWord 89 = .ok (.iadd, 1) := by decide +kernel
theorem dX0_readWord_90 : decode cX0_readWord 90 = .ok (.putfield 77, 3) := by decide +kernel
theorem dX0_readWord_93 : decode cX0_readWord 93 = .ok (.iinc 1 1, 3) := by decide +kernel
theorem dX0_readWord_96 : decode cX0_readWord 96 = .ok (.goto (-50), 3) := by decide +kernel
theorem dX0_readWord_99 : decode cX0_readWord 99 = .ok (.return_, 1) := by decide +kernel
theorem dX0_isWord_0 : decode cX0_isWord 0 = .ok (.aload_n 1, 1) := by decide +kernel
theorem dX0_isWord_1 : decode cX0_isWord 1 = .ok (.ifnull 19, 3) := by decide +kernel
theorem dX0_isWord_4 : decode cX0_isWord 4 = .ok (.aload_n 1, 1) := by decide +kernel
theorem dX0_isWord_5 : decode cX0_isWord 5 = .ok (.invokevirtual 25, 3) := by decide +kernel
theorem dX0_isWord_8 : decode cX0_isWord 8 = .ok (.aload_n 0, 1) := by decide +kernel
theorem dX0_isWord_9 : decode cX0_isWord 9 = .ok (.getfield 39, 3) := by decide +kernel
theorem dX0_isWord_12 : decode cX0_isWord 12 = .ok (.aload_n 0, 1) := by decide +kernel
theorem dX0_isWord_13 : decode cX0_isWord 13 = .ok (.getfield 64, 3) := by decide +kernel
theorem dX0_isWord_16 : decode cX0_isWord 16 = .ok (.isub, 1) := by decide +kernel
theorem dX0_isWord_17 : decode cX0_isWord 17 = .ok (.if_icmp .eq 5, 3) := by decide +kernel
theorem dX0_isWord_20 : decode cX0_isWord 20 = .ok (.iconst 0, 1) := by decide +kernel
theorem dX0_isWord_21 : decode cX0_isWord 21 = .ok (.ireturn, 1) := by decide +kernel
theorem dX0_isWord_22 : decode cX0_isWord 22 = .ok (.iconst 0, 1) := by decide +kernel
theorem dX0_isWord_23 : decode cX0_isWord 23 = .ok (.istore_n 2, 1) := by decide +kernel
theorem dX0_isWord_24 : decode cX0_isWord 24 = .ok (.iload_n 2, 1) := by decide +kernel
theorem dX0_isWord_25 : decode cX0_isWord 25 = .ok (.aload_n 1, 1) := by decide +kernel
theorem dX0_isWord_26 : decode cX0_isWord 26 = .ok (.invokevirtual 25, 3) := by decide +kernel
theorem dX0_isWord_29 : decode cX0_isWord 29 = .ok (.if_icmp .ge 29, 3) := by decide +kernel
theorem dX0_isWord_32 : decode cX0_isWord 32 = .ok (.aload_n 1, 1) := by decide +kernel
theorem dX0_isWord_33 : decode cX0_isWord 33 = .ok (.iload_n 2, 1) := by decide +kernel
theorem dX0_isWord_34 : decode cX0_isWord 34 = .ok (.invokevirtual 31, 3) := by decide +kernel
theorem dX0_isWord_37 : decode cX0_isWord 37 = .ok (.aload_n 0, 1) := by decide +kernel
theorem dX0_isWord_38 : decode cX0_isWord 38 = .ok (.aload_n 0, 1) := by decide +kernel
theorem dX0_isWord_39 : decode cX0_isWord 39 = .ok (.getfield 64, 3) := by decide +kernel
theorem dX0_isWord_42 : decode cX0_isWord 42 = .ok (.iload_n 2, 1) := by decide +kernel
theorem dX0_isWord_43 : decode cX0_isWord 43 = .ok (.iadd, 1) := by decide +kernel
theorem dX0_isWord_44 : decode cX0_isWord 44 = .ok (.invokevirtual 80, 3) := by decide +kernel
theorem dX0_isWord_47 : decode cX0_isWord 47 = .ok (.if_icmp .eq 5, 3) := by decide +kernel
theorem dX0_isWord_50 : decode cX0_isWord 50 = .ok (.iconst 0, 1) := by decide +kernel
theorem dX0_isWord_51 : decode cX0_isWord 51 = .ok (.ireturn, 1) := by decide +kernel
theorem dX0_isWord_52 : decode cX0_isWord 52 = .ok (.iinc 2 1, 3) := by decide +kernel
theorem dX0_isWord_55 : decode cX0_isWord 55 = .ok (.goto (-31), 3) := by decide +kernel
theorem dX0_isWord_58 : decode cX0_isWord 58 = .ok (.iconst 1, 1) := by decide +kernel
theorem dX0_isWord_59 : decode cX0_isWord 59 = .ok (.ireturn, 1) := by decide +kernel
theorem dX0_readNumber_0 : decode cX0_readNumber 0 = .ok (.iconst 0, 1) := by decide +kernel
theorem dX0_readNumber_1 : decode cX0_readNumber 1 = .ok (.istore_n 1, 1) := by decide +kernel
theorem dX0_readNumber_2 : decode cX0_readNumber 2 = .ok (.iconst 0, 1) := by decide +kernel
theorem dX0_readNumber_3 : decode cX0_readNumber 3 = .ok (.istore_n 2, 1) := by decide +kernel
theorem dX0_readNumber_4 : decode cX0_readNumber 4 = .ok (.iconst 0, 1) := by decide +kernel
theorem dX0_readNumber_5 : decode cX0_readNumber 5 = .ok (.istore_n 3, 1) := by decide +kernel
theorem dX0_readNumber_6 : decode cX0_readNumber 6 = .ok (.iload_n 3, 1) := by decide +kernel
theorem dX0_readNumber_7 : decode cX0_readNumber 7 = .ok (.sipush 160, 3) := by decide +kernel
theorem dX0_readNumber_10 : decode cX0_readNumber 10 = .ok (.if_icmp .ge 58, 3) := by decide +kernel
theorem dX0_readNumber_13 : decode cX0_readNumber 13 = .ok (.aload_n 0, 1) := by decide +kernel
theorem dX0_readNumber_14 : decode cX0_readNumber 14 = .ok (.aload_n 0, 1) := by decide +kernel
theorem dX0_readNumber_15 : decode cX0_readNumber 15 = .ok (.getfield 39, 3) := by decide +kernel
theorem dX0_readNumber_18 : decode cX0_readNumber 18 = .ok (.invokevirtual 80, 3) := by decide +kernel
theorem dX0_readNumber_21 : decode cX0_readNumber 21 = .ok (.invokestatic 89, 3) := by decide +kernel
theorem dX0_readNumber_24 : decode cX0_readNumber 24 = .ok (.ifCond .eq 44, 3) := by decide +kernel
theorem dX0_readNumber_27 : decode cX0_readNumber 27 = .ok (.iload_n 2, 1) := by decide +kernel
theorem dX0_readNumber_28 : decode cX0_readNumber 28 = .ok (.iconst 4, 1) := by decide +kernel
theorem dX0_readNumber_29 : decode cX0_readNumber 29 = .ok (.if_icmp .ge 20, 3) := by decide +kernel
theorem dX0_readNumber_32 : decode cX0_readNumber 32 = .ok (.iload_n 1, 1) := by decide +kernel
theorem dX0_readNumber_33 : decode cX0_readNumber 33 = .ok (.bipush 10, 2) := by decide +kernel
theorem dX0_readNumber_35 : decode cX0_readNumber 35 = .ok (.imul, 1) := by decide +kernel
theorem dX0_readNumber_36 : decode cX0_readNumber 36 = .ok (.aload_n 0, 1) := by decide +kernel
theorem dX0_readNumber_37 : decode cX0_readNumber 37 = .ok (.aload_n 0, 1) := by decide +kernel
theorem dX0_readNumber_38 : decode cX0_readNumber 38 = .ok (.getfield 39, 3) := by decide +kernel
theorem dX0_readNumber_41 : decode cX0_readNumber 41 = .ok (.invokevirtual 80, 3) := by decide +kernel
theorem dX0_readNumber_44 : decode cX0_readNumber 44 = .ok (.iadd, 1) := by decide +kernel
theorem dX0_readNumber_45 : decode cX0_readNumber 45 = .ok (.bipush 48, 2) := by decide +kernel
theorem dX0_readNumber_47 : decode cX0_readNumber 47 = .ok (.isub, 1) := by decide +kernel
theorem dX0_readNumber_48 : decode cX0_readNumber 48 = .ok (.istore_n 1, 1) := by decide +kernel
theorem dX0_readNumber_49 : decode cX0_readNumber 49 = .ok (.iinc 2 1, 3) := by decide +kernel
theorem dX0_readNumber_52 : decode cX0_readNumber 52 = .ok (.aload_n 0, 1) := by decide +kernel
theorem dX0_readNumber_53 : decode cX0_readNumber 53 = .ok (.dup, 1) := by decide +kernel
theorem dX0_readNumber_54 : decode cX0_readNumber 54 = .ok (.getfield 39, 3) := by decide +kernel
theorem dX0_readNumber_57 : decode cX0_readNumber 57 = .ok (.iconst 1, 1) := by decide +kernel
theorem dX0_readNumber_58 : decode cX0_readNumber 58 = .ok (.iadd, 1) := by decide +kernel
theorem dX0_readNumber_59 : decode cX0_readNumber 59 = .ok (.putfield 39, 3) := by decide +kernel
theorem dX0_readNumber_62 : decode cX0_readNumber 62 = .ok (.iinc 3 1, 3) := by decide +kernel
theorem dX0_readNumber_65 : decode cX0_readNumber 65 = .ok (.goto (-59), 3) := by decide +kernel
theorem dX0_readNumber_68 : decode cX0_readNumber 68 = .ok (.aload_n 0, 1) := by decide +kernel
theorem dX0_readNumber_69 : decode cX0_readNumber 69 = .ok (.iload_n 2, 1) := by decide +kernel
theorem dX0_readNumber_70 : decode cX0_readNumber 70 = .ok (.iconst 4, 1) := by decide +kernel
theorem dX0_readNumber_71 : decode cX0_readNumber 71 = .ok (.if_icmp .le 7, 3) := by decide +kernel
theorem dX0_readNumber_74 : decode cX0_readNumber 74 = .ok (.iconst 1, 1) := by decide +kernel
theorem dX0_readNumber_75 : decode cX0_readNumber 75 = .ok (.goto 4, 3) := by decide +kernel
theorem dX0_readNumber_78 : decode cX0_readNumber 78 = .ok (.iconst 2, 1) := by decide +kernel
theorem dX0_readNumber_79 : decode cX0_readNumber 79 = .ok (.putfield 58, 3) := by decide +kernel
theorem dX0_readNumber_82 : decode cX0_readNumber 82 = .ok (.aload_n 0, 1) := by decide +kernel
theorem dX0_readNumber_83 : decode cX0_readNumber 83 = .ok (.iload_n 1, 1) := by decide +kernel
theorem dX0_readNumber_84 : decode cX0_readNumber 84 = .ok (.putfield 77, 3) := by decide +kernel
theorem dX0_readNumber_87 : decode cX0_readNumber 87 = .ok (.return_, 1) := by decide +kernel
theorem dX0_isLetter_0 : decode cX0_isLetter 0 = .ok (.iload_n 0, 1) := by decide +kernel
theorem dX0_isLetter_1 : decode cX0_isLetter 1 = .ok (.bipush 97, 2) := by decide +kernel
theorem dX0_isLetter_3 : decode cX0_isLetter 3 = .ok (.if_icmp .lt 13, 3) := by decide +kernel
theorem dX0_isLetter_6 : decode cX0_isLetter 6 = .ok (.iload_n 0, 1) := by decide +kernel
theorem dX0_isLetter_7 : decode cX0_isLetter 7 = .ok (.bipush 122, 2) := by decide +kernel
theorem dX0_isLetter_9 : decode cX0_isLetter 9 = .ok (.if_icmp .gt 7, 3) := by decide +kernel
theorem dX0_isLetter_12 : decode cX0_isLetter 12 = .ok (.iconst 1, 1) := by decide +kernel
theorem dX0_isLetter_13 : decode cX0_isLetter 13 = .ok (.goto 4, 3) := by decide +kernel
theorem dX0_isLetter_16 : decode cX0_isLetter 16 = .ok (.iconst 0, 1) := by decide +kernel
theorem dX0_isLetter_17 : decode cX0_isLetter 17 = .ok (.ireturn, 1) := by decide +kernel
theorem dX0_isDigit_0 : decode cX0_isDigit 0 = .ok (.iload_n 0, 1) := by decide +kernel
theorem dX0_isDigit_1 : decode cX0_isDigit 1 = .ok (.bipush 48, 2) := by decide +kernel
theorem dX0_isDigit_3 : decode cX0_isDigit 3 = .ok (.if_icmp .lt 13, 3) := by decide +kernel
theorem dX0_isDigit_6 : decode cX0_isDigit 6 = .ok (.iload_n 0, 1) := by decide +kernel
theorem dX0_isDigit_7 : decode cX0_isDigit 7 = .ok (.bipush 57, 2) := by decide +kernel
theorem dX0_isDigit_9 : decode cX0_isDigit 9 = .ok (.if_icmp .gt 7, 3) := by decide +kernel
theorem dX0_isDigit_12 : decode cX0_isDigit 12 = .ok (.iconst 1, 1) := by decide +kernel
theorem dX0_isDigit_13 : decode cX0_isDigit 13 = .ok (.goto 4, 3) := by decide +kernel
theorem dX0_isDigit_16 : decode cX0_isDigit 16 = .ok (.iconst 0, 1) := by decide +kernel
theorem dX0_isDigit_17 : decode cX0_isDigit 17 = .ok (.ireturn, 1) := by decide +kernel
theorem dX0_isSign_0 : decode cX0_isSign 0 = .ok (.iload_n 0, 1) := by decide +kernel
theorem dX0_isSign_1 : decode cX0_isSign 1 = .ok (.bipush 40, 2) := by decide +kernel
theorem dX0_isSign_3 : decode cX0_isSign 3 = .ok (.if_icmp .eq 45, 3) := by decide +kernel
theorem dX0_isSign_6 : decode cX0_isSign 6 = .ok (.iload_n 0, 1) := by decide +kernel
theorem dX0_isSign_7 : decode cX0_isSign 7 = .ok (.bipush 41, 2) := by decide +kernel
theorem dX0_isSign_9 : decode cX0_isSign 9 = .ok (.if_icmp .eq 39, 3) := by decide +kernel
theorem dX0_isSign_12 : decode cX0_isSign 12 = .ok (.iload_n 0, 1) := by decide +kernel
theorem dX0_isSign_13 : decode cX0_isSign 13 = .ok (.bipush 59, 2) := by decide +kernel
theorem dX0_isSign_15 : decode cX0_isSign 15 = .ok (.if_icmp .eq 33, 3) := by decide +kernel
theorem dX0_isSign_18 : decode cX0_isSign 18 = .ok (.iload_n 0, 1) := by decide +kernel
theorem dX0_isSign_19 : decode cX0_isSign 19 = .ok (.bipush 43, 2) := by decide +kernel
theorem dX0_isSign_21 : decode cX0_isSign 21 = .ok (.if_icmp .eq 27, 3) := by decide +kernel
theorem dX0_isSign_24 : decode cX0_isSign 24 = .ok (.iload_n 0, 1) := by decide +kernel
theorem dX0_isSign_25 : decode cX0_isSign 25 = .ok (.bipush 45, 2) := by decide +kernel
theorem dX0_isSign_27 : decode cX0_isSign 27 = .ok (.if_icmp .eq 21, 3) := by decide +kernel
theorem dX0_isSign_30 : decode cX0_isSign 30 = .ok (.iload_n 0, 1) := by decide +kernel
theorem dX0_isSign_31 : decode cX0_isSign 31 = .ok (.bipush 42, 2) := by decide +kernel
theorem dX0_isSign_33 : decode cX0_isSign 33 = .ok (.if_icmp .eq 15, 3) := by decide +kernel
theorem dX0_isSign_36 : decode cX0_isSign 36 = .ok (.iload_n 0, 1) := by decide +kernel
theorem dX0_isSign_37 : decode cX0_isSign 37 = .ok (.bipush 60, 2) := by decide +kernel
theorem dX0_isSign_39 : decode cX0_isSign 39 = .ok (.if_icmp .eq 9, 3) := by decide +kernel
theorem dX0_isSign_42 : decode cX0_isSign 42 = .ok (.iload_n 0, 1) := by decide +kernel
theorem dX0_isSign_43 : decode cX0_isSign 43 = .ok (.bipush 61, 2) := by decide +kernel
theorem dX0_isSign_45 : decode cX0_isSign 45 = .ok (.if_icmp .ne 7, 3) := by decide +kernel
theorem dX0_isSign_48 : decode cX0_isSign 48 = .ok (.iconst 1, 1) := by decide +kernel
theorem dX0_isSign_49 : decode cX0_isSign 49 = .ok (.goto 4, 3) := by decide +kernel
theorem dX0_isSign_52 : decode cX0_isSign 52 = .ok (.iconst 0, 1) := by decide +kernel
theorem dX0_isSign_53 : decode cX0_isSign 53 = .ok (.ireturn, 1) := by decide +kernel
theorem dX0_wordOf_0 : decode cX0_wordOf 0 = .ok (.iload_n 0, 1) := by decide +kernel
theorem dX0_wordOf_1 : decode cX0_wordOf 1 = .ok (.tableswitch 92 0 10 #[59, 62, 65, 68, 71, 74, 77, 80, 83, 86, 89], 59) := by decide +kernel
theorem dX0_wordOf_60 : decode cX0_wordOf 60 = .ok (.ldc 106, 2) := by decide +kernel
theorem dX0_wordOf_62 : decode cX0_wordOf 62 = .ok (.areturn, 1) := by decide +kernel
theorem dX0_wordOf_63 : decode cX0_wordOf 63 = .ok (.ldc 108, 2) := by decide +kernel
theorem dX0_wordOf_65 : decode cX0_wordOf 65 = .ok (.areturn, 1) := by decide +kernel
theorem dX0_wordOf_66 : decode cX0_wordOf 66 = .ok (.ldc 110, 2) := by decide +kernel
theorem dX0_wordOf_68 : decode cX0_wordOf 68 = .ok (.areturn, 1) := by decide +kernel
theorem dX0_wordOf_69 : decode cX0_wordOf 69 = .ok (.ldc 112, 2) := by decide +kernel
theorem dX0_wordOf_71 : decode cX0_wordOf 71 = .ok (.areturn, 1) := by decide +kernel
theorem dX0_wordOf_72 : decode cX0_wordOf 72 = .ok (.ldc 114, 2) := by decide +kernel
theorem dX0_wordOf_74 : decode cX0_wordOf 74 = .ok (.areturn, 1) := by decide +kernel
theorem dX0_wordOf_75 : decode cX0_wordOf 75 = .ok (.ldc 116, 2) := by decide +kernel
theorem dX0_wordOf_77 : decode cX0_wordOf 77 = .ok (.areturn, 1) := by decide +kernel
theorem dX0_wordOf_78 : decode cX0_wordOf 78 = .ok (.ldc 118, 2) := by decide +kernel
theorem dX0_wordOf_80 : decode cX0_wordOf 80 = .ok (.areturn, 1) := by decide +kernel
theorem dX0_wordOf_81 : decode cX0_wordOf 81 = .ok (.ldc 120, 2) := by decide +kernel
theorem dX0_wordOf_83 : decode cX0_wordOf 83 = .ok (.areturn, 1) := by decide +kernel
theorem dX0_wordOf_84 : decode cX0_wordOf 84 = .ok (.ldc 122, 2) := by decide +kernel
theorem dX0_wordOf_86 : decode cX0_wordOf 86 = .ok (.areturn, 1) := by decide +kernel
theorem dX0_wordOf_87 : decode cX0_wordOf 87 = .ok (.ldc 124, 2) := by decide +kernel
theorem dX0_wordOf_89 : decode cX0_wordOf 89 = .ok (.areturn, 1) := by decide +kernel
theorem dX0_wordOf_90 : decode cX0_wordOf 90 = .ok (.ldc 126, 2) := by decide +kernel
theorem dX0_wordOf_92 : decode cX0_wordOf 92 = .ok (.areturn, 1) := by decide +kernel
theorem dX0_wordOf_93 : decode cX0_wordOf 93 = .ok (.ldc 128, 2) := by decide +kernel
theorem dX0_wordOf_95 : decode cX0_wordOf 95 = .ok (.areturn, 1) := by decide +kernel
theorem dX1_init_0 : decode cX1_init 0 = .ok (.aload_n 0, 1) := by decide +kernel
theorem dX1_init_1 : decode cX1_init 1 = .ok (.invokespecial 3, 3) := by decide +kernel
theorem dX1_init_4 : decode cX1_init 4 = .ok (.aload_n 0, 1) := by decide +kernel
theorem dX1_init_5 : decode cX1_init 5 = .ok (.iconst 4, 1) := by decide +kernel
theorem dX1_init_6 : decode cX1_init 6 = .ok (.newarray .int, 2) := by decide +kernel
theorem dX1_init_8 : decode cX1_init 8 = .ok (.dup, 1) := by decide +kernel
theorem dX1_init_9 : decode cX1_init 9 = .ok (.iconst 0, 1) := by decide +kernel
theorem dX1_init_10 : decode cX1_init 10 = .ok (.iconst (-1), 1) := by decide +kernel
theorem dX1_init_11 : decode cX1_init 11 = .ok (.iastore, 1) := by decide +kernel
theorem dX1_init_12 : decode cX1_init 12 = .ok (.dup, 1) := by decide +kernel
theorem dX1_init_13 : decode cX1_init 13 = .ok (.iconst 1, 1) := by decide +kernel
theorem dX1_init_14 : decode cX1_init 14 = .ok (.iconst (-1), 1) := by decide +kernel
theorem dX1_init_15 : decode cX1_init 15 = .ok (.iastore, 1) := by decide +kernel
theorem dX1_init_16 : decode cX1_init 16 = .ok (.dup, 1) := by decide +kernel
theorem dX1_init_17 : decode cX1_init 17 = .ok (.iconst 2, 1) := by decide +kernel
theorem dX1_init_18 : decode cX1_init 18 = .ok (.iconst (-1), 1) := by decide +kernel
theorem dX1_init_19 : decode cX1_init 19 = .ok (.iastore, 1) := by decide +kernel
theorem dX1_init_20 : decode cX1_init 20 = .ok (.dup, 1) := by decide +kernel
theorem dX1_init_21 : decode cX1_init 21 = .ok (.iconst 3, 1) := by decide +kernel
theorem dX1_init_22 : decode cX1_init 22 = .ok (.iconst (-1), 1) := by decide +kernel
theorem dX1_init_23 : decode cX1_init 23 = .ok (.iastore, 1) := by decide +kernel
theorem dX1_init_24 : decode cX1_init 24 = .ok (.putfield 9, 3) := by decide +kernel
theorem dX1_init_27 : decode cX1_init 27 = .ok (.aload_n 0, 1) := by decide +kernel
theorem dX1_init_28 : decode cX1_init 28 = .ok (.iconst 4, 1) := by decide +kernel
theorem dX1_init_29 : decode cX1_init 29 = .ok (.newarray .int, 2) := by decide +kernel
theorem dX1_init_31 : decode cX1_init 31 = .ok (.putfield 15, 3) := by decide +kernel
theorem dX1_init_34 : decode cX1_init 34 = .ok (.aload_n 0, 1) := by decide +kernel
theorem dX1_init_35 : decode cX1_init 35 = .ok (.sipush 160, 3) := by decide +kernel
theorem dX1_init_38 : decode cX1_init 38 = .ok (.newarray .int, 2) := by decide +kernel
theorem dX1_init_40 : decode cX1_init 40 = .ok (.putfield 18, 3) := by decide +kernel
theorem dX1_init_43 : decode cX1_init 43 = .ok (.return_, 1) := by decide +kernel
theorem dX1_has_0 : decode cX1_has 0 = .ok (.iload_n 1, 1) := by decide +kernel
theorem dX1_has_1 : decode cX1_has 1 = .ok (.ifCond .lt 12, 3) := by decide +kernel
theorem dX1_has_4 : decode cX1_has 4 = .ok (.iload_n 1, 1) := by decide +kernel
theorem dX1_has_5 : decode cX1_has 5 = .ok (.iconst 4, 1) := by decide +kernel
theorem dX1_has_6 : decode cX1_has 6 = .ok (.if_icmp .ge 7, 3) := by decide +kernel
theorem dX1_has_9 : decode cX1_has 9 = .ok (.iconst 1, 1) := by decide +kernel
theorem dX1_has_10 : decode cX1_has 10 = .ok (.goto 4, 3) := by decide +kernel
theorem dX1_has_13 : decode cX1_has 13 = .ok (.iconst 0, 1) := by decide +kernel
theorem dX1_has_14 : decode cX1_has 14 = .ok (.ireturn, 1) := by decide +kernel
theorem dX1_isMissing_0 : decode cX1_isMissing 0 = .ok (.aload_n 0, 1) := by decide +kernel
theorem dX1_isMissing_1 : decode cX1_isMissing 1 = .ok (.iload_n 1, 1) := by decide +kernel
theorem dX1_isMissing_2 : decode cX1_isMissing 2 = .ok (.invokevirtual 21, 3) := by decide +kernel
theorem dX1_isMissing_5 : decode cX1_isMissing 5 = .ok (.ifCond .eq 13, 3) := by decide +kernel
theorem dX1_isMissing_8 : decode cX1_isMissing 8 = .ok (.aload_n 0, 1) := by decide +kernel
theorem dX1_isMissing_9 : decode cX1_isMissing 9 = .ok (.getfield 9, 3) := by decide +kernel
theorem dX1_isMissing_12 : decode cX1_isMissing 12 = .ok (.iload_n 1, 1) := by decide +kernel
theorem dX1_isMissing_13 : decode cX1_isMissing 13 = .ok (.iaload, 1) := by decide +kernel
theorem dX1_isMissing_14 : decode cX1_isMissing 14 = .ok (.iconst (-1), 1) := by decide +kernel
theorem dX1_isMissing_15 : decode cX1_isMissing 15 = .ok (.if_icmp .ne 7, 3) := by decide +kernel
theorem dX1_isMissing_18 : decode cX1_isMissing 18 = .ok (.iconst 1, 1) := by decide +kernel
theorem dX1_isMissing_19 : decode cX1_isMissing 19 = .ok (.goto 4, 3) := by decide +kernel
theorem dX1_isMissing_22 : decode cX1_isMissing 22 = .ok (.iconst 0, 1) := by decide +kernel
theorem dX1_isMissing_23 : decode cX1_isMissing 23 = .ok (.ireturn, 1) := by decide +kernel
theorem dX1_sortOf_0 : decode cX1_sortOf 0 = .ok (.aload_n 0, 1) := by decide +kernel
theorem dX1_sortOf_1 : decode cX1_sortOf 1 = .ok (.iload_n 1, 1) := by decide +kernel
theorem dX1_sortOf_2 : decode cX1_sortOf 2 = .ok (.invokevirtual 21, 3) := by decide +kernel
theorem dX1_sortOf_5 : decode cX1_sortOf 5 = .ok (.ifCond .eq 12, 3) := by decide +kernel
theorem dX1_sortOf_8 : decode cX1_sortOf 8 = .ok (.aload_n 0, 1) := by decide +kernel
theorem dX1_sortOf_9 : decode cX1_sortOf 9 = .ok (.getfield 9, 3) := by decide +kernel
theorem dX1_sortOf_12 : decode cX1_sortOf 12 = .ok (.iload_n 1, 1) := by decide +kernel
theorem dX1_sortOf_13 : decode cX1_sortOf 13 = .ok (.iaload, 1) := by decide +kernel
theorem dX1_sortOf_14 : decode cX1_sortOf 14 = .ok (.goto 4, 3) := by decide +kernel
theorem dX1_sortOf_17 : decode cX1_sortOf 17 = .ok (.iconst (-1), 1) := by decide +kernel
theorem dX1_sortOf_18 : decode cX1_sortOf 18 = .ok (.ireturn, 1) := by decide +kernel
theorem dX1_sizeOf_0 : decode cX1_sizeOf 0 = .ok (.aload_n 0, 1) := by decide +kernel
theorem dX1_sizeOf_1 : decode cX1_sizeOf 1 = .ok (.iload_n 1, 1) := by decide +kernel
theorem dX1_sizeOf_2 : decode cX1_sizeOf 2 = .ok (.invokevirtual 21, 3) := by decide +kernel
theorem dX1_sizeOf_5 : decode cX1_sizeOf 5 = .ok (.ifCond .eq 12, 3) := by decide +kernel
theorem dX1_sizeOf_8 : decode cX1_sizeOf 8 = .ok (.aload_n 0, 1) := by decide +kernel
theorem dX1_sizeOf_9 : decode cX1_sizeOf 9 = .ok (.getfield 15, 3) := by decide +kernel
theorem dX1_sizeOf_12 : decode cX1_sizeOf 12 = .ok (.iload_n 1, 1) := by decide +kernel
theorem dX1_sizeOf_13 : decode cX1_sizeOf 13 = .ok (.iaload, 1) := by decide +kernel
theorem dX1_sizeOf_14 : decode cX1_sizeOf 14 = .ok (.goto 4, 3) := by decide +kernel
theorem dX1_sizeOf_17 : decode cX1_sizeOf 17 = .ok (.iconst 0, 1) := by decide +kernel
theorem dX1_sizeOf_18 : decode cX1_sizeOf 18 = .ok (.ireturn, 1) := by decide +kernel
theorem dX1_spans_0 : decode cX1_spans 0 = .ok (.iload_n 2, 1) := by decide +kernel
theorem dX1_spans_1 : decode cX1_spans 1 = .ok (.ifCond .lt 31, 3) := by decide +kernel
theorem dX1_spans_4 : decode cX1_spans 4 = .ok (.iload_n 3, 1) := by decide +kernel
theorem dX1_spans_5 : decode cX1_spans 5 = .ok (.ifCond .lt 27, 3) := by decide +kernel
theorem dX1_spans_8 : decode cX1_spans 8 = .ok (.iload_n 3, 1) := by decide +kernel
theorem dX1_spans_9 : decode cX1_spans 9 = .ok (.aload_n 0, 1) := by decide +kernel
theorem dX1_spans_10 : decode cX1_spans 10 = .ok (.iload_n 1, 1) := by decide +kernel
theorem dX1_spans_11 : decode cX1_spans 11 = .ok (.invokevirtual 25, 3) := by decide +kernel
theorem dX1_spans_14 : decode cX1_spans 14 = .ok (.if_icmp .gt 18, 3) := by decide +kernel
theorem dX1_spans_17 : decode cX1_spans 17 = .ok (.iload_n 2, 1) := by decide +kernel
theorem dX1_spans_18 : decode cX1_spans 18 = .ok (.aload_n 0, 1) := by decide +kernel
theorem dX1_spans_19 : decode cX1_spans 19 = .ok (.iload_n 1, 1) := by decide +kernel
theorem dX1_spans_20 : decode cX1_spans 20 = .ok (.invokevirtual 25, 3) := by decide +kernel
theorem dX1_spans_23 : decode cX1_spans 23 = .ok (.iload_n 3, 1) := by decide +kernel
theorem dX1_spans_24 : decode cX1_spans 24 = .ok (.isub, 1) := by decide +kernel
theorem dX1_spans_25 : decode cX1_spans 25 = .ok (.if_icmp .gt 7, 3) := by decide +kernel
theorem dX1_spans_28 : decode cX1_spans 28 = .ok (.iconst 1, 1) := by decide +kernel
theorem dX1_spans_29 : decode cX1_spans 29 = .ok (.goto 4, 3) := by decide +kernel
theorem dX1_spans_32 : decode cX1_spans 32 = .ok (.iconst 0, 1) := by decide +kernel
theorem dX1_spans_33 : decode cX1_spans 33 = .ok (.ireturn, 1) := by decide +kernel
theorem dX1_item_0 : decode cX1_item 0 = .ok (.aload_n 0, 1) := by decide +kernel
theorem dX1_item_1 : decode cX1_item 1 = .ok (.iload_n 1, 1) := by decide +kernel
theorem dX1_item_2 : decode cX1_item 2 = .ok (.iload_n 2, 1) := by decide +kernel
theorem dX1_item_3 : decode cX1_item 3 = .ok (.iconst 1, 1) := by decide +kernel
theorem dX1_item_4 : decode cX1_item 4 = .ok (.invokevirtual 29, 3) := by decide +kernel
theorem dX1_item_7 : decode cX1_item 7 = .ok (.ifCond .eq 17, 3) := by decide +kernel
theorem dX1_item_10 : decode cX1_item 10 = .ok (.aload_n 0, 1) := by decide +kernel
theorem dX1_item_11 : decode cX1_item 11 = .ok (.getfield 18, 3) := by decide +kernel
theorem dX1_item_14 : decode cX1_item 14 = .ok (.iload_n 1, 1) := by decide +kernel
theorem dX1_item_15 : decode cX1_item 15 = .ok (.bipush 40, 2) := by decide +kernel
theorem dX1_item_17 : decode cX1_item 17 = .ok (.imul, 1) := by decide +kernel
theorem dX1_item_18 : decode cX1_item 18 = .ok (.iload_n 2, 1) := by decide +kernel
theorem dX1_item_19 : decode cX1_item 19 = .ok (.iadd, 1) := by decide +kernel
theorem dX1_item_20 : decode cX1_item 20 = .ok (.iaload, 1) := by decide +kernel
theorem dX1_item_21 : decode cX1_item 21 = .ok (.goto 4, 3) := by decide +kernel
theorem dX1_item_24 : decode cX1_item 24 = .ok (.iconst 0, 1) := by decide +kernel
theorem dX1_item_25 : decode cX1_item 25 = .ok (.ireturn, 1) := by decide +kernel
theorem dX1_put_0 : decode cX1_put 0 = .ok (.aload_n 0, 1) := by decide +kernel
theorem dX1_put_1 : decode cX1_put 1 = .ok (.iload_n 1, 1) := by decide +kernel
theorem dX1_put_2 : decode cX1_put 2 = .ok (.iload_n 2, 1) := by decide +kernel
theorem dX1_put_3 : decode cX1_put 3 = .ok (.iconst 1, 1) := by decide +kernel
theorem dX1_put_4 : decode cX1_put 4 = .ok (.invokevirtual 29, 3) := by decide +kernel
theorem dX1_put_7 : decode cX1_put 7 = .ok (.ifCond .ne 4, 3) := by decide +kernel
theorem dX1_put_10 : decode cX1_put 10 = .ok (.return_, 1) := by decide +kernel
theorem dX1_put_11 : decode cX1_put 11 = .ok (.iload_n 3, 1) := by decide +kernel
theorem dX1_put_12 : decode cX1_put 12 = .ok (.istore 4, 2) := by decide +kernel
theorem dX1_put_14 : decode cX1_put 14 = .ok (.aload_n 0, 1) := by decide +kernel
theorem dX1_put_15 : decode cX1_put 15 = .ok (.getfield 9, 3) := by decide +kernel
theorem dX1_put_18 : decode cX1_put 18 = .ok (.iload_n 1, 1) := by decide +kernel
theorem dX1_put_19 : decode cX1_put 19 = .ok (.iaload, 1) := by decide +kernel
theorem dX1_put_20 : decode cX1_put 20 = .ok (.ifCond .ne 10, 3) := by decide +kernel
theorem dX1_put_23 : decode cX1_put 23 = .ok (.iload_n 3, 1) := by decide +kernel
theorem dX1_put_24 : decode cX1_put 24 = .ok (.i2b, 1) := by decide +kernel
theorem dX1_put_25 : decode cX1_put 25 = .ok (.istore 4, 2) := by decide +kernel
theorem dX1_put_27 : decode cX1_put 27 = .ok (.goto 17, 3) := by decide +kernel
theorem dX1_put_30 : decode cX1_put 30 = .ok (.aload_n 0, 1) := by decide +kernel
theorem dX1_put_31 : decode cX1_put 31 = .ok (.getfield 9, 3) := by decide +kernel
theorem dX1_put_34 : decode cX1_put 34 = .ok (.iload_n 1, 1) := by decide +kernel
theorem dX1_put_35 : decode cX1_put 35 = .ok (.iaload, 1) := by decide +kernel
theorem dX1_put_36 : decode cX1_put 36 = .ok (.iconst 1, 1) := by decide +kernel
theorem dX1_put_37 : decode cX1_put 37 = .ok (.if_icmp .ne 7, 3) := by decide +kernel
theorem dX1_put_40 : decode cX1_put 40 = .ok (.iload_n 3, 1) := by decide +kernel
theorem dX1_put_41 : decode cX1_put 41 = .ok (.i2s, 1) := by decide +kernel
theorem dX1_put_42 : decode cX1_put 42 = .ok (.istore 4, 2) := by decide +kernel
theorem dX1_put_44 : decode cX1_put 44 = .ok (.aload_n 0, 1) := by decide +kernel
theorem dX1_put_45 : decode cX1_put 45 = .ok (.getfield 18, 3) := by decide +kernel
theorem dX1_put_48 : decode cX1_put 48 = .ok (.iload_n 1, 1) := by decide +kernel
theorem dX1_put_49 : decode cX1_put 49 = .ok (.bipush 40, 2) := by decide +kernel
theorem dX1_put_51 : decode cX1_put 51 = .ok (.imul, 1) := by decide +kernel
theorem dX1_put_52 : decode cX1_put 52 = .ok (.iload_n 2, 1) := by decide +kernel
theorem dX1_put_53 : decode cX1_put 53 = .ok (.iadd, 1) := by decide +kernel
theorem dX1_put_54 : decode cX1_put 54 = .ok (.iload 4, 2) := by decide +kernel
theorem dX1_put_56 : decode cX1_put 56 = .ok (.iastore, 1) := by decide +kernel
theorem dX1_put_57 : decode cX1_put 57 = .ok (.return_, 1) := by decide +kernel
theorem dX1_lay_0 : decode cX1_lay 0 = .ok (.aload_n 0, 1) := by decide +kernel
theorem dX1_lay_1 : decode cX1_lay 1 = .ok (.iload_n 1, 1) := by decide +kernel
theorem dX1_lay_2 : decode cX1_lay 2 = .ok (.invokevirtual 21, 3) := by decide +kernel
theorem dX1_lay_5 : decode cX1_lay 5 = .ok (.ifCond .eq 13, 3) := by decide +kernel
theorem dX1_lay_8 : decode cX1_lay 8 = .ok (.iload_n 3, 1) := by decide +kernel
theorem dX1_lay_9 : decode cX1_lay 9 = .ok (.ifCond .lt 9, 3) := by decide +kernel
theorem dX1_lay_12 : decode cX1_lay 12 = .ok (.iload_n 3, 1) := by decide +kernel
theorem dX1_lay_13 : decode cX1_lay 13 = .ok (.bipush 40, 2) := by decide +kernel
theorem dX1_lay_15 : decode cX1_lay 15 = .ok (.if_icmp .le 4, 3) := by decide +kernel
theorem dX1_lay_18 : decode cX1_lay 18 = .ok (.return_, 1) := by decide +kernel
theorem dX1_lay_19 : decode cX1_lay 19 = .ok (.aload_n 0, 1) := by decide +kernel
theorem dX1_lay_20 : decode cX1_lay 20 = .ok (.getfield 9, 3) := by decide +kernel
theorem dX1_lay_23 : decode cX1_lay 23 = .ok (.iload_n 1, 1) := by decide +kernel
theorem dX1_lay_24 : decode cX1_lay 24 = .ok (.iload_n 2, 1) := by decide +kernel
theorem dX1_lay_25 : decode cX1_lay 25 = .ok (.iastore, 1) := by decide +kernel
theorem dX1_lay_26 : decode cX1_lay 26 = .ok (.aload_n 0, 1) := by decide +kernel
theorem dX1_lay_27 : decode cX1_lay 27 = .ok (.getfield 15, 3) := by decide +kernel
theorem dX1_lay_30 : decode cX1_lay 30 = .ok (.iload_n 1, 1) := by decide +kernel
theorem dX1_lay_31 : decode cX1_lay 31 = .ok (.iload_n 3, 1) := by decide +kernel
theorem dX1_lay_32 : decode cX1_lay 32 = .ok (.iastore, 1) := by decide +kernel
theorem dX1_lay_33 : decode cX1_lay 33 = .ok (.iconst 0, 1) := by decide +kernel
theorem dX1_lay_34 : decode cX1_lay 34 = .ok (.istore 4, 2) := by decide +kernel
theorem dX1_lay_36 : decode cX1_lay 36 = .ok (.iload 4, 2) := by decide +kernel
theorem dX1_lay_38 : decode cX1_lay 38 = .ok (.iload_n 3, 1) := by decide +kernel
theorem dX1_lay_39 : decode cX1_lay 39 = .ok (.if_icmp .ge 22, 3) := by decide +kernel
theorem dX1_lay_42 : decode cX1_lay 42 = .ok (.aload_n 0, 1) := by decide +kernel
theorem dX1_lay_43 : decode cX1_lay 43 = .ok (.getfield 18, 3) := by decide +kernel
theorem dX1_lay_46 : decode cX1_lay 46 = .ok (.iload_n 1, 1) := by decide +kernel
theorem dX1_lay_47 : decode cX1_lay 47 = .ok (.bipush 40, 2) := by decide +kernel
theorem dX1_lay_49 : decode cX1_lay 49 = .ok (.imul, 1) := by decide +kernel
theorem dX1_lay_50 : decode cX1_lay 50 = .ok (.iload 4, 2) := by decide +kernel
theorem dX1_lay_52 : decode cX1_lay 52 = .ok (.iadd, 1) := by decide +kernel
theorem dX1_lay_53 : decode cX1_lay 53 = .ok (.iconst 0, 1) := by decide +kernel
theorem dX1_lay_54 : decode cX1_lay 54 = .ok (.iastore, 1) := by decide +kernel
theorem dX1_lay_55 : decode cX1_lay 55 = .ok (.iinc 4 1, 3) := by decide +kernel
theorem dX1_lay_58 : decode cX1_lay 58 = .ok (.goto (-22), 3) := by decide +kernel
theorem dX1_lay_61 : decode cX1_lay 61 = .ok (.return_, 1) := by decide +kernel
theorem dX1_move_0 : decode cX1_move 0 = .ok (.aload_n 0, 1) := by decide +kernel
theorem dX1_move_1 : decode cX1_move 1 = .ok (.iload_n 1, 1) := by decide +kernel
theorem dX1_move_2 : decode cX1_move 2 = .ok (.iload_n 2, 1) := by decide +kernel
theorem dX1_move_3 : decode cX1_move 3 = .ok (.iload 5, 2) := by decide +kernel
theorem dX1_move_5 : decode cX1_move 5 = .ok (.invokevirtual 29, 3) := by decide +kernel
theorem dX1_move_8 : decode cX1_move 8 = .ok (.ifCond .eq 41, 3) := by decide +kernel
theorem dX1_move_11 : decode cX1_move 11 = .ok (.aload_n 0, 1) := by decide +kernel
theorem dX1_move_12 : decode cX1_move 12 = .ok (.iload_n 3, 1) := by decide +kernel
theorem dX1_move_13 : decode cX1_move 13 = .ok (.iload 4, 2) := by decide +kernel
theorem dX1_move_15 : decode cX1_move 15 = .ok (.iload 5, 2) := by decide +kernel
theorem dX1_move_17 : decode cX1_move 17 = .ok (.invokevirtual 29, 3) := by decide +kernel
theorem dX1_move_20 : decode cX1_move 20 = .ok (.ifCond .eq 29, 3) := by decide +kernel
theorem dX1_move_23 : decode cX1_move 23 = .ok (.aload_n 0, 1) := by decide +kernel
theorem dX1_move_24 : decode cX1_move 24 = .ok (.getfield 18, 3) := by decide +kernel
theorem dX1_move_27 : decode cX1_move 27 = .ok (.iload_n 1, 1) := by decide +kernel
theorem dX1_move_28 : decode cX1_move 28 = .ok (.bipush 40, 2) := by decide +kernel
theorem dX1_move_30 : decode cX1_move 30 = .ok (.imul, 1) := by decide +kernel
theorem dX1_move_31 : decode cX1_move 31 = .ok (.iload_n 2, 1) := by decide +kernel
theorem dX1_move_32 : decode cX1_move 32 = .ok (.iadd, 1) := by decide +kernel
theorem dX1_move_33 : decode cX1_move 33 = .ok (.aload_n 0, 1) := by decide +kernel
theorem dX1_move_34 : decode cX1_move 34 = .ok (.getfield 18, 3) := by decide +kernel
theorem dX1_move_37 : decode cX1_move 37 = .ok (.iload_n 3, 1) := by decide +kernel
theorem dX1_move_38 : decode cX1_move 38 = .ok (.bipush 40, 2) := by decide +kernel
theorem dX1_move_40 : decode cX1_move 40 = .ok (.imul, 1) := by decide +kernel
theorem dX1_move_41 : decode cX1_move 41 = .ok (.iload 4, 2) := by decide +kernel
theorem dX1_move_43 : decode cX1_move 43 = .ok (.iadd, 1) := by decide +kernel
theorem dX1_move_44 : decode cX1_move 44 = .ok (.iload 5, 2) := by decide +kernel
theorem dX1_move_46 : decode cX1_move 46 = .ok (.invokestatic 33, 3) := by decide +kernel
theorem dX1_move_49 : decode cX1_move 49 = .ok (.return_, 1) := by decide +kernel
theorem dX3_init_0 : decode cX3_init 0 = .ok (.aload_n 0, 1) := by decide +kernel
theorem dX3_init_1 : decode cX3_init 1 = .ok (.invokespecial 3, 3) := by decide +kernel
theorem dX3_init_4 : decode cX3_init 4 = .ok (.aload_n 0, 1) := by decide +kernel
theorem dX3_init_5 : decode cX3_init 5 = .ok (.bipush 8, 2) := by decide +kernel
theorem dX3_init_7 : decode cX3_init 7 = .ok (.putfield 9, 3) := by decide +kernel
theorem dX3_init_10 : decode cX3_init 10 = .ok (.aload_n 0, 1) := by decide +kernel
theorem dX3_init_11 : decode cX3_init 11 = .ok (.iconst 1, 1) := by decide +kernel
theorem dX3_init_12 : decode cX3_init 12 = .ok (.putfield 15, 3) := by decide +kernel
theorem dX3_init_15 : decode cX3_init 15 = .ok (.aload_n 0, 1) := by decide +kernel
theorem dX3_init_16 : decode cX3_init 16 = .ok (.iconst 5, 1) := by decide +kernel
theorem dX3_init_17 : decode cX3_init 17 = .ok (.newarray .int, 2) := by decide +kernel
theorem dX3_init_19 : decode cX3_init 19 = .ok (.putfield 18, 3) := by decide +kernel
theorem dX3_init_22 : decode cX3_init 22 = .ok (.aload_n 0, 1) := by decide +kernel
theorem dX3_init_23 : decode cX3_init 23 = .ok (.iconst 5, 1) := by decide +kernel
theorem dX3_init_24 : decode cX3_init 24 = .ok (.newarray .int, 2) := by decide +kernel
theorem dX3_init_26 : decode cX3_init 26 = .ok (.putfield 22, 3) := by decide +kernel
theorem dX3_init_29 : decode cX3_init 29 = .ok (.aload_n 0, 1) := by decide +kernel
theorem dX3_init_30 : decode cX3_init 30 = .ok (.iconst 5, 1) := by decide +kernel
theorem dX3_init_31 : decode cX3_init 31 = .ok (.newarray .int, 2) := by decide +kernel
theorem dX3_init_33 : decode cX3_init 33 = .ok (.putfield 25, 3) := by decide +kernel
theorem dX3_init_36 : decode cX3_init 36 = .ok (.aload_n 0, 1) := by decide +kernel
theorem dX3_init_37 : decode cX3_init 37 = .ok (.iconst 5, 1) := by decide +kernel
theorem dX3_init_38 : decode cX3_init 38 = .ok (.newarray .int, 2) := by decide +kernel
theorem dX3_init_40 : decode cX3_init 40 = .ok (.putfield 28, 3) := by decide +kernel
theorem dX3_init_43 : decode cX3_init 43 = .ok (.return_, 1) := by decide +kernel
theorem dX3_has_0 : decode cX3_has 0 = .ok (.iload_n 1, 1) := by decide +kernel
theorem dX3_has_1 : decode cX3_has 1 = .ok (.ifCond .lt 20, 3) := by decide +kernel
theorem dX3_has_4 : decode cX3_has 4 = .ok (.iload_n 1, 1) := by decide +kernel
theorem dX3_has_5 : decode cX3_has 5 = .ok (.iconst 5, 1) := by decide +kernel
theorem dX3_has_6 : decode cX3_has 6 = .ok (.if_icmp .ge 15, 3) := by decide +kernel
theorem dX3_has_9 : decode cX3_has 9 = .ok (.iload_n 1, 1) := by decide +kernel
theorem dX3_has_10 : decode cX3_has 10 = .ok (.aload_n 0, 1) := by decide +kernel
theorem dX3_has_11 : decode cX3_has 11 = .ok (.getfield 31, 3) := by decide +kernel
theorem dX3_has_14 : decode cX3_has 14 = .ok (.if_icmp .ge 7, 3) := by decide +kernel
theorem dX3_has_17 : decode cX3_has 17 = .ok (.iconst 1, 1) := by decide +kernel
theorem dX3_has_18 : decode cX3_has 18 = .ok (.goto 4, 3) := by decide +kernel
theorem dX3_has_21 : decode cX3_has 21 = .ok (.iconst 0, 1) := by decide +kernel
theorem dX3_has_22 : decode cX3_has 22 = .ok (.ireturn, 1) := by decide +kernel
theorem dX3_change_0 : decode cX3_change 0 = .ok (.iload_n 1, 1) := by decide +kernel
theorem dX3_change_1 : decode cX3_change 1 = .ok (.ifCond .ne 17, 3) := by decide +kernel
theorem dX3_change_4 : decode cX3_change 4 = .ok (.aload_n 0, 1) := by decide +kernel
theorem dX3_change_5 : decode cX3_change 5 = .ok (.getfield 9, 3) := by decide +kernel
theorem dX3_change_8 : decode cX3_change 8 = .ok (.istore 4, 2) := by decide +kernel
theorem dX3_change_10 : decode cX3_change 10 = .ok (.aload_n 0, 1) := by decide +kernel
theorem dX3_change_11 : decode cX3_change 11 = .ok (.iload_n 3, 1) := by decide +kernel
theorem dX3_change_12 : decode cX3_change 12 = .ok (.putfield 9, 3) := by decide +kernel
theorem dX3_change_15 : decode cX3_change 15 = .ok (.iload 4, 2) := by decide +kernel
theorem dX3_change_17 : decode cX3_change 17 = .ok (.ireturn, 1) := by decide +kernel
theorem dX3_change_18 : decode cX3_change 18 = .ok (.iload_n 1, 1) := by decide +kernel
theorem dX3_change_19 : decode cX3_change 19 = .ok (.iconst 1, 1) := by decide +kernel
theorem dX3_change_20 : decode cX3_change 20 = .ok (.if_icmp .ne 17, 3) := by decide +kernel
theorem dX3_change_23 : decode cX3_change 23 = .ok (.aload_n 0, 1) := by decide +kernel
theorem dX3_change_24 : decode cX3_change 24 = .ok (.getfield 15, 3) := by decide +kernel
theorem dX3_change_27 : decode cX3_change 27 = .ok (.istore 4, 2) := by decide +kernel
theorem dX3_change_29 : decode cX3_change 29 = .ok (.aload_n 0, 1) := by decide +kernel
theorem dX3_change_30 : decode cX3_change 30 = .ok (.iload_n 3, 1) := by decide +kernel
theorem dX3_change_31 : decode cX3_change 31 = .ok (.putfield 15, 3) := by decide +kernel
theorem dX3_change_34 : decode cX3_change 34 = .ok (.iload 4, 2) := by decide +kernel
theorem dX3_change_36 : decode cX3_change 36 = .ok (.ireturn, 1) := by decide +kernel
theorem dX3_change_37 : decode cX3_change 37 = .ok (.aload_n 0, 1) := by decide +kernel
theorem dX3_change_38 : decode cX3_change 38 = .ok (.iload_n 2, 1) := by decide +kernel
theorem dX3_change_39 : decode cX3_change 39 = .ok (.invokevirtual 34, 3) := by decide +kernel
theorem dX3_change_42 : decode cX3_change 42 = .ok (.ifCond .ne 6, 3) := by decide +kernel
theorem dX3_change_45 : decode cX3_change 45 = .ok (.bipush (-2), 2) := by decide +kernel
theorem dX3_change_47 : decode cX3_change 47 = .ok (.ireturn, 1) := by decide +kernel
theorem dX3_change_48 : decode cX3_change 48 = .ok (.aload_n 0, 1) := by decide +kernel
theorem dX3_change_49 : decode cX3_change 49 = .ok (.getfield 28, 3) := by decide +kernel
theorem dX3_change_52 : decode cX3_change 52 = .ok (.astore 5, 2) := by decide +kernel
theorem dX3_change_54 : decode cX3_change 54 = .ok (.iload_n 1, 1) := by decide +kernel
theorem dX3_change_55 : decode cX3_change 55 = .ok (.iconst 2, 1) := by decide +kernel
theorem dX3_change_56 : decode cX3_change 56 = .ok (.if_icmp .ne 12, 3) := by decide +kernel
theorem dX3_change_59 : decode cX3_change 59 = .ok (.aload_n 0, 1) := by decide +kernel
theorem dX3_change_60 : decode cX3_change 60 = .ok (.getfield 22, 3) := by decide +kernel
theorem dX3_change_63 : decode cX3_change 63 = .ok (.astore 5, 2) := by decide +kernel
theorem dX3_change_65 : decode cX3_change 65 = .ok (.goto 14, 3) := by decide +kernel
theorem dX3_change_68 : decode cX3_change 68 = .ok (.iload_n 1, 1) := by decide +kernel
theorem dX3_change_69 : decode cX3_change 69 = .ok (.iconst 3, 1) := by decide +kernel
theorem dX3_change_70 : decode cX3_change 70 = .ok (.if_icmp .ne 9, 3) := by decide +kernel
theorem dX3_change_73 : decode cX3_change 73 = .ok (.aload_n 0, 1) := by decide +kernel
theorem dX3_change_74 : decode cX3_change 74 = .ok (.getfield 25, 3) := by decide +kernel
theorem dX3_change_77 : decode cX3_change 77 = .ok (.astore 5, 2) := by decide +kernel
theorem dX3_change_79 : decode cX3_change 79 = .ok (.aload 5, 2) := by decide +kernel
theorem dX3_change_81 : decode cX3_change 81 = .ok (.iload_n 2, 1) := by decide +kernel
theorem dX3_change_82 : decode cX3_change 82 = .ok (.iaload, 1) := by decide +kernel
theorem dX3_change_83 : decode cX3_change 83 = .ok (.istore 4, 2) := by decide +kernel
theorem dX3_change_85 : decode cX3_change 85 = .ok (.aload 5, 2) := by decide +kernel
theorem dX3_change_87 : decode cX3_change 87 = .ok (.iload_n 2, 1) := by decide +kernel
theorem dX3_change_88 : decode cX3_change 88 = .ok (.iload_n 3, 1) := by decide +kernel
theorem dX3_change_89 : decode cX3_change 89 = .ok (.iastore, 1) := by decide +kernel
theorem dX3_change_90 : decode cX3_change 90 = .ok (.iload 4, 2) := by decide +kernel
theorem dX3_change_92 : decode cX3_change 92 = .ok (.ireturn, 1) := by decide +kernel
theorem dX3_seat_0 : decode cX3_seat 0 = .ok (.iload_n 1, 1) := by decide +kernel
theorem dX3_seat_1 : decode cX3_seat 1 = .ok (.ifCond .lt 24, 3) := by decide +kernel
theorem dX3_seat_4 : decode cX3_seat 4 = .ok (.iload_n 1, 1) := by decide +kernel
theorem dX3_seat_5 : decode cX3_seat 5 = .ok (.bipush 6, 2) := by decide +kernel
theorem dX3_seat_7 : decode cX3_seat 7 = .ok (.if_icmp .ge 18, 3) := by decide +kernel
theorem dX3_seat_10 : decode cX3_seat 10 = .ok (.iload_n 2, 1) := by decide +kernel
theorem dX3_seat_11 : decode cX3_seat 11 = .ok (.ifCond .lt 14, 3) := by decide +kernel
theorem dX3_seat_14 : decode cX3_seat 14 = .ok (.iload_n 3, 1) := by decide +kernel
theorem dX3_seat_15 : decode cX3_seat 15 = .ok (.iconst 1, 1) := by decide +kernel
theorem dX3_seat_16 : decode cX3_seat 16 = .ok (.if_icmp .lt 9, 3) := by decide +kernel
theorem dX3_seat_19 : decode cX3_seat 19 = .ok (.iload_n 3, 1) := by decide +kernel
theorem dX3_seat_20 : decode cX3_seat 20 = .ok (.bipush 20, 2) := by decide +kernel
theorem dX3_seat_22 : decode cX3_seat 22 = .ok (.if_icmp .le 6, 3) := by decide +kernel
theorem dX3_seat_25 : decode cX3_seat 25 = .ok (.bipush (-2), 2) := by decide +kernel
theorem dX3_seat_27 : decode cX3_seat 27 = .ok (.ireturn, 1) := by decide +kernel
theorem dX3_seat_28 : decode cX3_seat 28 = .ok (.iload_n 2, 1) := by decide +kernel
theorem dX3_seat_29 : decode cX3_seat 29 = .ok (.bipush 100, 2) := by decide +kernel
theorem dX3_seat_31 : decode cX3_seat 31 = .ok (.idiv, 1) := by decide +kernel
theorem dX3_seat_32 : decode cX3_seat 32 = .ok (.bipush 9, 2) := by decide +kernel
theorem dX3_seat_34 : decode cX3_seat 34 = .ok (.if_icmp .gt 12, 3) := by decide +kernel
theorem dX3_seat_37 : decode cX3_seat 37 = .ok (.iload_n 2, 1) := by decide +kernel
theorem dX3_seat_38 : decode cX3_seat 38 = .ok (.bipush 100, 2) := by decide +kernel
theorem dX3_seat_40 : decode cX3_seat 40 = .ok (.irem, 1) := by decide +kernel
theorem dX3_seat_41 : decode cX3_seat 41 = .ok (.bipush 12, 2) := by decide +kernel
theorem dX3_seat_43 : decode cX3_seat 43 = .ok (.if_icmp .le 6, 3) := by decide +kernel
theorem dX3_seat_46 : decode cX3_seat 46 = .ok (.bipush (-2), 2) := by decide +kernel
theorem dX3_seat_48 : decode cX3_seat 48 = .ok (.ireturn, 1) := by decide +kernel
theorem dX3_seat_49 : decode cX3_seat 49 = .ok (.aload_n 0, 1) := by decide +kernel
theorem dX3_seat_50 : decode cX3_seat 50 = .ok (.getfield 31, 3) := by decide +kernel
theorem dX3_seat_53 : decode cX3_seat 53 = .ok (.ifCond .lt 11, 3) := by decide +kernel
theorem dX3_seat_56 : decode cX3_seat 56 = .ok (.aload_n 0, 1) := by decide +kernel
theorem dX3_seat_57 : decode cX3_seat 57 = .ok (.getfield 31, 3) := by decide +kernel
theorem dX3_seat_60 : decode cX3_seat 60 = .ok (.iconst 5, 1) := by decide +kernel
theorem dX3_seat_61 : decode cX3_seat 61 = .ok (.if_icmp .lt 6, 3) := by decide +kernel
theorem dX3_seat_64 : decode cX3_seat 64 = .ok (.bipush (-4), 2) := by decide +kernel
theorem dX3_seat_66 : decode cX3_seat 66 = .ok (.ireturn, 1) := by decide +kernel
theorem dX3_seat_67 : decode cX3_seat 67 = .ok (.aload_n 0, 1) := by decide +kernel
theorem dX3_seat_68 : decode cX3_seat 68 = .ok (.getfield 18, 3) := by decide +kernel
theorem dX3_seat_71 : decode cX3_seat 71 = .ok (.aload_n 0, 1) := by decide +kernel
theorem dX3_seat_72 : decode cX3_seat 72 = .ok (.getfield 31, 3) := by decide +kernel
theorem dX3_seat_75 : decode cX3_seat 75 = .ok (.iload_n 1, 1) := by decide +kernel
theorem dX3_seat_76 : decode cX3_seat 76 = .ok (.iastore, 1) := by decide +kernel
theorem dX3_seat_77 : decode cX3_seat 77 = .ok (.aload_n 0, 1) := by decide +kernel
theorem dX3_seat_78 : decode cX3_seat 78 = .ok (.getfield 22, 3) := by decide +kernel
theorem dX3_seat_81 : decode cX3_seat 81 = .ok (.aload_n 0, 1) := by decide +kernel
theorem dX3_seat_82 : decode cX3_seat 82 = .ok (.getfield 31, 3) := by decide +kernel
theorem dX3_seat_85 : decode cX3_seat 85 = .ok (.iload_n 2, 1) := by decide +kernel
theorem dX3_seat_86 : decode cX3_seat 86 = .ok (.bipush 100, 2) := by decide +kernel
theorem dX3_seat_88 : decode cX3_seat 88 = .ok (.idiv, 1) := by decide +kernel
theorem dX3_seat_89 : decode cX3_seat 89 = .ok (.iastore, 1) := by decide +kernel
theorem dX3_seat_90 : decode cX3_seat 90 = .ok (.aload_n 0, 1) := by decide +kernel
theorem dX3_seat_91 : decode cX3_seat 91 = .ok (.getfield 25, 3) := by decide +kernel
theorem dX3_seat_94 : decode cX3_seat 94 = .ok (.aload_n 0, 1) := by decide +kernel
theorem dX3_seat_95 : decode cX3_seat 95 = .ok (.getfield 31, 3) := by decide +kernel
theorem dX3_seat_98 : decode cX3_seat 98 = .ok (.iload_n 2, 1) := by decide +kernel
theorem dX3_seat_99 : decode cX3_seat 99 = .ok (.bipush 100, 2) := by decide +kernel
theorem dX3_seat_101 : decode cX3_seat 101 = .ok (.irem, 1) := by decide +kernel
theorem dX3_seat_102 : decode cX3_seat 102 = .ok (.iastore, 1) := by decide +kernel
theorem dX3_seat_103 : decode cX3_seat 103 = .ok (.aload_n 0, 1) := by decide +kernel
theorem dX3_seat_104 : decode cX3_seat 104 = .ok (.getfield 28, 3) := by decide +kernel
theorem dX3_seat_107 : decode cX3_seat 107 = .ok (.aload_n 0, 1) := by decide +kernel
theorem dX3_seat_108 : decode cX3_seat 108 = .ok (.getfield 31, 3) := by decide +kernel
theorem dX3_seat_111 : decode cX3_seat 111 = .ok (.iload_n 3, 1) := by decide +kernel
theorem dX3_seat_112 : decode cX3_seat 112 = .ok (.iastore, 1) := by decide +kernel
theorem dX3_seat_113 : decode cX3_seat 113 = .ok (.aload_n 0, 1) := by decide +kernel
theorem dX3_seat_114 : decode cX3_seat 114 = .ok (.dup, 1) := by decide +kernel
theorem dX3_seat_115 : decode cX3_seat 115 = .ok (.getfield 31, 3) := by decide +kernel
theorem dX3_seat_118 : decode cX3_seat 118 = .ok (.iconst 1, 1) := by decide +kernel
theorem dX3_seat_119 : decode cX3_seat 119 = .ok (.iadd, 1) := by decide +kernel
theorem dX3_seat_120 : decode cX3_seat 120 = .ok (.putfield 31, 3) := by decide +kernel
theorem dX3_seat_123 : decode cX3_seat 123 = .ok (.aload_n 0, 1) := by decide +kernel
theorem dX3_seat_124 : decode cX3_seat 124 = .ok (.getfield 31, 3) := by decide +kernel
theorem dX3_seat_127 : decode cX3_seat 127 = .ok (.iconst 1, 1) := by decide +kernel
theorem dX3_seat_128 : decode cX3_seat 128 = .ok (.isub, 1) := by decide +kernel
theorem dX3_seat_129 : decode cX3_seat 129 = .ok (.ireturn, 1) := by decide +kernel
theorem dX3_wantOfAll_0 : decode cX3_wantOfAll 0 = .ok (.iconst 0, 1) := by decide +kernel
theorem dX3_wantOfAll_1 : decode cX3_wantOfAll 1 = .ok (.istore_n 1, 1) := by decide +kernel
theorem dX3_wantOfAll_2 : decode cX3_wantOfAll 2 = .ok (.iconst 0, 1) := by decide +kernel
theorem dX3_wantOfAll_3 : decode cX3_wantOfAll 3 = .ok (.istore_n 2, 1) := by decide +kernel
theorem dX3_wantOfAll_4 : decode cX3_wantOfAll 4 = .ok (.iload_n 2, 1) := by decide +kernel
theorem dX3_wantOfAll_5 : decode cX3_wantOfAll 5 = .ok (.iconst 5, 1) := by decide +kernel
theorem dX3_wantOfAll_6 : decode cX3_wantOfAll 6 = .ok (.if_icmp .ge 26, 3) := by decide +kernel
theorem dX3_wantOfAll_9 : decode cX3_wantOfAll 9 = .ok (.iload_n 2, 1) := by decide +kernel
theorem dX3_wantOfAll_10 : decode cX3_wantOfAll 10 = .ok (.aload_n 0, 1) := by decide +kernel
theorem dX3_wantOfAll_11 : decode cX3_wantOfAll 11 = .ok (.getfield 31, 3) := by decide +kernel
theorem dX3_wantOfAll_14 : decode cX3_wantOfAll 14 = .ok (.if_icmp .ge 18, 3) := by decide +kernel
theorem dX3_wantOfAll_17 : decode cX3_wantOfAll 17 = .ok (.iload_n 1, 1) := by decide +kernel
theorem dX3_wantOfAll_18 : decode cX3_wantOfAll 18 = .ok (.aload_n 0, 1) := by decide +kernel
theorem dX3_wantOfAll_19 : decode cX3_wantOfAll 19 = .ok (.getfield 25, 3) := by decide +kernel
theorem dX3_wantOfAll_22 : decode cX3_wantOfAll 22 = .ok (.iload_n 2, 1) := by decide +kernel
theorem dX3_wantOfAll_23 : decode cX3_wantOfAll 23 = .ok (.iaload, 1) := by decide +kernel
theorem dX3_wantOfAll_24 : decode cX3_wantOfAll 24 = .ok (.iadd, 1) := by decide +kernel
theorem dX3_wantOfAll_25 : decode cX3_wantOfAll 25 = .ok (.istore_n 1, 1) := by decide +kernel
theorem dX3_wantOfAll_26 : decode cX3_wantOfAll 26 = .ok (.iinc 2 1, 3) := by decide +kernel
theorem dX3_wantOfAll_29 : decode cX3_wantOfAll 29 = .ok (.goto (-25), 3) := by decide +kernel
theorem dX3_wantOfAll_32 : decode cX3_wantOfAll 32 = .ok (.iload_n 1, 1) := by decide +kernel
theorem dX3_wantOfAll_33 : decode cX3_wantOfAll 33 = .ok (.ireturn, 1) := by decide +kernel
theorem dX3_become_0 : decode cX3_become 0 = .ok (.aload_n 1, 1) := by decide +kernel
theorem dX3_become_1 : decode cX3_become 1 = .ok (.ifnonnull 4, 3) := by decide +kernel
theorem dX3_become_4 : decode cX3_become 4 = .ok (.return_, 1) := by decide +kernel
theorem dX3_become_5 : decode cX3_become 5 = .ok (.aload_n 0, 1) := by decide +kernel
theorem dX3_become_6 : decode cX3_become 6 = .ok (.aload_n 1, 1) := by decide +kernel
theorem dX3_become_7 : decode cX3_become 7 = .ok (.getfield 9, 3) := by decide +kernel
theorem dX3_become_10 : decode cX3_become 10 = .ok (.putfield 9, 3) := by decide +kernel
theorem dX3_become_13 : decode cX3_become 13 = .ok (.aload_n 0, 1) := by decide +kernel
theorem dX3_become_14 : decode cX3_become 14 = .ok (.aload_n 1, 1) := by decide +kernel
theorem dX3_become_15 : decode cX3_become 15 = .ok (.getfield 15, 3) := by decide +kernel
theorem dX3_become_18 : decode cX3_become 18 = .ok (.putfield 15, 3) := by decide +kernel
theorem dX3_become_21 : decode cX3_become 21 = .ok (.aload_n 0, 1) := by decide +kernel
theorem dX3_become_22 : decode cX3_become 22 = .ok (.aload_n 1, 1) := by decide +kernel
theorem dX3_become_23 : decode cX3_become 23 = .ok (.getfield 38, 3) := by decide +kernel
theorem dX3_become_26 : decode cX3_become 26 = .ok (.putfield 38, 3) := by decide +kernel
theorem dX3_become_29 : decode cX3_become 29 = .ok (.aload_n 0, 1) := by decide +kernel
theorem dX3_become_30 : decode cX3_become 30 = .ok (.aload_n 1, 1) := by decide +kernel
theorem dX3_become_31 : decode cX3_become 31 = .ok (.getfield 31, 3) := by decide +kernel
theorem dX3_become_34 : decode cX3_become 34 = .ok (.putfield 31, 3) := by decide +kernel
theorem dX3_become_37 : decode cX3_become 37 = .ok (.iconst 0, 1) := by decide +kernel
theorem dX3_become_38 : decode cX3_become 38 = .ok (.istore_n 2, 1) := by decide +kernel
theorem dX3_become_39 : decode cX3_become 39 = .ok (.iload_n 2, 1) := by decide +kernel
theorem dX3_become_40 : decode cX3_become 40 = .ok (.iconst 5, 1) := by decide +kernel
theorem dX3_become_41 : decode cX3_become 41 = .ok (.if_icmp .ge 57, 3) := by decide +kernel
theorem dX3_become_44 : decode cX3_become 44 = .ok (.aload_n 0, 1) := by decide +kernel
theorem dX3_become_45 : decode cX3_become 45 = .ok (.getfield 18, 3) := by decide +kernel
theorem dX3_become_48 : decode cX3_become 48 = .ok (.iload_n 2, 1) := by decide +kernel
theorem dX3_become_49 : decode cX3_become 49 = .ok (.aload_n 1, 1) := by decide +kernel
theorem dX3_become_50 : decode cX3_become 50 = .ok (.getfield 18, 3) := by decide +kernel
theorem dX3_become_53 : decode cX3_become 53 = .ok (.iload_n 2, 1) := by decide +kernel
theorem dX3_become_54 : decode cX3_become 54 = .ok (.iaload, 1) := by decide +kernel
theorem dX3_become_55 : decode cX3_become 55 = .ok (.iastore, 1) := by decide +kernel
theorem dX3_become_56 : decode cX3_become 56 = .ok (.aload_n 0, 1) := by decide +kernel
theorem dX3_become_57 : decode cX3_become 57 = .ok (.getfield 22, 3) := by decide +kernel
theorem dX3_become_60 : decode cX3_become 60 = .ok (.iload_n 2, 1) := by decide +kernel
theorem dX3_become_61 : decode cX3_become 61 = .ok (.aload_n 1, 1) := by decide +kernel
theorem dX3_become_62 : decode cX3_become 62 = .ok (.getfield 22, 3) := by decide +kernel
theorem dX3_become_65 : decode cX3_become 65 = .ok (.iload_n 2, 1) := by decide +kernel
theorem dX3_become_66 : decode cX3_become 66 = .ok (.iaload, 1) := by decide +kernel
theorem dX3_become_67 : decode cX3_become 67 = .ok (.iastore, 1) := by decide +kernel
theorem dX3_become_68 : decode cX3_become 68 = .ok (.aload_n 0, 1) := by decide +kernel
theorem dX3_become_69 : decode cX3_become 69 = .ok (.getfield 25, 3) := by decide +kernel
theorem dX3_become_72 : decode cX3_become 72 = .ok (.iload_n 2, 1) := by decide +kernel
theorem dX3_become_73 : decode cX3_become 73 = .ok (.aload_n 1, 1) := by decide +kernel
theorem dX3_become_74 : decode cX3_become 74 = .ok (.getfield 25, 3) := by decide +kernel
theorem dX3_become_77 : decode cX3_become 77 = .ok (.iload_n 2, 1) := by decide +kernel
theorem dX3_become_78 : decode cX3_become 78 = .ok (.iaload, 1) := by decide +kernel
theorem dX3_become_79 : decode cX3_become 79 = .ok (.iastore, 1) := by decide +kernel
theorem dX3_become_80 : decode cX3_become 80 = .ok (.aload_n 0, 1) := by decide +kernel
theorem dX3_become_81 : decode cX3_become 81 = .ok (.getfield 28, 3) := by decide +kernel
theorem dX3_become_84 : decode cX3_become 84 = .ok (.iload_n 2, 1) := by decide +kernel
theorem dX3_become_85 : decode cX3_become 85 = .ok (.aload_n 1, 1) := by decide +kernel
theorem dX3_become_86 : decode cX3_become 86 = .ok (.getfield 28, 3) := by decide +kernel
theorem dX3_become_89 : decode cX3_become 89 = .ok (.iload_n 2, 1) := by decide +kernel
theorem dX3_become_90 : decode cX3_become 90 = .ok (.iaload, 1) := by decide +kernel
theorem dX3_become_91 : decode cX3_become 91 = .ok (.iastore, 1) := by decide +kernel
theorem dX3_become_92 : decode cX3_become 92 = .ok (.iinc 2 1, 3) := by decide +kernel
theorem dX3_become_95 : decode cX3_become 95 = .ok (.goto (-56), 3) := by decide +kernel
theorem dX3_become_98 : decode cX3_become 98 = .ok (.return_, 1) := by decide +kernel
theorem dX4_init_0 : decode cX4_init 0 = .ok (.aload_n 0, 1) := by decide +kernel
theorem dX4_init_1 : decode cX4_init 1 = .ok (.invokespecial 3, 3) := by decide +kernel
theorem dX4_init_4 : decode cX4_init 4 = .ok (.aload_n 0, 1) := by decide +kernel
theorem dX4_init_5 : decode cX4_init 5 = .ok (.sipush 960, 3) := by decide +kernel
theorem dX4_init_8 : decode cX4_init 8 = .ok (.newarray .int, 2) := by decide +kernel
theorem dX4_init_10 : decode cX4_init 10 = .ok (.putfield 9, 3) := by decide +kernel
theorem dX4_init_13 : decode cX4_init 13 = .ok (.aload_n 0, 1) := by decide +kernel
theorem dX4_init_14 : decode cX4_init 14 = .ok (.bipush 18, 2) := by decide +kernel
theorem dX4_init_16 : decode cX4_init 16 = .ok (.newarray .int, 2) := by decide +kernel
theorem dX4_init_18 : decode cX4_init 18 = .ok (.putfield 15, 3) := by decide +kernel
theorem dX4_init_21 : decode cX4_init 21 = .ok (.aload_n 0, 1) := by decide +kernel
theorem dX4_init_22 : decode cX4_init 22 = .ok (.bipush 6, 2) := by decide +kernel
theorem dX4_init_24 : decode cX4_init 24 = .ok (.newarray .int, 2) := by decide +kernel
theorem dX4_init_26 : decode cX4_init 26 = .ok (.putfield 18, 3) := by decide +kernel
theorem dX4_init_29 : decode cX4_init 29 = .ok (.aload_n 0, 1) := by decide +kernel
theorem dX4_init_30 : decode cX4_init 30 = .ok (.sipush 160, 3) := by decide +kernel
theorem dX4_init_33 : decode cX4_init 33 = .ok (.newarray .int, 2) := by decide +kernel
theorem dX4_init_35 : decode cX4_init 35 = .ok (.putfield 21, 3) := by decide +kernel
theorem dX4_init_38 : decode cX4_init 38 = .ok (.return_, 1) := by decide +kernel
theorem dX4_add_0 : decode cX4_add 0 = .ok (.aload_n 1, 1) := by decide +kernel
theorem dX4_add_1 : decode cX4_add 1 = .ok (.ifnull 19, 3) := by decide +kernel
theorem dX4_add_4 : decode cX4_add 4 = .ok (.aload_n 0, 1) := by decide +kernel
theorem dX4_add_5 : decode cX4_add 5 = .ok (.getfield 24, 3) := by decide +kernel
theorem dX4_add_8 : decode cX4_add 8 = .ok (.ifCond .lt 12, 3) := by decide +kernel
theorem dX4_add_11 : decode cX4_add 11 = .ok (.aload_n 0, 1) := by decide +kernel
theorem dX4_add_12 : decode cX4_add 12 = .ok (.getfield 24, 3) := by decide +kernel
theorem dX4_add_15 : decode cX4_add 15 = .ok (.bipush 6, 2) := by decide +kernel
theorem dX4_add_17 : decode cX4_add 17 = .ok (.if_icmp .lt 6, 3) := by decide +kernel
theorem dX4_add_20 : decode cX4_add 20 = .ok (.bipush (-4), 2) := by decide +kernel
theorem dX4_add_22 : decode cX4_add 22 = .ok (.ireturn, 1) := by decide +kernel
theorem dX4_add_23 : decode cX4_add 23 = .ok (.iconst 0, 1) := by decide +kernel
theorem dX4_add_24 : decode cX4_add 24 = .ok (.istore_n 2, 1) := by decide +kernel
theorem dX4_add_25 : decode cX4_add 25 = .ok (.iload_n 2, 1) := by decide +kernel
theorem dX4_add_26 : decode cX4_add 26 = .ok (.sipush 160, 3) := by decide +kernel
theorem dX4_add_29 : decode cX4_add 29 = .ok (.if_icmp .ge 30, 3) := by decide +kernel
theorem dX4_add_32 : decode cX4_add 32 = .ok (.aload_n 0, 1) := by decide +kernel
theorem dX4_add_33 : decode cX4_add 33 = .ok (.getfield 9, 3) := by decide +kernel
theorem dX4_add_36 : decode cX4_add 36 = .ok (.aload_n 0, 1) := by decide +kernel
theorem dX4_add_37 : decode cX4_add 37 = .ok (.getfield 24, 3) := by decide +kernel
theorem dX4_add_40 : decode cX4_add 40 = .ok (.sipush 160, 3) := by decide +kernel
theorem dX4_add_43 : decode cX4_add 43 = .ok (.imul, 1) := by decide +kernel
theorem dX4_add_44 : decode cX4_add 44 = .ok (.iload_n 2, 1) := by decide +kernel
theorem dX4_add_45 : decode cX4_add 45 = .ok (.iadd, 1) := by decide +kernel
theorem dX4_add_46 : decode cX4_add 46 = .ok (.aload_n 1, 1) := by decide +kernel
theorem dX4_add_47 : decode cX4_add 47 = .ok (.getfield 28, 3) := by decide +kernel
theorem dX4_add_50 : decode cX4_add 50 = .ok (.iload_n 2, 1) := by decide +kernel
theorem dX4_add_51 : decode cX4_add 51 = .ok (.iaload, 1) := by decide +kernel
theorem dX4_add_52 : decode cX4_add 52 = .ok (.iastore, 1) := by decide +kernel
theorem dX4_add_53 : decode cX4_add 53 = .ok (.iinc 2 1, 3) := by decide +kernel
theorem dX4_add_56 : decode cX4_add 56 = .ok (.goto (-31), 3) := by decide +kernel
theorem dX4_add_59 : decode cX4_add 59 = .ok (.iconst 0, 1) := by decide +kernel
theorem dX4_add_60 : decode cX4_add 60 = .ok (.istore_n 2, 1) := by decide +kernel
theorem dX4_add_61 : decode cX4_add 61 = .ok (.iload_n 2, 1) := by decide +kernel
theorem dX4_add_62 : decode cX4_add 62 = .ok (.iconst 3, 1) := by decide +kernel
theorem dX4_add_63 : decode cX4_add 63 = .ok (.if_icmp .ge 28, 3) := by decide +kernel
theorem dX4_add_66 : decode cX4_add 66 = .ok (.aload_n 0, 1) := by decide +kernel
theorem dX4_add_67 : decode cX4_add 67 = .ok (.getfield 15, 3) := by decide +kernel
theorem dX4_add_70 : decode cX4_add 70 = .ok (.aload_n 0, 1) := by decide +kernel
theorem dX4_add_71 : decode cX4_add 71 = .ok (.getfield 24, 3) := by decide +kernel
theorem dX4_add_74 : decode cX4_add 74 = .ok (.iconst 3, 1) := by decide +kernel
theorem dX4_add_75 : decode cX4_add 75 = .ok (.imul, 1) := by decide +kernel
theorem dX4_add_76 : decode cX4_add 76 = .ok (.iload_n 2, 1) := by decide +kernel
theorem dX4_add_77 : decode cX4_add 77 = .ok (.iadd, 1) := by decide +kernel
theorem dX4_add_78 : decode cX4_add 78 = .ok (.aload_n 1, 1) := by decide +kernel
theorem dX4_add_79 : decode cX4_add 79 = .ok (.getfield 33, 3) := by decide +kernel
theorem dX4_add_82 : decode cX4_add 82 = .ok (.iload_n 2, 1) := by decide +kernel
theorem dX4_add_83 : decode cX4_add 83 = .ok (.iaload, 1) := by decide +kernel
theorem dX4_add_84 : decode cX4_add 84 = .ok (.iastore, 1) := by decide +kernel
theorem dX4_add_85 : decode cX4_add 85 = .ok (.iinc 2 1, 3) := by decide +kernel
theorem dX4_add_88 : decode cX4_add 88 = .ok (.goto (-27), 3) := by decide +kernel
theorem dX4_add_91 : decode cX4_add 91 = .ok (.aload_n 0, 1) := by decide +kernel
theorem dX4_add_92 : decode cX4_add 92 = .ok (.dup, 1) := by decide +kernel
theorem dX4_add_93 : decode cX4_add 93 = .ok (.getfield 24, 3) := by decide +kernel
theorem dX4_add_96 : decode cX4_add 96 = .ok (.iconst 1, 1) := by decide +kernel
theorem dX4_add_97 : decode cX4_add 97 = .ok (.iadd, 1) := by decide +kernel
theorem dX4_add_98 : decode cX4_add 98 = .ok (.putfield 24, 3) := by decide +kernel
theorem dX4_add_101 : decode cX4_add 101 = .ok (.aload_n 0, 1) := by decide +kernel
theorem dX4_add_102 : decode cX4_add 102 = .ok (.getfield 24, 3) := by decide +kernel
theorem dX4_add_105 : decode cX4_add 105 = .ok (.iconst 1, 1) := by decide +kernel
theorem dX4_add_106 : decode cX4_add 106 = .ok (.isub, 1) := by decide +kernel
theorem dX4_add_107 : decode cX4_add 107 = .ok (.ireturn, 1) := by decide +kernel
theorem dX4_name_0 : decode cX4_name 0 = .ok (.aload_n 0, 1) := by decide +kernel
theorem dX4_name_1 : decode cX4_name 1 = .ok (.getfield 18, 3) := by decide +kernel
theorem dX4_name_4 : decode cX4_name 4 = .ok (.iconst 0, 1) := by decide +kernel
theorem dX4_name_5 : decode cX4_name 5 = .ok (.iload_n 1, 1) := by decide +kernel
theorem dX4_name_6 : decode cX4_name 6 = .ok (.iastore, 1) := by decide +kernel
theorem dX4_name_7 : decode cX4_name 7 = .ok (.aload_n 0, 1) := by decide +kernel
theorem dX4_name_8 : decode cX4_name 8 = .ok (.getfield 18, 3) := by decide +kernel
theorem dX4_name_11 : decode cX4_name 11 = .ok (.iconst 1, 1) := by decide +kernel
theorem dX4_name_12 : decode cX4_name 12 = .ok (.iload_n 2, 1) := by decide +kernel
theorem dX4_name_13 : decode cX4_name 13 = .ok (.iastore, 1) := by decide +kernel
theorem dX4_name_14 : decode cX4_name 14 = .ok (.aload_n 0, 1) := by decide +kernel
theorem dX4_name_15 : decode cX4_name 15 = .ok (.getfield 18, 3) := by decide +kernel
theorem dX4_name_18 : decode cX4_name 18 = .ok (.iconst 2, 1) := by decide +kernel
theorem dX4_name_19 : decode cX4_name 19 = .ok (.iload_n 3, 1) := by decide +kernel
theorem dX4_name_20 : decode cX4_name 20 = .ok (.iastore, 1) := by decide +kernel
theorem dX4_name_21 : decode cX4_name 21 = .ok (.aload_n 0, 1) := by decide +kernel
theorem dX4_name_22 : decode cX4_name 22 = .ok (.getfield 18, 3) := by decide +kernel
theorem dX4_name_25 : decode cX4_name 25 = .ok (.iconst 3, 1) := by decide +kernel
theorem dX4_name_26 : decode cX4_name 26 = .ok (.iload 4, 2) := by decide +kernel
theorem dX4_name_28 : decode cX4_name 28 = .ok (.iastore, 1) := by decide +kernel
theorem dX4_name_29 : decode cX4_name 29 = .ok (.aload_n 0, 1) := by decide +kernel
theorem dX4_name_30 : decode cX4_name 30 = .ok (.getfield 18, 3) := by decide +kernel
theorem dX4_name_33 : decode cX4_name 33 = .ok (.iconst 4, 1) := by decide +kernel
theorem dX4_name_34 : decode cX4_name 34 = .ok (.iload 5, 2) := by decide +kernel
theorem dX4_name_36 : decode cX4_name 36 = .ok (.iastore, 1) := by decide +kernel
theorem dX4_name_37 : decode cX4_name 37 = .ok (.aload_n 0, 1) := by decide +kernel
theorem dX4_name_38 : decode cX4_name 38 = .ok (.getfield 18, 3) := by decide +kernel
theorem dX4_name_41 : decode cX4_name 41 = .ok (.iconst 5, 1) := by decide +kernel
theorem dX4_name_42 : decode cX4_name 42 = .ok (.iload 6, 2) := by decide +kernel
theorem dX4_name_44 : decode cX4_name 44 = .ok (.iastore, 1) := by decide +kernel
theorem dX4_name_45 : decode cX4_name 45 = .ok (.return_, 1) := by decide +kernel
theorem dX4_valueOf_0 : decode cX4_valueOf 0 = .ok (.iload_n 1, 1) := by decide +kernel
theorem dX4_valueOf_1 : decode cX4_valueOf 1 = .ok (.ifCond .lt 18, 3) := by decide +kernel
theorem dX4_valueOf_4 : decode cX4_valueOf 4 = .ok (.iload_n 1, 1) := by decide +kernel
theorem dX4_valueOf_5 : decode cX4_valueOf 5 = .ok (.bipush 6, 2) := by decide +kernel
theorem dX4_valueOf_7 : decode cX4_valueOf 7 = .ok (.if_icmp .ge 12, 3) := by decide +kernel
theorem dX4_valueOf_10 : decode cX4_valueOf 10 = .ok (.iload_n 2, 1) := by decide +kernel
theorem dX4_valueOf_11 : decode cX4_valueOf 11 = .ok (.ifCond .lt 8, 3) := by decide +kernel
theorem dX4_valueOf_14 : decode cX4_valueOf 14 = .ok (.iload_n 2, 1) := by decide +kernel
theorem dX4_valueOf_15 : decode cX4_valueOf 15 = .ok (.iconst 3, 1) := by decide +kernel
theorem dX4_valueOf_16 : decode cX4_valueOf 16 = .ok (.if_icmp .lt 5, 3) := by decide +kernel
theorem dX4_valueOf_19 : decode cX4_valueOf 19 = .ok (.iconst 0, 1) := by decide +kernel
theorem dX4_valueOf_20 : decode cX4_valueOf 20 = .ok (.ireturn, 1) := by decide +kernel
theorem dX4_valueOf_21 : decode cX4_valueOf 21 = .ok (.iload_n 2, 1) := by decide +kernel
theorem dX4_valueOf_22 : decode cX4_valueOf 22 = .ok (.ifCond .ne 7, 3) := by decide +kernel
theorem dX4_valueOf_25 : decode cX4_valueOf 25 = .ok (.iconst 0, 1) := by decide +kernel
theorem dX4_valueOf_26 : decode cX4_valueOf 26 = .ok (.goto 15, 3) := by decide +kernel
theorem dX4_valueOf_29 : decode cX4_valueOf 29 = .ok (.aload_n 0, 1) := by decide +kernel
theorem dX4_valueOf_30 : decode cX4_valueOf 30 = .ok (.getfield 15, 3) := by decide +kernel
theorem dX4_valueOf_33 : decode cX4_valueOf 33 = .ok (.iload_n 1, 1) := by decide +kernel
theorem dX4_valueOf_34 : decode cX4_valueOf 34 = .ok (.iconst 3, 1) := by decide +kernel
theorem dX4_valueOf_35 : decode cX4_valueOf 35 = .ok (.imul, 1) := by decide +kernel
theorem dX4_valueOf_36 : decode cX4_valueOf 36 = .ok (.iload_n 2, 1) := by decide +kernel
theorem dX4_valueOf_37 : decode cX4_valueOf 37 = .ok (.iadd, 1) := by decide +kernel
theorem dX4_valueOf_38 : decode cX4_valueOf 38 = .ok (.iconst 1, 1) := by decide +kernel
theorem dX4_valueOf_39 : decode cX4_valueOf 39 = .ok (.isub, 1) := by decide +kernel
theorem dX4_valueOf_40 : decode cX4_valueOf 40 = .ok (.iaload, 1) := by decide +kernel
theorem dX4_valueOf_41 : decode cX4_valueOf 41 = .ok (.istore_n 3, 1) := by decide +kernel
theorem dX4_valueOf_42 : decode cX4_valueOf 42 = .ok (.aload_n 0, 1) := by decide +kernel
theorem dX4_valueOf_43 : decode cX4_valueOf 43 = .ok (.getfield 15, 3) := by decide +kernel
theorem dX4_valueOf_46 : decode cX4_valueOf 46 = .ok (.iload_n 1, 1) := by decide +kernel
theorem dX4_valueOf_47 : decode cX4_valueOf 47 = .ok (.iconst 3, 1) := by decide +kernel
theorem dX4_valueOf_48 : decode cX4_valueOf 48 = .ok (.imul, 1) := by decide +kernel
theorem dX4_valueOf_49 : decode cX4_valueOf 49 = .ok (.iload_n 2, 1) := by decide +kernel
theorem dX4_valueOf_50 : decode cX4_valueOf 50 = .ok (.iadd, 1) := by decide +kernel
theorem dX4_valueOf_51 : decode cX4_valueOf 51 = .ok (.iaload, 1) := by decide +kernel
theorem dX4_valueOf_52 : decode cX4_valueOf 52 = .ok (.istore 4, 2) := by decide +kernel
theorem dX4_valueOf_54 : decode cX4_valueOf 54 = .ok (.iconst 0, 1) := by decide +kernel
theorem dX4_valueOf_55 : decode cX4_valueOf 55 = .ok (.istore 5, 2) := by decide +kernel
theorem dX4_valueOf_57 : decode cX4_valueOf 57 = .ok (.iconst 0, 1) := by decide +kernel
theorem dX4_valueOf_58 : decode cX4_valueOf 58 = .ok (.iload_n 3, 1) := by decide +kernel
theorem dX4_valueOf_59 : decode cX4_valueOf 59 = .ok (.invokestatic 34, 3) := by decide +kernel
theorem dX4_valueOf_62 : decode cX4_valueOf 62 = .ok (.istore 6, 2) := by decide +kernel
theorem dX4_valueOf_64 : decode cX4_valueOf 64 = .ok (.iload 6, 2) := by decide +kernel
theorem dX4_valueOf_66 : decode cX4_valueOf 66 = .ok (.iload 4, 2) := by decide +kernel
theorem dX4_valueOf_68 : decode cX4_valueOf 68 = .ok (.if_icmp .ge 157, 3) := by decide +kernel
theorem dX4_valueOf_71 : decode cX4_valueOf 71 = .ok (.iload 6, 2) := by decide +kernel
theorem dX4_valueOf_73 : decode cX4_valueOf 73 = .ok (.sipush 160, 3) := by decide +kernel
theorem dX4_valueOf_76 : decode cX4_valueOf 76 = .ok (.if_icmp .ge 149, 3) := by decide +kernel
theorem dX4_valueOf_79 : decode cX4_valueOf 79 = .ok (.iload 5, 2) := by decide +kernel
theorem dX4_valueOf_81 : decode cX4_valueOf 81 = .ok (.sipush 160, 3) := by decide +kernel
theorem dX4_valueOf_84 : decode cX4_valueOf 84 = .ok (.if_icmp .ge 141, 3) := by decide +kernel
theorem dX4_valueOf_87 : decode cX4_valueOf 87 = .ok (.aload_n 0, 1) := by decide +kernel
theorem dX4_valueOf_88 : decode cX4_valueOf 88 = .ok (.getfield 9, 3) := by decide +kernel
theorem dX4_valueOf_91 : decode cX4_valueOf 91 = .ok (.iload_n 1, 1) := by decide +kernel
theorem dX4_valueOf_92 : decode cX4_valueOf 92 = .ok (.sipush 160, 3) := by decide +kernel
theorem dX4_valueOf_95 : decode cX4_valueOf 95 = .ok (.imul, 1) := by decide +kernel
theorem dX4_valueOf_96 : decode cX4_valueOf 96 = .ok (.iload 6, 2) := by decide +kernel
theorem dX4_valueOf_98 : decode cX4_valueOf 98 = .ok (.iadd, 1) := by decide +kernel
theorem dX4_valueOf_99 : decode cX4_valueOf 99 = .ok (.iaload, 1) := by decide +kernel
theorem dX4_valueOf_100 : decode cX4_valueOf 100 = .ok (.istore 7, 2) := by decide +kernel
theorem dX4_valueOf_102 : decode cX4_valueOf 102 = .ok (.iload 7, 2) := by decide +kernel
theorem dX4_valueOf_104 : decode cX4_valueOf 104 = .ok (.sipush 20000, 3) := by decide +kernel
theorem dX4_valueOf_107 : decode cX4_valueOf 107 = .ok (.if_icmp .ge 22, 3) := by decide +kernel
theorem dX4_valueOf_110 : decode cX4_valueOf 110 = .ok (.aload_n 0, 1) := by decide +kernel
theorem dX4_valueOf_111 : decode cX4_valueOf 111 = .ok (.getfield 21, 3) := by decide +kernel
theorem dX4_valueOf_114 : decode cX4_valueOf 114 = .ok (.iload 5, 2) := by decide +kernel
theorem dX4_valueOf_116 : decode cX4_valueOf 116 = .ok (.aload_n 0, 1) := by decide +kernel
theorem dX4_valueOf_117 : decode cX4_valueOf 117 = .ok (.iload 7, 2) := by decide +kernel
theorem dX4_valueOf_119 : decode cX4_valueOf 119 = .ok (.invokevirtual 40, 3) := by decide +kernel
theorem dX4_valueOf_122 : decode cX4_valueOf 122 = .ok (.iastore, 1) := by decide +kernel
theorem dX4_valueOf_123 : decode cX4_valueOf 123 = .ok (.iinc 5 1, 3) := by decide +kernel
theorem dX4_valueOf_126 : decode cX4_valueOf 126 = .ok (.goto 93, 3) := by decide +kernel
theorem dX4_valueOf_129 : decode cX4_valueOf 129 = .ok (.iload 7, 2) := by decide +kernel
theorem dX4_valueOf_131 : decode cX4_valueOf 131 = .ok (.sipush 20000, 3) := by decide +kernel
theorem dX4_valueOf_134 : decode cX4_valueOf 134 = .ok (.if_icmp .eq 11, 3) := by decide +kernel
theorem dX4_valueOf_137 : decode cX4_valueOf 137 = .ok (.iload 7, 2) := by decide +kernel
theorem dX4_valueOf_139 : decode cX4_valueOf 139 = .ok (.sipush 20105, 3) := by decide +kernel
theorem dX4_valueOf_142 : decode cX4_valueOf 142 = .ok (.if_icmp .ne 34, 3) := by decide +kernel
theorem dX4_valueOf_145 : decode cX4_valueOf 145 = .ok (.iload 5, 2) := by decide +kernel
theorem dX4_valueOf_147 : decode cX4_valueOf 147 = .ok (.ifCond .le 72, 3) := by decide +kernel
theorem dX4_valueOf_150 : decode cX4_valueOf 150 = .ok (.aload_n 0, 1) := by decide +kernel
theorem dX4_valueOf_151 : decode cX4_valueOf 151 = .ok (.getfield 21, 3) := by decide +kernel
theorem dX4_valueOf_154 : decode cX4_valueOf 154 = .ok (.iload 5, 2) := by decide +kernel
theorem dX4_valueOf_156 : decode cX4_valueOf 156 = .ok (.iconst 1, 1) := by decide +kernel
theorem dX4_valueOf_157 : decode cX4_valueOf 157 = .ok (.isub, 1) := by decide +kernel
theorem dX4_valueOf_158 : decode cX4_valueOf 158 = .ok (.iload 7, 2) := by decide +kernel
theorem dX4_valueOf_160 : decode cX4_valueOf 160 = .ok (.aload_n 0, 1) := by decide +kernel
theorem dX4_valueOf_161 : decode cX4_valueOf 161 = .ok (.getfield 21, 3) := by decide +kernel
theorem dX4_valueOf_164 : decode cX4_valueOf 164 = .ok (.iload 5, 2) := by decide +kernel
theorem dX4_valueOf_166 : decode cX4_valueOf 166 = .ok (.iconst 1, 1) := by decide +kernel
theorem dX4_valueOf_167 : decode cX4_valueOf 167 = .ok (.isub, 1) := by decide +kernel
theorem dX4_valueOf_168 : decode cX4_valueOf 168 = .ok (.iaload, 1) := by decide +kernel
theorem dX4_valueOf_169 : decode cX4_valueOf 169 = .ok (.invokestatic 44, 3) := by decide +kernel
theorem dX4_valueOf_172 : decode cX4_valueOf 172 = .ok (.iastore, 1) := by decide +kernel
theorem dX4_valueOf_173 : decode cX4_valueOf 173 = .ok (.goto 46, 3) := by decide +kernel
theorem dX4_valueOf_176 : decode cX4_valueOf 176 = .ok (.iload 5, 2) := by decide +kernel
theorem dX4_valueOf_178 : decode cX4_valueOf 178 = .ok (.iconst 1, 1) := by decide +kernel
theorem dX4_valueOf_179 : decode cX4_valueOf 179 = .ok (.if_icmp .le 40, 3) := by decide +kernel
theorem dX4_valueOf_182 : decode cX4_valueOf 182 = .ok (.iinc 5 (-1), 3) := by decide +kernel
theorem dX4_valueOf_185 : decode cX4_valueOf 185 = .ok (.aload_n 0, 1) := by decide +kernel
theorem dX4_valueOf_186 : decode cX4_valueOf 186 = .ok (.getfield 21, 3) := by decide +kernel
theorem dX4_valueOf_189 : decode cX4_valueOf 189 = .ok (.iload 5, 2) := by decide +kernel
theorem dX4_valueOf_191 : decode cX4_valueOf 191 = .ok (.iconst 1, 1) := by decide +kernel
theorem dX4_valueOf_192 : decode cX4_valueOf 192 = .ok (.isub, 1) := by decide +kernel
theorem dX4_valueOf_193 : decode cX4_valueOf 193 = .ok (.iload 7, 2) := by decide +kernel
theorem dX4_valueOf_195 : decode cX4_valueOf 195 = .ok (.sipush 20000, 3) := by decide +kernel
theorem dX4_valueOf_198 : decode cX4_valueOf 198 = .ok (.isub, 1) := by decide +kernel
theorem dX4_valueOf_199 : decode cX4_valueOf 199 = .ok (.aload_n 0, 1) := by decide +kernel
theorem dX4_valueOf_200 : decode cX4_valueOf 200 = .ok (.getfield 21, 3) := by decide +kernel
theorem dX4_valueOf_203 : decode cX4_valueOf 203 = .ok (.iload 5, 2) := by decide +kernel
theorem dX4_valueOf_205 : decode cX4_valueOf 205 = .ok (.iconst 1, 1) := by decide +kernel
theorem dX4_valueOf_206 : decode cX4_valueOf 206 = .ok (.isub, 1) := by decide +kernel
theorem dX4_valueOf_207 : decode cX4_valueOf 207 = .ok (.iaload, 1) := by decide +kernel
theorem dX4_valueOf_208 : decode cX4_valueOf 208 = .ok (.aload_n 0, 1) := by decide +kernel
theorem dX4_valueOf_209 : decode cX4_valueOf 209 = .ok (.getfield 21, 3) := by decide +kernel
theorem dX4_valueOf_212 : decode cX4_valueOf 212 = .ok (.iload 5, 2) := by decide +kernel
theorem dX4_valueOf_214 : decode cX4_valueOf 214 = .ok (.iaload, 1) := by decide +kernel
theorem dX4_valueOf_215 : decode cX4_valueOf 215 = .ok (.invokestatic 47, 3) := by decide +kernel
theorem dX4_valueOf_218 : decode cX4_valueOf 218 = .ok (.iastore, 1) := by decide +kernel
theorem dX4_valueOf_219 : decode cX4_valueOf 219 = .ok (.iinc 6 1, 3) := by decide +kernel
theorem dX4_valueOf_222 : decode cX4_valueOf 222 = .ok (.goto (-158), 3) := by decide +kernel
theorem dX4_valueOf_225 : decode cX4_valueOf 225 = .ok (.iload 5, 2) := by decide +kernel
theorem dX4_valueOf_227 : decode cX4_valueOf 227 = .ok (.ifCond .le 12, 3) := by decide +kernel
theorem dX4_valueOf_230 : decode cX4_valueOf 230 = .ok (.aload_n 0, 1) := by decide +kernel
theorem dX4_valueOf_231 : decode cX4_valueOf 231 = .ok (.getfield 21, 3) := by decide +kernel
theorem dX4_valueOf_234 : decode cX4_valueOf 234 = .ok (.iconst 0, 1) := by decide +kernel
theorem dX4_valueOf_235 : decode cX4_valueOf 235 = .ok (.iaload, 1) := by decide +kernel
theorem dX4_valueOf_236 : decode cX4_valueOf 236 = .ok (.goto 4, 3) := by decide +kernel
theorem dX4_valueOf_239 : decode cX4_valueOf 239 = .ok (.iconst 0, 1) := by decide +kernel
theorem dX4_valueOf_240 : decode cX4_valueOf 240 = .ok (.ireturn, 1) := by decide +kernel
theorem dX4_operand_0 : decode cX4_operand 0 = .ok (.iload_n 1, 1) := by decide +kernel
theorem dX4_operand_1 : decode cX4_operand 1 = .ok (.sipush 10000, 3) := by decide +kernel
theorem dX4_operand_4 : decode cX4_operand 4 = .ok (.isub, 1) := by decide +kernel
theorem dX4_operand_5 : decode cX4_operand 5 = .ok (.istore_n 2, 1) := by decide +kernel
theorem dX4_operand_6 : decode cX4_operand 6 = .ok (.iload_n 2, 1) := by decide +kernel
theorem dX4_operand_7 : decode cX4_operand 7 = .ok (.ifCond .ge 5, 3) := by decide +kernel
theorem dX4_operand_10 : decode cX4_operand 10 = .ok (.iload_n 1, 1) := by decide +kernel
theorem dX4_operand_11 : decode cX4_operand 11 = .ok (.ireturn, 1) := by decide +kernel
theorem dX4_operand_12 : decode cX4_operand 12 = .ok (.iload_n 2, 1) := by decide +kernel
theorem dX4_operand_13 : decode cX4_operand 13 = .ok (.bipush 6, 2) := by decide +kernel
theorem dX4_operand_15 : decode cX4_operand 15 = .ok (.if_icmp .ge 12, 3) := by decide +kernel
theorem dX4_operand_18 : decode cX4_operand 18 = .ok (.aload_n 0, 1) := by decide +kernel
theorem dX4_operand_19 : decode cX4_operand 19 = .ok (.getfield 18, 3) := by decide +kernel
theorem dX4_operand_22 : decode cX4_operand 22 = .ok (.iload_n 2, 1) := by decide +kernel
theorem dX4_operand_23 : decode cX4_operand 23 = .ok (.iaload, 1) := by decide +kernel
theorem dX4_operand_24 : decode cX4_operand 24 = .ok (.goto 4, 3) := by decide +kernel
theorem dX4_operand_27 : decode cX4_operand 27 = .ok (.iconst 0, 1) := by decide +kernel
theorem dX4_operand_28 : decode cX4_operand 28 = .ok (.ireturn, 1) := by decide +kernel
theorem dX4_turned_0 : decode cX4_turned 0 = .ok (.iload_n 0, 1) := by decide +kernel
theorem dX4_turned_1 : decode cX4_turned 1 = .ok (.sipush 20000, 3) := by decide +kernel
theorem dX4_turned_4 : decode cX4_turned 4 = .ok (.if_icmp .ne 6, 3) := by decide +kernel
theorem dX4_turned_7 : decode cX4_turned 7 = .ok (.iload_n 1, 1) := by decide +kernel
theorem dX4_turned_8 : decode cX4_turned 8 = .ok (.ineg, 1) := by decide +kernel
theorem dX4_turned_9 : decode cX4_turned 9 = .ok (.ireturn, 1) := by decide +kernel
theorem dX4_turned_10 : decode cX4_turned 10 = .ok (.iload_n 1, 1) := by decide +kernel
theorem dX4_turned_11 : decode cX4_turned 11 = .ok (.ifCond .ne 7, 3) := by decide +kernel
theorem dX4_turned_14 : decode cX4_turned 14 = .ok (.iconst 1, 1) := by decide +kernel
theorem dX4_turned_15 : decode cX4_turned 15 = .ok (.goto 4, 3) := by decide +kernel
theorem dX4_turned_18 : decode cX4_turned 18 = .ok (.iconst 0, 1) := by decide +kernel
theorem dX4_turned_19 : decode cX4_turned 19 = .ok (.ireturn, 1) := by decide +kernel
theorem dX4_joined_0 : decode cX4_joined 0 = .ok (.iload_n 0, 1) := by decide +kernel
theorem dX4_joined_1 : decode cX4_joined 1 = .ok (.lookupswitch 117 #[(43, 109), (45, 113), (60, 87), (61, 98), (103, 59), (104, 73)], 59) := by decide +kernel
theorem dX4_joined_60 : decode cX4_joined 60 = .ok (.iload_n 1, 1) := by decide +kernel
theorem dX4_joined_61 : decode cX4_joined 61 = .ok (.ifCond .ne 7, 3) := by decide +kernel
theorem dX4_joined_64 : decode cX4_joined 64 = .ok (.iload_n 2, 1) := by decide +kernel
theorem dX4_joined_65 : decode cX4_joined 65 = .ok (.ifCond .eq 7, 3) := by decide +kernel
theorem dX4_joined_68 : decode cX4_joined 68 = .ok (.iconst 1, 1) := by decide +kernel
theorem dX4_joined_69 : decode cX4_joined 69 = .ok (.goto 4, 3) := by decide +kernel
theorem dX4_joined_72 : decode cX4_joined 72 = .ok (.iconst 0, 1) := by decide +kernel
theorem dX4_joined_73 : decode cX4_joined 73 = .ok (.ireturn, 1) := by decide +kernel
theorem dX4_joined_74 : decode cX4_joined 74 = .ok (.iload_n 1, 1) := by decide +kernel
theorem dX4_joined_75 : decode cX4_joined 75 = .ok (.ifCond .eq 11, 3) := by decide +kernel
theorem dX4_joined_78 : decode cX4_joined 78 = .ok (.iload_n 2, 1) := by decide +kernel
theorem dX4_joined_79 : decode cX4_joined 79 = .ok (.ifCond .eq 7, 3) := by decide +kernel
theorem dX4_joined_82 : decode cX4_joined 82 = .ok (.iconst 1, 1) := by decide +kernel
theorem dX4_joined_83 : decode cX4_joined 83 = .ok (.goto 4, 3) := by decide +kernel
theorem dX4_joined_86 : decode cX4_joined 86 = .ok (.iconst 0, 1) := by decide +kernel
theorem dX4_joined_87 : decode cX4_joined 87 = .ok (.ireturn, 1) := by decide +kernel
theorem dX4_joined_88 : decode cX4_joined 88 = .ok (.iload_n 1, 1) := by decide +kernel
theorem dX4_joined_89 : decode cX4_joined 89 = .ok (.iload_n 2, 1) := by decide +kernel
theorem dX4_joined_90 : decode cX4_joined 90 = .ok (.if_icmp .ge 7, 3) := by decide +kernel
theorem dX4_joined_93 : decode cX4_joined 93 = .ok (.iconst 1, 1) := by decide +kernel
theorem dX4_joined_94 : decode cX4_joined 94 = .ok (.goto 4, 3) := by decide +kernel
theorem dX4_joined_97 : decode cX4_joined 97 = .ok (.iconst 0, 1) := by decide +kernel
theorem dX4_joined_98 : decode cX4_joined 98 = .ok (.ireturn, 1) := by decide +kernel
theorem dX4_joined_99 : decode cX4_joined 99 = .ok (.iload_n 1, 1) := by decide +kernel
theorem dX4_joined_100 : decode cX4_joined 100 = .ok (.iload_n 2, 1) := by decide +kernel
theorem dX4_joined_101 : decode cX4_joined 101 = .ok (.if_icmp .ne 7, 3) := by decide +kernel
theorem dX4_joined_104 : decode cX4_joined 104 = .ok (.iconst 1, 1) := by decide +kernel
theorem dX4_joined_105 : decode cX4_joined 105 = .ok (.goto 4, 3) := by decide +kernel
theorem dX4_joined_108 : decode cX4_joined 108 = .ok (.iconst 0, 1) := by decide +kernel
theorem dX4_joined_109 : decode cX4_joined 109 = .ok (.ireturn, 1) := by decide +kernel
theorem dX4_joined_110 : decode cX4_joined 110 = .ok (.iload_n 1, 1) := by decide +kernel
theorem dX4_joined_111 : decode cX4_joined 111 = .ok (.iload_n 2, 1) := by decide +kernel
theorem dX4_joined_112 : decode cX4_joined 112 = .ok (.iadd, 1) := by decide +kernel
theorem dX4_joined_113 : decode cX4_joined 113 = .ok (.ireturn, 1) := by decide +kernel
theorem dX4_joined_114 : decode cX4_joined 114 = .ok (.iload_n 1, 1) := by decide +kernel
theorem dX4_joined_115 : decode cX4_joined 115 = .ok (.iload_n 2, 1) := by decide +kernel
theorem dX4_joined_116 : decode cX4_joined 116 = .ok (.isub, 1) := by decide +kernel
theorem dX4_joined_117 : decode cX4_joined 117 = .ok (.ireturn, 1) := by decide +kernel
theorem dX4_joined_118 : decode cX4_joined 118 = .ok (.iload_n 1, 1) := by decide +kernel
theorem dX4_joined_119 : decode cX4_joined 119 = .ok (.iload_n 2, 1) := by decide +kernel
theorem dX4_joined_120 : decode cX4_joined 120 = .ok (.imul, 1) := by decide +kernel
theorem dX4_joined_121 : decode cX4_joined 121 = .ok (.ireturn, 1) := by decide +kernel
theorem dJ9_max_7cf53_0 : decode cJ9_max_7cf53 0 = .ok (.iload_n 0, 1) := by decide +kernel
theorem dJ9_max_7cf53_1 : decode cJ9_max_7cf53 1 = .ok (.iload_n 1, 1) := by decide +kernel
theorem dJ9_max_7cf53_2 : decode cJ9_max_7cf53 2 = .ok (.if_icmp .lt 7, 3) := by decide +kernel
theorem dJ9_max_7cf53_5 : decode cJ9_max_7cf53 5 = .ok (.iload_n 0, 1) := by decide +kernel
theorem dJ9_max_7cf53_6 : decode cJ9_max_7cf53 6 = .ok (.goto 4, 3) := by decide +kernel
theorem dJ9_max_7cf53_9 : decode cJ9_max_7cf53 9 = .ok (.iload_n 1, 1) := by decide +kernel
theorem dJ9_max_7cf53_10 : decode cJ9_max_7cf53 10 = .ok (.ireturn, 1) := by decide +kernel
theorem dJ9_min_7cf53_0 : decode cJ9_min_7cf53 0 = .ok (.iload_n 0, 1) := by decide +kernel
theorem dJ9_min_7cf53_1 : decode cJ9_min_7cf53 1 = .ok (.iload_n 1, 1) := by decide +kernel
theorem dJ9_min_7cf53_2 : decode cJ9_min_7cf53 2 = .ok (.if_icmp .gt 7, 3) := by decide +kernel
theorem dJ9_min_7cf53_5 : decode cJ9_min_7cf53 5 = .ok (.iload_n 0, 1) := by decide +kernel
theorem dJ9_min_7cf53_6 : decode cJ9_min_7cf53 6 = .ok (.goto 4, 3) := by decide +kernel
theorem dJ9_min_7cf53_9 : decode cJ9_min_7cf53 9 = .ok (.iload_n 1, 1) := by decide +kernel
theorem dJ9_min_7cf53_10 : decode cJ9_min_7cf53 10 = .ok (.ireturn, 1) := by decide +kernel
theorem dJ0_length_8abf5_0 : decode cJ0_length_8abf5 0 = .ok (.aload_n 0, 1) := by decide +kernel
theorem dJ0_length_8abf5_1 : decode cJ0_length_8abf5 1 = .ok (.getfield 9, 3) := by decide +kernel
theorem dJ0_length_8abf5_4 : decode cJ0_length_8abf5 4 = .ok (.arraylength, 1) := by decide +kernel
theorem dJ0_length_8abf5_5 : decode cJ0_length_8abf5 5 = .ok (.aload_n 0, 1) := by decide +kernel
theorem dJ0_length_8abf5_6 : decode cJ0_length_8abf5 6 = .ok (.invokevirtual 335, 3) := by decide +kernel
theorem dJ0_length_8abf5_9 : decode cJ0_length_8abf5 9 = .ok (.ishr, 1) := by decide +kernel
theorem dJ0_length_8abf5_10 : decode cJ0_length_8abf5 10 = .ok (.ireturn, 1) := by decide +kernel
theorem dJ0_charAt_5068e_0 : decode cJ0_charAt_5068e 0 = .ok (.aload_n 0, 1) := by decide +kernel
theorem dJ0_charAt_5068e_1 : decode cJ0_charAt_5068e 1 = .ok (.invokevirtual 492, 3) := by decide +kernel
theorem dJ0_charAt_5068e_4 : decode cJ0_charAt_5068e 4 = .ok (.ifCond .eq 12, 3) := by decide +kernel
theorem dJ0_charAt_5068e_7 : decode cJ0_charAt_5068e 7 = .ok (.aload_n 0, 1) := by decide +kernel
theorem dJ0_charAt_5068e_8 : decode cJ0_charAt_5068e 8 = .ok (.getfield 9, 3) := by decide +kernel
theorem dJ0_charAt_5068e_11 : decode cJ0_charAt_5068e 11 = .ok (.iload_n 1, 1) := by decide +kernel
theorem dJ0_charAt_5068e_12 : decode cJ0_charAt_5068e 12 = .ok (.invokestatic 495, 3) := by decide +kernel
theorem dJ0_charAt_5068e_15 : decode cJ0_charAt_5068e 15 = .ok (.ireturn, 1) := by decide +kernel
theorem dJ0_charAt_5068e_16 : decode cJ0_charAt_5068e 16 = .ok (.aload_n 0, 1) := by decide +kernel
theorem dJ0_charAt_5068e_17 : decode cJ0_charAt_5068e 17 = .ok (.getfield 9, 3) := by decide +kernel
theorem dJ0_charAt_5068e_20 : decode cJ0_charAt_5068e 20 = .ok (.iload_n 1, 1) := by decide +kernel
theorem dJ0_charAt_5068e_21 : decode cJ0_charAt_5068e 21 = .ok (.invokestatic 498, 3) := by decide +kernel
theorem dJ0_charAt_5068e_24 : decode cJ0_charAt_5068e 24 = .ok (.ireturn, 1) := by decide +kernel
theorem dJ0_coder_7d493_0 : decode cJ0_coder_7d493 0 = .ok (.getstatic 38, 3) := by decide +kernel
theorem dJ0_coder_7d493_3 : decode cJ0_coder_7d493 3 = .ok (.ifCond .eq 10, 3) := by decide +kernel
theorem dJ0_coder_7d493_6 : decode cJ0_coder_7d493 6 = .ok (.aload_n 0, 1) := by decide +kernel
theorem dJ0_coder_7d493_7 : decode cJ0_coder_7d493 7 = .ok (.getfield 15, 3) := by decide +kernel
theorem dJ0_coder_7d493_10 : decode cJ0_coder_7d493 10 = .ok (.goto 4, 3) := by decide +kernel
theorem dJ0_coder_7d493_13 : decode cJ0_coder_7d493 13 = .ok (.iconst 1, 1) := by decide +kernel
theorem dJ0_coder_7d493_14 : decode cJ0_coder_7d493 14 = .ok (.ireturn, 1) := by decide +kernel
theorem dJ0_isLatin1_aae02_0 : decode cJ0_isLatin1_aae02 0 = .ok (.getstatic 38, 3) := by decide +kernel
theorem dJ0_isLatin1_aae02_3 : decode cJ0_isLatin1_aae02 3 = .ok (.ifCond .eq 14, 3) := by decide +kernel
theorem dJ0_isLatin1_aae02_6 : decode cJ0_isLatin1_aae02 6 = .ok (.aload_n 0, 1) := by decide +kernel
theorem dJ0_isLatin1_aae02_7 : decode cJ0_isLatin1_aae02 7 = .ok (.getfield 15, 3) := by decide +kernel
theorem dJ0_isLatin1_aae02_10 : decode cJ0_isLatin1_aae02 10 = .ok (.ifCond .ne 7, 3) := by decide +kernel
theorem dJ0_isLatin1_aae02_13 : decode cJ0_isLatin1_aae02 13 = .ok (.iconst 1, 1) := by decide +kernel
theorem dJ0_isLatin1_aae02_14 : decode cJ0_isLatin1_aae02 14 = .ok (.goto 4, 3) := by decide +kernel
theorem dJ0_isLatin1_aae02_17 : decode cJ0_isLatin1_aae02 17 = .ok (.iconst 0, 1) := by decide +kernel
theorem dJ0_isLatin1_aae02_18 : decode cJ0_isLatin1_aae02 18 = .ok (.ireturn, 1) := by decide +kernel
theorem dJ0_checkIndex_df160_0 : decode cJ0_checkIndex_df160 0 = .ok (.iload_n 0, 1) := by decide +kernel
theorem dJ0_checkIndex_df160_1 : decode cJ0_checkIndex_df160 1 = .ok (.iload_n 1, 1) := by decide +kernel
theorem dJ0_checkIndex_df160_2 : decode cJ0_checkIndex_df160 2 = .ok (.getstatic 1053, 3) := by decide +kernel
theorem dJ0_checkIndex_df160_5 : decode cJ0_checkIndex_df160 5 = .ok (.invokestatic 1059, 3) := by decide +kernel
theorem dJ0_checkIndex_df160_8 : decode cJ0_checkIndex_df160 8 = .ok (.pop, 1) := by decide +kernel
theorem dJ0_checkIndex_df160_9 : decode cJ0_checkIndex_df160 9 = .ok (.return_, 1) := by decide +kernel
theorem dJ1_charAt_3b067_0 : decode cJ1_charAt_3b067 0 = .ok (.iload_n 1, 1) := by decide +kernel
theorem dJ1_charAt_3b067_1 : decode cJ1_charAt_3b067 1 = .ok (.aload_n 0, 1) := by decide +kernel
theorem dJ1_charAt_3b067_2 : decode cJ1_charAt_3b067 2 = .ok (.arraylength, 1) := by decide +kernel
theorem dJ1_charAt_3b067_3 : decode cJ1_charAt_3b067 3 = .ok (.invokestatic 9, 3) := by decide +kernel
theorem dJ1_charAt_3b067_6 : decode cJ1_charAt_3b067 6 = .ok (.aload_n 0, 1) := by decide +kernel
theorem dJ1_charAt_3b067_7 : decode cJ1_charAt_3b067 7 = .ok (.iload_n 1, 1) := by decide +kernel
theorem dJ1_charAt_3b067_8 : decode cJ1_charAt_3b067 8 = .ok (.baload, 1) := by decide +kernel
theorem dJ1_charAt_3b067_9 : decode cJ1_charAt_3b067 9 = .ok (.sipush 255, 3) := by decide +kernel
theorem dJ1_charAt_3b067_12 : decode cJ1_charAt_3b067 12 = .ok (.iand, 1) := by decide +kernel
theorem dJ1_charAt_3b067_13 : decode cJ1_charAt_3b067 13 = .ok (.i2c, 1) := by decide +kernel
theorem dJ1_charAt_3b067_14 : decode cJ1_charAt_3b067 14 = .ok (.ireturn, 1) := by decide +kernel
theorem dJ2_getChar_3b067_0 : decode cJ2_getChar_3b067 0 = .ok (.getstatic 44, 3) := by decide +kernel
theorem dJ2_getChar_3b067_3 : decode cJ2_getChar_3b067 3 = .ok (.ifCond .ne 25, 3) := by decide +kernel
theorem dJ2_getChar_3b067_6 : decode cJ2_getChar_3b067 6 = .ok (.iload_n 1, 1) := by decide +kernel
theorem dJ2_getChar_3b067_7 : decode cJ2_getChar_3b067 7 = .ok (.ifCond .lt 11, 3) := by decide +kernel
theorem dJ2_getChar_3b067_10 : decode cJ2_getChar_3b067 10 = .ok (.iload_n 1, 1) := by decide +kernel
theorem dJ2_getChar_3b067_11 : decode cJ2_getChar_3b067 11 = .ok (.aload_n 0, 1) := by decide +kernel
theorem dJ2_getChar_3b067_12 : decode cJ2_getChar_3b067 12 = .ok (.invokestatic 48, 3) := by decide +kernel
theorem dJ2_getChar_3b067_15 : decode cJ2_getChar_3b067 15 = .ok (.if_icmp .lt 13, 3) := by decide +kernel
theorem dJ2_getChar_3b067_18 : decode cJ2_getChar_3b067 18 = .ok (.new 52, 3) := by decide +kernel
theorem dJ2_getChar_3b067_21 : decode cJ2_getChar_3b067 21 = .ok (.dup, 1) := by decide +kernel
theorem dJ2_getChar_3b067_22 : decode cJ2_getChar_3b067 22 = .ok (.ldc 54, 2) := by decide +kernel
theorem dJ2_getChar_3b067_24 : decode cJ2_getChar_3b067 24 = .ok (.invokespecial 56, 3) := by decide +kernel
theorem dJ2_getChar_3b067_27 : decode cJ2_getChar_3b067 27 = .ok (.athrow, 1) := by decide +kernel
theorem dJ2_getChar_3b067_28 : decode cJ2_getChar_3b067 28 = .ok (.iload_n 1, 1) := by decide +kernel
theorem dJ2_getChar_3b067_29 : decode cJ2_getChar_3b067 29 = .ok (.iconst 1, 1) := by decide +kernel
theorem dJ2_getChar_3b067_30 : decode cJ2_getChar_3b067 30 = .ok (.ishl, 1) := by decide +kernel
theorem dJ2_getChar_3b067_31 : decode cJ2_getChar_3b067 31 = .ok (.istore_n 1, 1) := by decide +kernel
theorem dJ2_getChar_3b067_32 : decode cJ2_getChar_3b067 32 = .ok (.aload_n 0, 1) := by decide +kernel
theorem dJ2_getChar_3b067_33 : decode cJ2_getChar_3b067 33 = .ok (.iload_n 1, 1) := by decide +kernel
theorem dJ2_getChar_3b067_34 : decode cJ2_getChar_3b067 34 = .ok (.iinc 1 1, 3) := by decide +kernel
theorem dJ2_getChar_3b067_37 : decode cJ2_getChar_3b067 37 = .ok (.baload, 1) := by decide +kernel
theorem dJ2_getChar_3b067_38 : decode cJ2_getChar_3b067 38 = .ok (.sipush 255, 3) := by decide +kernel
theorem dJ2_getChar_3b067_41 : decode cJ2_getChar_3b067 41 = .ok (.iand, 1) := by decide +kernel
theorem dJ2_getChar_3b067_42 : decode cJ2_getChar_3b067 42 = .ok (.getstatic 59, 3) := by decide +kernel
theorem dJ2_getChar_3b067_45 : decode cJ2_getChar_3b067 45 = .ok (.ishl, 1) := by decide +kernel
theorem dJ2_getChar_3b067_46 : decode cJ2_getChar_3b067 46 = .ok (.aload_n 0, 1) := by decide +kernel
theorem dJ2_getChar_3b067_47 : decode cJ2_getChar_3b067 47 = .ok (.iload_n 1, 1) := by decide +kernel
theorem dJ2_getChar_3b067_48 : decode cJ2_getChar_3b067 48 = .ok (.baload, 1) := by decide +kernel
theorem dJ2_getChar_3b067_49 : decode cJ2_getChar_3b067 49 = .ok (.sipush 255, 3) := by decide +kernel
theorem dJ2_getChar_3b067_52 : decode cJ2_getChar_3b067 52 = .ok (.iand, 1) := by decide +kernel
theorem dJ2_getChar_3b067_53 : decode cJ2_getChar_3b067 53 = .ok (.getstatic 63, 3) := by decide +kernel
theorem dJ2_getChar_3b067_56 : decode cJ2_getChar_3b067 56 = .ok (.ishl, 1) := by decide +kernel
theorem dJ2_getChar_3b067_57 : decode cJ2_getChar_3b067 57 = .ok (.ior, 1) := by decide +kernel
theorem dJ2_getChar_3b067_58 : decode cJ2_getChar_3b067 58 = .ok (.i2c, 1) := by decide +kernel
theorem dJ2_getChar_3b067_59 : decode cJ2_getChar_3b067 59 = .ok (.ireturn, 1) := by decide +kernel
theorem dJ2_length_9d52b_0 : decode cJ2_length_9d52b 0 = .ok (.aload_n 0, 1) := by decide +kernel
theorem dJ2_length_9d52b_1 : decode cJ2_length_9d52b 1 = .ok (.arraylength, 1) := by decide +kernel
theorem dJ2_length_9d52b_2 : decode cJ2_length_9d52b 2 = .ok (.iconst 1, 1) := by decide +kernel
theorem dJ2_length_9d52b_3 : decode cJ2_length_9d52b 3 = .ok (.ishr, 1) := by decide +kernel
theorem dJ2_length_9d52b_4 : decode cJ2_length_9d52b 4 = .ok (.ireturn, 1) := by decide +kernel
theorem dJ2_charAt_3b067_0 : decode cJ2_charAt_3b067 0 = .ok (.iload_n 1, 1) := by decide +kernel
theorem dJ2_charAt_3b067_1 : decode cJ2_charAt_3b067 1 = .ok (.aload_n 0, 1) := by decide +kernel
theorem dJ2_charAt_3b067_2 : decode cJ2_charAt_3b067 2 = .ok (.invokestatic 67, 3) := by decide +kernel
theorem dJ2_charAt_3b067_5 : decode cJ2_charAt_3b067 5 = .ok (.aload_n 0, 1) := by decide +kernel
theorem dJ2_charAt_3b067_6 : decode cJ2_charAt_3b067 6 = .ok (.iload_n 1, 1) := by decide +kernel
theorem dJ2_charAt_3b067_7 : decode cJ2_charAt_3b067 7 = .ok (.invokestatic 71, 3) := by decide +kernel
theorem dJ2_charAt_3b067_10 : decode cJ2_charAt_3b067 10 = .ok (.ireturn, 1) := by decide +kernel
theorem dJ2_checkIndex_2214a_0 : decode cJ2_checkIndex_2214a 0 = .ok (.iload_n 0, 1) := by decide +kernel
theorem dJ2_checkIndex_2214a_1 : decode cJ2_checkIndex_2214a 1 = .ok (.aload_n 1, 1) := by decide +kernel
theorem dJ2_checkIndex_2214a_2 : decode cJ2_checkIndex_2214a 2 = .ok (.invokestatic 48, 3) := by decide +kernel
theorem dJ2_checkIndex_2214a_5 : decode cJ2_checkIndex_2214a 5 = .ok (.invokestatic 414, 3) := by decide +kernel
theorem dJ2_checkIndex_2214a_8 : decode cJ2_checkIndex_2214a 8 = .ok (.return_, 1) := by decide +kernel
theorem dJ7_fill_53178_0 : decode cJ7_fill_53178 0 = .ok (.iconst 0, 1) := by decide +kernel
theorem dJ7_fill_53178_1 : decode cJ7_fill_53178 1 = .ok (.istore_n 2, 1) := by decide +kernel
theorem dJ7_fill_53178_2 : decode cJ7_fill_53178 2 = .ok (.aload_n 0, 1) := by decide +kernel
theorem dJ7_fill_53178_3 : decode cJ7_fill_53178 3 = .ok (.arraylength, 1) := by decide +kernel
theorem dJ7_fill_53178_4 : decode cJ7_fill_53178 4 = .ok (.istore_n 3, 1) := by decide +kernel
theorem dJ7_fill_53178_5 : decode cJ7_fill_53178 5 = .ok (.iload_n 2, 1) := by decide +kernel
theorem dJ7_fill_53178_6 : decode cJ7_fill_53178 6 = .ok (.iload_n 3, 1) := by decide +kernel
theorem dJ7_fill_53178_7 : decode cJ7_fill_53178 7 = .ok (.if_icmp .ge 13, 3) := by decide +kernel
theorem dJ7_fill_53178_10 : decode cJ7_fill_53178 10 = .ok (.aload_n 0, 1) := by decide +kernel
theorem dJ7_fill_53178_11 : decode cJ7_fill_53178 11 = .ok (.iload_n 2, 1) := by decide +kernel
theorem dJ7_fill_53178_12 : decode cJ7_fill_53178 12 = .ok (.iload_n 1, 1) := by decide +kernel
theorem dJ7_fill_53178_13 : decode cJ7_fill_53178 13 = .ok (.iastore, 1) := by decide +kernel
theorem dJ7_fill_53178_14 : decode cJ7_fill_53178 14 = .ok (.iinc 2 1, 3) := by decide +kernel
theorem dJ7_fill_53178_17 : decode cJ7_fill_53178 17 = .ok (.goto (-12), 3) := by decide +kernel
theorem dJ7_fill_53178_20 : decode cJ7_fill_53178 20 = .ok (.return_, 1) := by decide +kernel
theorem dJ3_checkIndex_8e157_0 : decode cJ3_checkIndex_8e157 0 = .ok (.iload_n 0, 1) := by decide +kernel
theorem dJ3_checkIndex_8e157_1 : decode cJ3_checkIndex_8e157 1 = .ok (.ifCond .lt 8, 3) := by decide +kernel
theorem dJ3_checkIndex_8e157_4 : decode cJ3_checkIndex_8e157 4 = .ok (.iload_n 0, 1) := by decide +kernel
theorem dJ3_checkIndex_8e157_5 : decode cJ3_checkIndex_8e157 5 = .ok (.iload_n 1, 1) := by decide +kernel
theorem dJ3_checkIndex_8e157_6 : decode cJ3_checkIndex_8e157 6 = .ok (.if_icmp .lt 10, 3) := by decide +kernel
theorem dJ3_checkIndex_8e157_9 : decode cJ3_checkIndex_8e157 9 = .ok (.aload_n 2, 1) := by decide +kernel
theorem dJ3_checkIndex_8e157_10 : decode cJ3_checkIndex_8e157 10 = .ok (.iload_n 0, 1) := by decide +kernel
theorem dJ3_checkIndex_8e157_11 : decode cJ3_checkIndex_8e157 11 = .ok (.iload_n 1, 1) := by decide +kernel
theorem dJ3_checkIndex_8e157_12 : decode cJ3_checkIndex_8e157 12 = .ok (.invokestatic 95, 3) := by decide +kernel
theorem dJ3_checkIndex_8e157_15 : decode cJ3_checkIndex_8e157 15 = .ok (.athrow, 1) := by decide +kernel
theorem dJ3_checkIndex_8e157_16 : decode cJ3_checkIndex_8e157 16 = .ok (.iload_n 0, 1) := by decide +kernel
theorem dJ3_checkIndex_8e157_17 : decode cJ3_checkIndex_8e157 17 = .ok (.ireturn, 1) := by decide +kernel
