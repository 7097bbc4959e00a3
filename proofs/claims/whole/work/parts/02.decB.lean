theorem dX2_init_0 : decode cX2_init 0 = .ok (.aload_n 0, 1) := by decide +kernel
theorem dX2_init_1 : decode cX2_init 1 = .ok (.invokespecial 3, 3) := by decide +kernel
theorem dX2_init_4 : decode cX2_init 4 = .ok (.aload_n 0, 1) := by decide +kernel
theorem dX2_init_5 : decode cX2_init 5 = .ok (.bipush 12, 2) := by decide +kernel
theorem dX2_init_7 : decode cX2_init 7 = .ok (.newarray .int, 2) := by decide +kernel
theorem dX2_init_9 : decode cX2_init 9 = .ok (.putfield 9, 3) := by decide +kernel
theorem dX2_init_12 : decode cX2_init 12 = .ok (.aload_n 0, 1) := by decide +kernel
theorem dX2_init_13 : decode cX2_init 13 = .ok (.bipush 12, 2) := by decide +kernel
theorem dX2_init_15 : decode cX2_init 15 = .ok (.newarray .int, 2) := by decide +kernel
theorem dX2_init_17 : decode cX2_init 17 = .ok (.putfield 15, 3) := by decide +kernel
theorem dX2_init_20 : decode cX2_init 20 = .ok (.aload_n 0, 1) := by decide +kernel
theorem dX2_init_21 : decode cX2_init 21 = .ok (.bipush 12, 2) := by decide +kernel
theorem dX2_init_23 : decode cX2_init 23 = .ok (.newarray .int, 2) := by decide +kernel
theorem dX2_init_25 : decode cX2_init 25 = .ok (.putfield 18, 3) := by decide +kernel
theorem dX2_init_28 : decode cX2_init 28 = .ok (.aload_n 0, 1) := by decide +kernel
theorem dX2_init_29 : decode cX2_init 29 = .ok (.iconst 5, 1) := by decide +kernel
theorem dX2_init_30 : decode cX2_init 30 = .ok (.newarray .int, 2) := by decide +kernel
theorem dX2_init_32 : decode cX2_init 32 = .ok (.putfield 21, 3) := by decide +kernel
theorem dX2_init_35 : decode cX2_init 35 = .ok (.aload_n 0, 1) := by decide +kernel
theorem dX2_init_36 : decode cX2_init 36 = .ok (.iconst 5, 1) := by decide +kernel
theorem dX2_init_37 : decode cX2_init 37 = .ok (.newarray .int, 2) := by decide +kernel
theorem dX2_init_39 : decode cX2_init 39 = .ok (.putfield 24, 3) := by decide +kernel
theorem dX2_init_42 : decode cX2_init 42 = .ok (.aload_n 0, 1) := by decide +kernel
theorem dX2_init_43 : decode cX2_init 43 = .ok (.iconst 5, 1) := by decide +kernel
theorem dX2_init_44 : decode cX2_init 44 = .ok (.newarray .int, 2) := by decide +kernel
theorem dX2_init_46 : decode cX2_init 46 = .ok (.putfield 27, 3) := by decide +kernel
theorem dX2_init_49 : decode cX2_init 49 = .ok (.aload_n 0, 1) := by decide +kernel
theorem dX2_init_50 : decode cX2_init 50 = .ok (.iconst 5, 1) := by decide +kernel
theorem dX2_init_51 : decode cX2_init 51 = .ok (.newarray .int, 2) := by decide +kernel
theorem dX2_init_53 : decode cX2_init 53 = .ok (.putfield 30, 3) := by decide +kernel
theorem dX2_init_56 : decode cX2_init 56 = .ok (.aload_n 0, 1) := by decide +kernel
theorem dX2_init_57 : decode cX2_init 57 = .ok (.sipush 3900, 3) := by decide +kernel
theorem dX2_init_60 : decode cX2_init 60 = .ok (.newarray .int, 2) := by decide +kernel
theorem dX2_init_62 : decode cX2_init 62 = .ok (.putfield 33, 3) := by decide +kernel
theorem dX2_init_65 : decode cX2_init 65 = .ok (.aload_n 0, 1) := by decide +kernel
theorem dX2_init_66 : decode cX2_init 66 = .ok (.aload_n 1, 1) := by decide +kernel
theorem dX2_init_67 : decode cX2_init 67 = .ok (.putfield 36, 3) := by decide +kernel
theorem dX2_init_70 : decode cX2_init 70 = .ok (.aload_n 0, 1) := by decide +kernel
theorem dX2_init_71 : decode cX2_init 71 = .ok (.aload_n 2, 1) := by decide +kernel
theorem dX2_init_72 : decode cX2_init 72 = .ok (.putfield 40, 3) := by decide +kernel
theorem dX2_init_75 : decode cX2_init 75 = .ok (.return_, 1) := by decide +kernel
theorem dX2_bake_0 : decode cX2_bake 0 = .ok (.iconst 0, 1) := by decide +kernel
theorem dX2_bake_1 : decode cX2_bake 1 = .ok (.istore_n 2, 1) := by decide +kernel
theorem dX2_bake_2 : decode cX2_bake 2 = .ok (.iload_n 2, 1) := by decide +kernel
theorem dX2_bake_3 : decode cX2_bake 3 = .ok (.bipush 12, 2) := by decide +kernel
theorem dX2_bake_5 : decode cX2_bake 5 = .ok (.if_icmp .ge 79, 3) := by decide +kernel
theorem dX2_bake_8 : decode cX2_bake 8 = .ok (.aload_n 0, 1) := by decide +kernel
theorem dX2_bake_9 : decode cX2_bake 9 = .ok (.getfield 40, 3) := by decide +kernel
theorem dX2_bake_12 : decode cX2_bake 12 = .ok (.iload_n 2, 1) := by decide +kernel
theorem dX2_bake_13 : decode cX2_bake 13 = .ok (.iconst 0, 1) := by decide +kernel
theorem dX2_bake_14 : decode cX2_bake 14 = .ok (.iconst 0, 1) := by decide +kernel
theorem dX2_bake_15 : decode cX2_bake 15 = .ok (.iconst 0, 1) := by decide +kernel
theorem dX2_bake_16 : decode cX2_bake 16 = .ok (.iconst 0, 1) := by decide +kernel
theorem dX2_bake_17 : decode cX2_bake 17 = .ok (.iconst 0, 1) := by decide +kernel
theorem dX2_bake_18 : decode cX2_bake 18 = .ok (.invokevirtual 44, 3) := by decide +kernel
theorem dX2_bake_21 : decode cX2_bake 21 = .ok (.iconst 1, 1) := by decide +kernel
theorem dX2_bake_22 : decode cX2_bake 22 = .ok (.aload_n 0, 1) := by decide +kernel
theorem dX2_bake_23 : decode cX2_bake 23 = .ok (.getfield 40, 3) := by decide +kernel
theorem dX2_bake_26 : decode cX2_bake 26 = .ok (.aload_n 0, 1) := by decide +kernel
theorem dX2_bake_27 : decode cX2_bake 27 = .ok (.getfield 36, 3) := by decide +kernel
theorem dX2_bake_30 : decode cX2_bake 30 = .ok (.getfield 50, 3) := by decide +kernel
theorem dX2_bake_33 : decode cX2_bake 33 = .ok (.iconst 0, 1) := by decide +kernel
theorem dX2_bake_34 : decode cX2_bake 34 = .ok (.invokevirtual 56, 3) := by decide +kernel
theorem dX2_bake_37 : decode cX2_bake 37 = .ok (.bipush 20, 2) := by decide +kernel
theorem dX2_bake_39 : decode cX2_bake 39 = .ok (.invokestatic 60, 3) := by decide +kernel
theorem dX2_bake_42 : decode cX2_bake 42 = .ok (.istore_n 3, 1) := by decide +kernel
theorem dX2_bake_43 : decode cX2_bake 43 = .ok (.iload_n 2, 1) := by decide +kernel
theorem dX2_bake_44 : decode cX2_bake 44 = .ok (.iload_n 1, 1) := by decide +kernel
theorem dX2_bake_45 : decode cX2_bake 45 = .ok (.isub, 1) := by decide +kernel
theorem dX2_bake_46 : decode cX2_bake 46 = .ok (.istore 4, 2) := by decide +kernel
theorem dX2_bake_48 : decode cX2_bake 48 = .ok (.aload_n 0, 1) := by decide +kernel
theorem dX2_bake_49 : decode cX2_bake 49 = .ok (.getfield 9, 3) := by decide +kernel
theorem dX2_bake_52 : decode cX2_bake 52 = .ok (.iload_n 2, 1) := by decide +kernel
theorem dX2_bake_53 : decode cX2_bake 53 = .ok (.iload 4, 2) := by decide +kernel
theorem dX2_bake_55 : decode cX2_bake 55 = .ok (.ifCond .lt 21, 3) := by decide +kernel
theorem dX2_bake_58 : decode cX2_bake 58 = .ok (.iload 4, 2) := by decide +kernel
theorem dX2_bake_60 : decode cX2_bake 60 = .ok (.iload_n 2, 1) := by decide +kernel
theorem dX2_bake_61 : decode cX2_bake 61 = .ok (.if_icmp .ge 15, 3) := by decide +kernel
theorem dX2_bake_64 : decode cX2_bake 64 = .ok (.aload_n 0, 1) := by decide +kernel
theorem dX2_bake_65 : decode cX2_bake 65 = .ok (.getfield 9, 3) := by decide +kernel
theorem dX2_bake_68 : decode cX2_bake 68 = .ok (.iload 4, 2) := by decide +kernel
theorem dX2_bake_70 : decode cX2_bake 70 = .ok (.iaload, 1) := by decide +kernel
theorem dX2_bake_71 : decode cX2_bake 71 = .ok (.iload_n 3, 1) := by decide +kernel
theorem dX2_bake_72 : decode cX2_bake 72 = .ok (.iadd, 1) := by decide +kernel
theorem dX2_bake_73 : decode cX2_bake 73 = .ok (.goto 4, 3) := by decide +kernel
theorem dX2_bake_76 : decode cX2_bake 76 = .ok (.iload_n 3, 1) := by decide +kernel
theorem dX2_bake_77 : decode cX2_bake 77 = .ok (.iastore, 1) := by decide +kernel
theorem dX2_bake_78 : decode cX2_bake 78 = .ok (.iinc 2 1, 3) := by decide +kernel
theorem dX2_bake_81 : decode cX2_bake 81 = .ok (.goto (-79), 3) := by decide +kernel
theorem dX2_bake_84 : decode cX2_bake 84 = .ok (.aload_n 0, 1) := by decide +kernel
theorem dX2_bake_85 : decode cX2_bake 85 = .ok (.iconst 1, 1) := by decide +kernel
theorem dX2_bake_86 : decode cX2_bake 86 = .ok (.invokevirtual 64, 3) := by decide +kernel
theorem dX2_bake_89 : decode cX2_bake 89 = .ok (.return_, 1) := by decide +kernel
theorem dX2_lay_0 : decode cX2_lay 0 = .ok (.aload_n 0, 1) := by decide +kernel
theorem dX2_lay_1 : decode cX2_lay 1 = .ok (.iload_n 1, 1) := by decide +kernel
theorem dX2_lay_2 : decode cX2_lay 2 = .ok (.invokevirtual 68, 3) := by decide +kernel
theorem dX2_lay_5 : decode cX2_lay 5 = .ok (.aload_n 0, 1) := by decide +kernel
theorem dX2_lay_6 : decode cX2_lay 6 = .ok (.iconst (-1), 1) := by decide +kernel
theorem dX2_lay_7 : decode cX2_lay 7 = .ok (.putfield 71, 3) := by decide +kernel
theorem dX2_lay_10 : decode cX2_lay 10 = .ok (.iconst 0, 1) := by decide +kernel
theorem dX2_lay_11 : decode cX2_lay 11 = .ok (.istore_n 2, 1) := by decide +kernel
theorem dX2_lay_12 : decode cX2_lay 12 = .ok (.iload_n 2, 1) := by decide +kernel
theorem dX2_lay_13 : decode cX2_lay 13 = .ok (.iconst 5, 1) := by decide +kernel
theorem dX2_lay_14 : decode cX2_lay 14 = .ok (.if_icmp .ge 43, 3) := by decide +kernel
theorem dX2_lay_17 : decode cX2_lay 17 = .ok (.aload_n 0, 1) := by decide +kernel
theorem dX2_lay_18 : decode cX2_lay 18 = .ok (.getfield 21, 3) := by decide +kernel
theorem dX2_lay_21 : decode cX2_lay 21 = .ok (.iload_n 2, 1) := by decide +kernel
theorem dX2_lay_22 : decode cX2_lay 22 = .ok (.aload_n 0, 1) := by decide +kernel
theorem dX2_lay_23 : decode cX2_lay 23 = .ok (.getfield 36, 3) := by decide +kernel
theorem dX2_lay_26 : decode cX2_lay 26 = .ok (.getfield 74, 3) := by decide +kernel
theorem dX2_lay_29 : decode cX2_lay 29 = .ok (.iload_n 2, 1) := by decide +kernel
theorem dX2_lay_30 : decode cX2_lay 30 = .ok (.iaload, 1) := by decide +kernel
theorem dX2_lay_31 : decode cX2_lay 31 = .ok (.aload_n 0, 1) := by decide +kernel
theorem dX2_lay_32 : decode cX2_lay 32 = .ok (.getfield 36, 3) := by decide +kernel
theorem dX2_lay_35 : decode cX2_lay 35 = .ok (.getfield 77, 3) := by decide +kernel
theorem dX2_lay_38 : decode cX2_lay 38 = .ok (.iload_n 2, 1) := by decide +kernel
theorem dX2_lay_39 : decode cX2_lay 39 = .ok (.iaload, 1) := by decide +kernel
theorem dX2_lay_40 : decode cX2_lay 40 = .ok (.invokestatic 80, 3) := by decide +kernel
theorem dX2_lay_43 : decode cX2_lay 43 = .ok (.iastore, 1) := by decide +kernel
theorem dX2_lay_44 : decode cX2_lay 44 = .ok (.aload_n 0, 1) := by decide +kernel
theorem dX2_lay_45 : decode cX2_lay 45 = .ok (.getfield 24, 3) := by decide +kernel
theorem dX2_lay_48 : decode cX2_lay 48 = .ok (.iload_n 2, 1) := by decide +kernel
theorem dX2_lay_49 : decode cX2_lay 49 = .ok (.iconst 0, 1) := by decide +kernel
theorem dX2_lay_50 : decode cX2_lay 50 = .ok (.iastore, 1) := by decide +kernel
theorem dX2_lay_51 : decode cX2_lay 51 = .ok (.iinc 2 1, 3) := by decide +kernel
theorem dX2_lay_54 : decode cX2_lay 54 = .ok (.goto (-42), 3) := by decide +kernel
theorem dX2_lay_57 : decode cX2_lay 57 = .ok (.aload_n 0, 1) := by decide +kernel
theorem dX2_lay_58 : decode cX2_lay 58 = .ok (.iconst 0, 1) := by decide +kernel
theorem dX2_lay_59 : decode cX2_lay 59 = .ok (.putfield 83, 3) := by decide +kernel
theorem dX2_lay_62 : decode cX2_lay 62 = .ok (.aload_n 0, 1) := by decide +kernel
theorem dX2_lay_63 : decode cX2_lay 63 = .ok (.getfield 33, 3) := by decide +kernel
theorem dX2_lay_66 : decode cX2_lay 66 = .ok (.iconst (-1), 1) := by decide +kernel
theorem dX2_lay_67 : decode cX2_lay 67 = .ok (.invokestatic 86, 3) := by decide +kernel
theorem dX2_lay_70 : decode cX2_lay 70 = .ok (.return_, 1) := by decide +kernel
theorem dX2_heapUp_0 : decode cX2_heapUp 0 = .ok (.iconst 1, 1) := by decide +kernel
theorem dX2_heapUp_1 : decode cX2_heapUp 1 = .ok (.iload_n 1, 1) := by decide +kernel
theorem dX2_heapUp_2 : decode cX2_heapUp 2 = .ok (.invokestatic 92, 3) := by decide +kernel
theorem dX2_heapUp_5 : decode cX2_heapUp 5 = .ok (.istore_n 2, 1) := by decide +kernel
theorem dX2_heapUp_6 : decode cX2_heapUp 6 = .ok (.aload_n 0, 1) := by decide +kernel
theorem dX2_heapUp_7 : decode cX2_heapUp 7 = .ok (.lconst 0, 1) := by decide +kernel
theorem dX2_heapUp_8 : decode cX2_heapUp 8 = .ok (.putfield 97, 3) := by decide +kernel
theorem dX2_heapUp_11 : decode cX2_heapUp 11 = .ok (.iconst 0, 1) := by decide +kernel
theorem dX2_heapUp_12 : decode cX2_heapUp 12 = .ok (.istore_n 3, 1) := by decide +kernel
theorem dX2_heapUp_13 : decode cX2_heapUp 13 = .ok (.iload_n 3, 1) := by decide +kernel
theorem dX2_heapUp_14 : decode cX2_heapUp 14 = .ok (.bipush 12, 2) := by decide +kernel
theorem dX2_heapUp_16 : decode cX2_heapUp 16 = .ok (.if_icmp .ge 110, 3) := by decide +kernel
theorem dX2_heapUp_19 : decode cX2_heapUp 19 = .ok (.iload_n 3, 1) := by decide +kernel
theorem dX2_heapUp_20 : decode cX2_heapUp 20 = .ok (.aload_n 0, 1) := by decide +kernel
theorem dX2_heapUp_21 : decode cX2_heapUp 21 = .ok (.getfield 36, 3) := by decide +kernel
theorem dX2_heapUp_24 : decode cX2_heapUp 24 = .ok (.getfield 101, 3) := by decide +kernel
theorem dX2_heapUp_27 : decode cX2_heapUp 27 = .ok (.if_icmp .ge 99, 3) := by decide +kernel
theorem dX2_heapUp_30 : decode cX2_heapUp 30 = .ok (.iconst 0, 1) := by decide +kernel
theorem dX2_heapUp_31 : decode cX2_heapUp 31 = .ok (.istore 4, 2) := by decide +kernel
theorem dX2_heapUp_33 : decode cX2_heapUp 33 = .ok (.iload_n 3, 1) := by decide +kernel
theorem dX2_heapUp_34 : decode cX2_heapUp 34 = .ok (.iload_n 3, 1) := by decide +kernel
theorem dX2_heapUp_35 : decode cX2_heapUp 35 = .ok (.iload_n 2, 1) := by decide +kernel
theorem dX2_heapUp_36 : decode cX2_heapUp 36 = .ok (.irem, 1) := by decide +kernel
theorem dX2_heapUp_37 : decode cX2_heapUp 37 = .ok (.isub, 1) := by decide +kernel
theorem dX2_heapUp_38 : decode cX2_heapUp 38 = .ok (.istore 5, 2) := by decide +kernel
theorem dX2_heapUp_40 : decode cX2_heapUp 40 = .ok (.iload 5, 2) := by decide +kernel
theorem dX2_heapUp_42 : decode cX2_heapUp 42 = .ok (.istore 6, 2) := by decide +kernel
theorem dX2_heapUp_44 : decode cX2_heapUp 44 = .ok (.iload 6, 2) := by decide +kernel
theorem dX2_heapUp_46 : decode cX2_heapUp 46 = .ok (.iload 5, 2) := by decide +kernel
theorem dX2_heapUp_48 : decode cX2_heapUp 48 = .ok (.iload_n 2, 1) := by decide +kernel
theorem dX2_heapUp_49 : decode cX2_heapUp 49 = .ok (.iadd, 1) := by decide +kernel
theorem dX2_heapUp_50 : decode cX2_heapUp 50 = .ok (.if_icmp .ge 42, 3) := by decide +kernel
theorem dX2_heapUp_53 : decode cX2_heapUp 53 = .ok (.iload 6, 2) := by decide +kernel
theorem dX2_heapUp_55 : decode cX2_heapUp 55 = .ok (.bipush 12, 2) := by decide +kernel
theorem dX2_heapUp_57 : decode cX2_heapUp 57 = .ok (.if_icmp .ge 35, 3) := by decide +kernel
theorem dX2_heapUp_60 : decode cX2_heapUp 60 = .ok (.iload 6, 2) := by decide +kernel
theorem dX2_heapUp_62 : decode cX2_heapUp 62 = .ok (.aload_n 0, 1) := by decide +kernel
theorem dX2_heapUp_63 : decode cX2_heapUp 63 = .ok (.getfield 36, 3) := by decide +kernel
theorem dX2_heapUp_66 : decode cX2_heapUp 66 = .ok (.getfield 101, 3) := by decide +kernel
theorem dX2_heapUp_69 : decode cX2_heapUp 69 = .ok (.if_icmp .ge 23, 3) := by decide +kernel
theorem dX2_heapUp_72 : decode cX2_heapUp 72 = .ok (.iload 4, 2) := by decide +kernel
theorem dX2_heapUp_74 : decode cX2_heapUp 74 = .ok (.aload_n 0, 1) := by decide +kernel
theorem dX2_heapUp_75 : decode cX2_heapUp 75 = .ok (.getfield 9, 3) := by decide +kernel
theorem dX2_heapUp_78 : decode cX2_heapUp 78 = .ok (.iload 6, 2) := by decide +kernel
theorem dX2_heapUp_80 : decode cX2_heapUp 80 = .ok (.iaload, 1) := by decide +kernel
theorem dX2_heapUp_81 : decode cX2_heapUp 81 = .ok (.invokestatic 92, 3) := by decide +kernel
theorem dX2_heapUp_84 : decode cX2_heapUp 84 = .ok (.istore 4, 2) := by decide +kernel
theorem dX2_heapUp_86 : decode cX2_heapUp 86 = .ok (.iinc 6 1, 3) := by decide +kernel
theorem dX2_heapUp_89 : decode cX2_heapUp 89 = .ok (.goto (-45), 3) := by decide +kernel
theorem dX2_heapUp_92 : decode cX2_heapUp 92 = .ok (.aload_n 0, 1) := by decide +kernel
theorem dX2_heapUp_93 : decode cX2_heapUp 93 = .ok (.getfield 15, 3) := by decide +kernel
theorem dX2_heapUp_96 : decode cX2_heapUp 96 = .ok (.iload_n 3, 1) := by decide +kernel
theorem dX2_heapUp_97 : decode cX2_heapUp 97 = .ok (.iload 4, 2) := by decide +kernel
theorem dX2_heapUp_99 : decode cX2_heapUp 99 = .ok (.iastore, 1) := by decide +kernel
theorem dX2_heapUp_100 : decode cX2_heapUp 100 = .ok (.iload 4, 2) := by decide +kernel
theorem dX2_heapUp_102 : decode cX2_heapUp 102 = .ok (.bipush 60, 2) := by decide +kernel
theorem dX2_heapUp_104 : decode cX2_heapUp 104 = .ok (.if_icmp .ge 16, 3) := by decide +kernel
theorem dX2_heapUp_107 : decode cX2_heapUp 107 = .ok (.aload_n 0, 1) := by decide +kernel
theorem dX2_heapUp_108 : decode cX2_heapUp 108 = .ok (.dup, 1) := by decide +kernel
theorem dX2_heapUp_109 : decode cX2_heapUp 109 = .ok (.getfield 97, 3) := by decide +kernel
theorem dX2_heapUp_112 : decode cX2_heapUp 112 = .ok (.lconst 1, 1) := by decide +kernel
theorem dX2_heapUp_113 : decode cX2_heapUp 113 = .ok (.iload 4, 2) := by decide +kernel
theorem dX2_heapUp_115 : decode cX2_heapUp 115 = .ok (.lshl, 1) := by decide +kernel
theorem dX2_heapUp_116 : decode cX2_heapUp 116 = .ok (.lor, 1) := by decide +kernel
theorem dX2_heapUp_117 : decode cX2_heapUp 117 = .ok (.putfield 97, 3) := by decide +kernel
theorem dX2_heapUp_120 : decode cX2_heapUp 120 = .ok (.iinc 3 1, 3) := by decide +kernel
theorem dX2_heapUp_123 : decode cX2_heapUp 123 = .ok (.goto (-110), 3) := by decide +kernel
theorem dX2_heapUp_126 : decode cX2_heapUp 126 = .ok (.return_, 1) := by decide +kernel
theorem dX2_servedCakes_0 : decode cX2_servedCakes 0 = .ok (.iconst 0, 1) := by decide +kernel
theorem dX2_servedCakes_1 : decode cX2_servedCakes 1 = .ok (.istore_n 1, 1) := by decide +kernel
theorem dX2_servedCakes_2 : decode cX2_servedCakes 2 = .ok (.iconst 0, 1) := by decide +kernel
theorem dX2_servedCakes_3 : decode cX2_servedCakes 3 = .ok (.istore_n 2, 1) := by decide +kernel
theorem dX2_servedCakes_4 : decode cX2_servedCakes 4 = .ok (.iload_n 2, 1) := by decide +kernel
theorem dX2_servedCakes_5 : decode cX2_servedCakes 5 = .ok (.bipush 12, 2) := by decide +kernel
theorem dX2_servedCakes_7 : decode cX2_servedCakes 7 = .ok (.if_icmp .ge 34, 3) := by decide +kernel
theorem dX2_servedCakes_10 : decode cX2_servedCakes 10 = .ok (.iload_n 2, 1) := by decide +kernel
theorem dX2_servedCakes_11 : decode cX2_servedCakes 11 = .ok (.aload_n 0, 1) := by decide +kernel
theorem dX2_servedCakes_12 : decode cX2_servedCakes 12 = .ok (.getfield 36, 3) := by decide +kernel
theorem dX2_servedCakes_15 : decode cX2_servedCakes 15 = .ok (.getfield 101, 3) := by decide +kernel
theorem dX2_servedCakes_18 : decode cX2_servedCakes 18 = .ok (.if_icmp .ge 23, 3) := by decide +kernel
theorem dX2_servedCakes_21 : decode cX2_servedCakes 21 = .ok (.aload_n 0, 1) := by decide +kernel
theorem dX2_servedCakes_22 : decode cX2_servedCakes 22 = .ok (.getfield 9, 3) := by decide +kernel
theorem dX2_servedCakes_25 : decode cX2_servedCakes 25 = .ok (.iload_n 2, 1) := by decide +kernel
theorem dX2_servedCakes_26 : decode cX2_servedCakes 26 = .ok (.iaload, 1) := by decide +kernel
theorem dX2_servedCakes_27 : decode cX2_servedCakes 27 = .ok (.bipush 60, 2) := by decide +kernel
theorem dX2_servedCakes_29 : decode cX2_servedCakes 29 = .ok (.if_icmp .ge 6, 3) := by decide +kernel
theorem dX2_servedCakes_32 : decode cX2_servedCakes 32 = .ok (.iinc 1 1, 3) := by decide +kernel
theorem dX2_servedCakes_35 : decode cX2_servedCakes 35 = .ok (.iinc 2 1, 3) := by decide +kernel
theorem dX2_servedCakes_38 : decode cX2_servedCakes 38 = .ok (.goto (-34), 3) := by decide +kernel
theorem dX2_servedCakes_41 : decode cX2_servedCakes 41 = .ok (.iload_n 1, 1) := by decide +kernel
theorem dX2_servedCakes_42 : decode cX2_servedCakes 42 = .ok (.ireturn, 1) := by decide +kernel
theorem dX2_planTurns_0 : decode cX2_planTurns 0 = .ok (.iconst 1, 1) := by decide +kernel
theorem dX2_planTurns_1 : decode cX2_planTurns 1 = .ok (.aload_n 0, 1) := by decide +kernel
theorem dX2_planTurns_2 : decode cX2_planTurns 2 = .ok (.getfield 36, 3) := by decide +kernel
theorem dX2_planTurns_5 : decode cX2_planTurns 5 = .ok (.getfield 104, 3) := by decide +kernel
theorem dX2_planTurns_8 : decode cX2_planTurns 8 = .ok (.invokestatic 92, 3) := by decide +kernel
theorem dX2_planTurns_11 : decode cX2_planTurns 11 = .ok (.istore_n 1, 1) := by decide +kernel
theorem dX2_planTurns_12 : decode cX2_planTurns 12 = .ok (.iconst 0, 1) := by decide +kernel
theorem dX2_planTurns_13 : decode cX2_planTurns 13 = .ok (.istore_n 2, 1) := by decide +kernel
theorem dX2_planTurns_14 : decode cX2_planTurns 14 = .ok (.iload_n 2, 1) := by decide +kernel
theorem dX2_planTurns_15 : decode cX2_planTurns 15 = .ok (.bipush 12, 2) := by decide +kernel
theorem dX2_planTurns_17 : decode cX2_planTurns 17 = .ok (.if_icmp .ge 18, 3) := by decide +kernel
theorem dX2_planTurns_20 : decode cX2_planTurns 20 = .ok (.aload_n 0, 1) := by decide +kernel
theorem dX2_planTurns_21 : decode cX2_planTurns 21 = .ok (.getfield 18, 3) := by decide +kernel
theorem dX2_planTurns_24 : decode cX2_planTurns 24 = .ok (.iload_n 2, 1) := by decide +kernel
theorem dX2_planTurns_25 : decode cX2_planTurns 25 = .ok (.iload_n 2, 1) := by decide +kernel
theorem dX2_planTurns_26 : decode cX2_planTurns 26 = .ok (.iload_n 1, 1) := by decide +kernel
theorem dX2_planTurns_27 : decode cX2_planTurns 27 = .ok (.irem, 1) := by decide +kernel
theorem dX2_planTurns_28 : decode cX2_planTurns 28 = .ok (.iastore, 1) := by decide +kernel
theorem dX2_planTurns_29 : decode cX2_planTurns 29 = .ok (.iinc 2 1, 3) := by decide +kernel
theorem dX2_planTurns_32 : decode cX2_planTurns 32 = .ok (.goto (-18), 3) := by decide +kernel
theorem dX2_planTurns_35 : decode cX2_planTurns 35 = .ok (.return_, 1) := by decide +kernel
theorem dX2_planFirst_0 : decode cX2_planFirst 0 = .ok (.iconst 1, 1) := by decide +kernel
theorem dX2_planFirst_1 : decode cX2_planFirst 1 = .ok (.aload_n 0, 1) := by decide +kernel
theorem dX2_planFirst_2 : decode cX2_planFirst 2 = .ok (.getfield 36, 3) := by decide +kernel
theorem dX2_planFirst_5 : decode cX2_planFirst 5 = .ok (.getfield 104, 3) := by decide +kernel
theorem dX2_planFirst_8 : decode cX2_planFirst 8 = .ok (.invokestatic 92, 3) := by decide +kernel
theorem dX2_planFirst_11 : decode cX2_planFirst 11 = .ok (.istore_n 3, 1) := by decide +kernel
theorem dX2_planFirst_12 : decode cX2_planFirst 12 = .ok (.iload_n 2, 1) := by decide +kernel
theorem dX2_planFirst_13 : decode cX2_planFirst 13 = .ok (.istore 4, 2) := by decide +kernel
theorem dX2_planFirst_15 : decode cX2_planFirst 15 = .ok (.iload_n 1, 1) := by decide +kernel
theorem dX2_planFirst_16 : decode cX2_planFirst 16 = .ok (.bipush 12, 2) := by decide +kernel
theorem dX2_planFirst_18 : decode cX2_planFirst 18 = .ok (.invokestatic 107, 3) := by decide +kernel
theorem dX2_planFirst_21 : decode cX2_planFirst 21 = .ok (.iconst 1, 1) := by decide +kernel
theorem dX2_planFirst_22 : decode cX2_planFirst 22 = .ok (.isub, 1) := by decide +kernel
theorem dX2_planFirst_23 : decode cX2_planFirst 23 = .ok (.istore 5, 2) := by decide +kernel
theorem dX2_planFirst_25 : decode cX2_planFirst 25 = .ok (.iload 5, 2) := by decide +kernel
theorem dX2_planFirst_27 : decode cX2_planFirst 27 = .ok (.ifCond .lt 26, 3) := by decide +kernel
theorem dX2_planFirst_30 : decode cX2_planFirst 30 = .ok (.aload_n 0, 1) := by decide +kernel
theorem dX2_planFirst_31 : decode cX2_planFirst 31 = .ok (.getfield 18, 3) := by decide +kernel
theorem dX2_planFirst_34 : decode cX2_planFirst 34 = .ok (.iload 5, 2) := by decide +kernel
theorem dX2_planFirst_36 : decode cX2_planFirst 36 = .ok (.iload 4, 2) := by decide +kernel
theorem dX2_planFirst_38 : decode cX2_planFirst 38 = .ok (.iload_n 3, 1) := by decide +kernel
theorem dX2_planFirst_39 : decode cX2_planFirst 39 = .ok (.irem, 1) := by decide +kernel
theorem dX2_planFirst_40 : decode cX2_planFirst 40 = .ok (.iastore, 1) := by decide +kernel
theorem dX2_planFirst_41 : decode cX2_planFirst 41 = .ok (.iload 4, 2) := by decide +kernel
theorem dX2_planFirst_43 : decode cX2_planFirst 43 = .ok (.iload_n 3, 1) := by decide +kernel
theorem dX2_planFirst_44 : decode cX2_planFirst 44 = .ok (.idiv, 1) := by decide +kernel
theorem dX2_planFirst_45 : decode cX2_planFirst 45 = .ok (.istore 4, 2) := by decide +kernel
theorem dX2_planFirst_47 : decode cX2_planFirst 47 = .ok (.iinc 5 (-1), 3) := by decide +kernel
theorem dX2_planFirst_50 : decode cX2_planFirst 50 = .ok (.goto (-25), 3) := by decide +kernel
theorem dX2_planFirst_53 : decode cX2_planFirst 53 = .ok (.return_, 1) := by decide +kernel
theorem dX2_planDrawn_0 : decode cX2_planDrawn 0 = .ok (.iconst 1, 1) := by decide +kernel
theorem dX2_planDrawn_1 : decode cX2_planDrawn 1 = .ok (.aload_n 0, 1) := by decide +kernel
theorem dX2_planDrawn_2 : decode cX2_planDrawn 2 = .ok (.getfield 36, 3) := by decide +kernel
theorem dX2_planDrawn_5 : decode cX2_planDrawn 5 = .ok (.getfield 104, 3) := by decide +kernel
theorem dX2_planDrawn_8 : decode cX2_planDrawn 8 = .ok (.invokestatic 92, 3) := by decide +kernel
theorem dX2_planDrawn_11 : decode cX2_planDrawn 11 = .ok (.istore_n 2, 1) := by decide +kernel
theorem dX2_planDrawn_12 : decode cX2_planDrawn 12 = .ok (.iload_n 1, 1) := by decide +kernel
theorem dX2_planDrawn_13 : decode cX2_planDrawn 13 = .ok (.istore_n 3, 1) := by decide +kernel
theorem dX2_planDrawn_14 : decode cX2_planDrawn 14 = .ok (.iconst 0, 1) := by decide +kernel
theorem dX2_planDrawn_15 : decode cX2_planDrawn 15 = .ok (.istore 4, 2) := by decide +kernel
theorem dX2_planDrawn_17 : decode cX2_planDrawn 17 = .ok (.iload 4, 2) := by decide +kernel
theorem dX2_planDrawn_19 : decode cX2_planDrawn 19 = .ok (.bipush 12, 2) := by decide +kernel
theorem dX2_planDrawn_21 : decode cX2_planDrawn 21 = .ok (.if_icmp .ge 31, 3) := by decide +kernel
theorem dX2_planDrawn_24 : decode cX2_planDrawn 24 = .ok (.iload_n 3, 1) := by decide +kernel
theorem dX2_planDrawn_25 : decode cX2_planDrawn 25 = .ok (.ldc 110, 2) := by decide +kernel
theorem dX2_planDrawn_27 : decode cX2_planDrawn 27 = .ok (.imul, 1) := by decide +kernel
theorem dX2_planDrawn_28 : decode cX2_planDrawn 28 = .ok (.sipush 12345, 3) := by decide +kernel
theorem dX2_planDrawn_31 : decode cX2_planDrawn 31 = .ok (.iadd, 1) := by decide +kernel
theorem dX2_planDrawn_32 : decode cX2_planDrawn 32 = .ok (.istore_n 3, 1) := by decide +kernel
theorem dX2_planDrawn_33 : decode cX2_planDrawn 33 = .ok (.aload_n 0, 1) := by decide +kernel
theorem dX2_planDrawn_34 : decode cX2_planDrawn 34 = .ok (.getfield 18, 3) := by decide +kernel
theorem dX2_planDrawn_37 : decode cX2_planDrawn 37 = .ok (.iload 4, 2) := by decide +kernel
theorem dX2_planDrawn_39 : decode cX2_planDrawn 39 = .ok (.iload_n 3, 1) := by decide +kernel
theorem dX2_planDrawn_40 : decode cX2_planDrawn 40 = .ok (.bipush 9, 2) := by decide +kernel
theorem dX2_planDrawn_42 : decode cX2_planDrawn 42 = .ok (.iushr, 1) := by decide +kernel
theorem dX2_planDrawn_43 : decode cX2_planDrawn 43 = .ok (.iload_n 2, 1) := by decide +kernel
theorem dX2_planDrawn_44 : decode cX2_planDrawn 44 = .ok (.irem, 1) := by decide +kernel
theorem dX2_planDrawn_45 : decode cX2_planDrawn 45 = .ok (.iastore, 1) := by decide +kernel
theorem dX2_planDrawn_46 : decode cX2_planDrawn 46 = .ok (.iinc 4 1, 3) := by decide +kernel
theorem dX2_planDrawn_49 : decode cX2_planDrawn 49 = .ok (.goto (-32), 3) := by decide +kernel
theorem dX2_planDrawn_52 : decode cX2_planDrawn 52 = .ok (.return_, 1) := by decide +kernel
theorem dX2_run_0 : decode cX2_run 0 = .ok (.iconst 0, 1) := by decide +kernel
theorem dX2_run_1 : decode cX2_run 1 = .ok (.istore_n 2, 1) := by decide +kernel
theorem dX2_run_2 : decode cX2_run 2 = .ok (.iload_n 2, 1) := by decide +kernel
theorem dX2_run_3 : decode cX2_run 3 = .ok (.iconst 5, 1) := by decide +kernel
theorem dX2_run_4 : decode cX2_run 4 = .ok (.if_icmp .ge 30, 3) := by decide +kernel
theorem dX2_run_7 : decode cX2_run 7 = .ok (.aload_n 0, 1) := by decide +kernel
theorem dX2_run_8 : decode cX2_run 8 = .ok (.getfield 24, 3) := by decide +kernel
theorem dX2_run_11 : decode cX2_run 11 = .ok (.iload_n 2, 1) := by decide +kernel
theorem dX2_run_12 : decode cX2_run 12 = .ok (.iconst 0, 1) := by decide +kernel
theorem dX2_run_13 : decode cX2_run 13 = .ok (.iastore, 1) := by decide +kernel
theorem dX2_run_14 : decode cX2_run 14 = .ok (.aload_n 0, 1) := by decide +kernel
theorem dX2_run_15 : decode cX2_run 15 = .ok (.getfield 27, 3) := by decide +kernel
theorem dX2_run_18 : decode cX2_run 18 = .ok (.iload_n 2, 1) := by decide +kernel
theorem dX2_run_19 : decode cX2_run 19 = .ok (.iconst 0, 1) := by decide +kernel
theorem dX2_run_20 : decode cX2_run 20 = .ok (.iastore, 1) := by decide +kernel
theorem dX2_run_21 : decode cX2_run 21 = .ok (.aload_n 0, 1) := by decide +kernel
theorem dX2_run_22 : decode cX2_run 22 = .ok (.getfield 30, 3) := by decide +kernel
theorem dX2_run_25 : decode cX2_run 25 = .ok (.iload_n 2, 1) := by decide +kernel
theorem dX2_run_26 : decode cX2_run 26 = .ok (.iconst (-1), 1) := by decide +kernel
theorem dX2_run_27 : decode cX2_run 27 = .ok (.iastore, 1) := by decide +kernel
theorem dX2_run_28 : decode cX2_run 28 = .ok (.iinc 2 1, 3) := by decide +kernel
theorem dX2_run_31 : decode cX2_run 31 = .ok (.goto (-29), 3) := by decide +kernel
theorem dX2_run_34 : decode cX2_run 34 = .ok (.aload_n 0, 1) := by decide +kernel
theorem dX2_run_35 : decode cX2_run 35 = .ok (.iconst 0, 1) := by decide +kernel
theorem dX2_run_36 : decode cX2_run 36 = .ok (.putfield 83, 3) := by decide +kernel
theorem dX2_run_39 : decode cX2_run 39 = .ok (.aload_n 0, 1) := by decide +kernel
theorem dX2_run_40 : decode cX2_run 40 = .ok (.iconst 0, 1) := by decide +kernel
theorem dX2_run_41 : decode cX2_run 41 = .ok (.putfield 111, 3) := by decide +kernel
theorem dX2_run_44 : decode cX2_run 44 = .ok (.aload_n 0, 1) := by decide +kernel
theorem dX2_run_45 : decode cX2_run 45 = .ok (.iconst 0, 1) := by decide +kernel
theorem dX2_run_46 : decode cX2_run 46 = .ok (.putfield 114, 3) := by decide +kernel
theorem dX2_run_49 : decode cX2_run 49 = .ok (.aload_n 0, 1) := by decide +kernel
theorem dX2_run_50 : decode cX2_run 50 = .ok (.iconst 0, 1) := by decide +kernel
theorem dX2_run_51 : decode cX2_run 51 = .ok (.putfield 117, 3) := by decide +kernel
theorem dX2_run_54 : decode cX2_run 54 = .ok (.aload_n 0, 1) := by decide +kernel
theorem dX2_run_55 : decode cX2_run 55 = .ok (.iconst 0, 1) := by decide +kernel
theorem dX2_run_56 : decode cX2_run 56 = .ok (.putfield 120, 3) := by decide +kernel
theorem dX2_run_59 : decode cX2_run 59 = .ok (.iconst 0, 1) := by decide +kernel
theorem dX2_run_60 : decode cX2_run 60 = .ok (.istore_n 2, 1) := by decide +kernel
theorem dX2_run_61 : decode cX2_run 61 = .ok (.iload_n 2, 1) := by decide +kernel
theorem dX2_run_62 : decode cX2_run 62 = .ok (.bipush 60, 2) := by decide +kernel
theorem dX2_run_64 : decode cX2_run 64 = .ok (.if_icmp .ge 53, 3) := by decide +kernel
theorem dX2_run_67 : decode cX2_run 67 = .ok (.aload_n 0, 1) := by decide +kernel
theorem dX2_run_68 : decode cX2_run 68 = .ok (.getfield 97, 3) := by decide +kernel
theorem dX2_run_71 : decode cX2_run 71 = .ok (.iload_n 2, 1) := by decide +kernel
theorem dX2_run_72 : decode cX2_run 72 = .ok (.lshr, 1) := by decide +kernel
theorem dX2_run_73 : decode cX2_run 73 = .ok (.lconst 1, 1) := by decide +kernel
theorem dX2_run_74 : decode cX2_run 74 = .ok (.land, 1) := by decide +kernel
theorem dX2_run_75 : decode cX2_run 75 = .ok (.lconst 0, 1) := by decide +kernel
theorem dX2_run_76 : decode cX2_run 76 = .ok (.lcmp, 1) := by decide +kernel
theorem dX2_run_77 : decode cX2_run 77 = .ok (.ifCond .eq 29, 3) := by decide +kernel
theorem dX2_run_80 : decode cX2_run 80 = .ok (.aload_n 0, 1) := by decide +kernel
theorem dX2_run_81 : decode cX2_run 81 = .ok (.iload_n 1, 1) := by decide +kernel
theorem dX2_run_82 : decode cX2_run 82 = .ok (.iload_n 2, 1) := by decide +kernel
theorem dX2_run_83 : decode cX2_run 83 = .ok (.invokevirtual 123, 3) := by decide +kernel
theorem dX2_run_86 : decode cX2_run 86 = .ok (.aload_n 0, 1) := by decide +kernel
theorem dX2_run_87 : decode cX2_run 87 = .ok (.aload_n 0, 1) := by decide +kernel
theorem dX2_run_88 : decode cX2_run 88 = .ok (.getfield 114, 3) := by decide +kernel
theorem dX2_run_91 : decode cX2_run 91 = .ok (.aload_n 0, 1) := by decide +kernel
theorem dX2_run_92 : decode cX2_run 92 = .ok (.invokevirtual 127, 3) := by decide +kernel
theorem dX2_run_95 : decode cX2_run 95 = .ok (.aload_n 0, 1) := by decide +kernel
theorem dX2_run_96 : decode cX2_run 96 = .ok (.getfield 83, 3) := by decide +kernel
theorem dX2_run_99 : decode cX2_run 99 = .ok (.isub, 1) := by decide +kernel
theorem dX2_run_100 : decode cX2_run 100 = .ok (.invokestatic 92, 3) := by decide +kernel
theorem dX2_run_103 : decode cX2_run 103 = .ok (.putfield 114, 3) := by decide +kernel
theorem dX2_run_106 : decode cX2_run 106 = .ok (.aload_n 0, 1) := by decide +kernel
theorem dX2_run_107 : decode cX2_run 107 = .ok (.iload_n 2, 1) := by decide +kernel
theorem dX2_run_108 : decode cX2_run 108 = .ok (.invokevirtual 131, 3) := by decide +kernel
theorem dX2_run_111 : decode cX2_run 111 = .ok (.iinc 2 1, 3) := by decide +kernel
theorem dX2_run_114 : decode cX2_run 114 = .ok (.goto (-53), 3) := by decide +kernel
theorem dX2_run_117 : decode cX2_run 117 = .ok (.return_, 1) := by decide +kernel
theorem dX2_serve_0 : decode cX2_serve 0 = .ok (.iconst 0, 1) := by decide +kernel
theorem dX2_serve_1 : decode cX2_serve 1 = .ok (.istore_n 3, 1) := by decide +kernel
theorem dX2_serve_2 : decode cX2_serve 2 = .ok (.iload_n 3, 1) := by decide +kernel
theorem dX2_serve_3 : decode cX2_serve 3 = .ok (.bipush 12, 2) := by decide +kernel
theorem dX2_serve_5 : decode cX2_serve 5 = .ok (.if_icmp .ge 100, 3) := by decide +kernel
theorem dX2_serve_8 : decode cX2_serve 8 = .ok (.iload_n 3, 1) := by decide +kernel
theorem dX2_serve_9 : decode cX2_serve 9 = .ok (.aload_n 0, 1) := by decide +kernel
theorem dX2_serve_10 : decode cX2_serve 10 = .ok (.getfield 36, 3) := by decide +kernel
theorem dX2_serve_13 : decode cX2_serve 13 = .ok (.getfield 101, 3) := by decide +kernel
theorem dX2_serve_16 : decode cX2_serve 16 = .ok (.if_icmp .ge 89, 3) := by decide +kernel
theorem dX2_serve_19 : decode cX2_serve 19 = .ok (.aload_n 0, 1) := by decide +kernel
theorem dX2_serve_20 : decode cX2_serve 20 = .ok (.getfield 15, 3) := by decide +kernel
theorem dX2_serve_23 : decode cX2_serve 23 = .ok (.iload_n 3, 1) := by decide +kernel
theorem dX2_serve_24 : decode cX2_serve 24 = .ok (.iaload, 1) := by decide +kernel
theorem dX2_serve_25 : decode cX2_serve 25 = .ok (.iload_n 2, 1) := by decide +kernel
theorem dX2_serve_26 : decode cX2_serve 26 = .ok (.if_icmp .ne 73, 3) := by decide +kernel
theorem dX2_serve_29 : decode cX2_serve 29 = .ok (.iconst (-1), 1) := by decide +kernel
theorem dX2_serve_30 : decode cX2_serve 30 = .ok (.istore 4, 2) := by decide +kernel
theorem dX2_serve_32 : decode cX2_serve 32 = .ok (.iload_n 1, 1) := by decide +kernel
theorem dX2_serve_33 : decode cX2_serve 33 = .ok (.ifCond .ne 14, 3) := by decide +kernel
theorem dX2_serve_36 : decode cX2_serve 36 = .ok (.aload_n 0, 1) := by decide +kernel
theorem dX2_serve_37 : decode cX2_serve 37 = .ok (.getfield 18, 3) := by decide +kernel
theorem dX2_serve_40 : decode cX2_serve 40 = .ok (.iload_n 3, 1) := by decide +kernel
theorem dX2_serve_41 : decode cX2_serve 41 = .ok (.iaload, 1) := by decide +kernel
theorem dX2_serve_42 : decode cX2_serve 42 = .ok (.istore 4, 2) := by decide +kernel
theorem dX2_serve_44 : decode cX2_serve 44 = .ok (.goto 47, 3) := by decide +kernel
theorem dX2_serve_47 : decode cX2_serve 47 = .ok (.iload_n 1, 1) := by decide +kernel
theorem dX2_serve_48 : decode cX2_serve 48 = .ok (.iconst 1, 1) := by decide +kernel
theorem dX2_serve_49 : decode cX2_serve 49 = .ok (.if_icmp .ne 21, 3) := by decide +kernel
theorem dX2_serve_52 : decode cX2_serve 52 = .ok (.iload_n 3, 1) := by decide +kernel
theorem dX2_serve_53 : decode cX2_serve 53 = .ok (.iconst 1, 1) := by decide +kernel
theorem dX2_serve_54 : decode cX2_serve 54 = .ok (.aload_n 0, 1) := by decide +kernel
theorem dX2_serve_55 : decode cX2_serve 55 = .ok (.getfield 36, 3) := by decide +kernel
theorem dX2_serve_58 : decode cX2_serve 58 = .ok (.getfield 104, 3) := by decide +kernel
theorem dX2_serve_61 : decode cX2_serve 61 = .ok (.invokestatic 92, 3) := by decide +kernel
theorem dX2_serve_64 : decode cX2_serve 64 = .ok (.irem, 1) := by decide +kernel
theorem dX2_serve_65 : decode cX2_serve 65 = .ok (.istore 4, 2) := by decide +kernel
theorem dX2_serve_67 : decode cX2_serve 67 = .ok (.goto 24, 3) := by decide +kernel
theorem dX2_serve_70 : decode cX2_serve 70 = .ok (.iload_n 1, 1) := by decide +kernel
theorem dX2_serve_71 : decode cX2_serve 71 = .ok (.iconst 2, 1) := by decide +kernel
theorem dX2_serve_72 : decode cX2_serve 72 = .ok (.if_icmp .ne 13, 3) := by decide +kernel
theorem dX2_serve_75 : decode cX2_serve 75 = .ok (.aload_n 0, 1) := by decide +kernel
theorem dX2_serve_76 : decode cX2_serve 76 = .ok (.iload_n 2, 1) := by decide +kernel
theorem dX2_serve_77 : decode cX2_serve 77 = .ok (.invokevirtual 134, 3) := by decide +kernel
theorem dX2_serve_80 : decode cX2_serve 80 = .ok (.istore 4, 2) := by decide +kernel
theorem dX2_serve_82 : decode cX2_serve 82 = .ok (.goto 9, 3) := by decide +kernel
theorem dX2_serve_85 : decode cX2_serve 85 = .ok (.aload_n 0, 1) := by decide +kernel
theorem dX2_serve_86 : decode cX2_serve 86 = .ok (.invokevirtual 138, 3) := by decide +kernel
theorem dX2_serve_89 : decode cX2_serve 89 = .ok (.istore 4, 2) := by decide +kernel
theorem dX2_serve_91 : decode cX2_serve 91 = .ok (.aload_n 0, 1) := by decide +kernel
theorem dX2_serve_92 : decode cX2_serve 92 = .ok (.iload_n 3, 1) := by decide +kernel
theorem dX2_serve_93 : decode cX2_serve 93 = .ok (.iload_n 2, 1) := by decide +kernel
theorem dX2_serve_94 : decode cX2_serve 94 = .ok (.iload 4, 2) := by decide +kernel
theorem dX2_serve_96 : decode cX2_serve 96 = .ok (.invokevirtual 141, 3) := by decide +kernel
theorem dX2_serve_99 : decode cX2_serve 99 = .ok (.iinc 3 1, 3) := by decide +kernel
theorem dX2_serve_102 : decode cX2_serve 102 = .ok (.goto (-100), 3) := by decide +kernel
theorem dX2_serve_105 : decode cX2_serve 105 = .ok (.return_, 1) := by decide +kernel
theorem dX2_give_0 : decode cX2_give 0 = .ok (.aload_n 0, 1) := by decide +kernel
theorem dX2_give_1 : decode cX2_give 1 = .ok (.iload_n 3, 1) := by decide +kernel
theorem dX2_give_2 : decode cX2_give 2 = .ok (.invokevirtual 145, 3) := by decide +kernel
theorem dX2_give_5 : decode cX2_give 5 = .ok (.ifCond .ne 14, 3) := by decide +kernel
theorem dX2_give_8 : decode cX2_give 8 = .ok (.aload_n 0, 1) := by decide +kernel
theorem dX2_give_9 : decode cX2_give 9 = .ok (.dup, 1) := by decide +kernel
theorem dX2_give_10 : decode cX2_give 10 = .ok (.getfield 120, 3) := by decide +kernel
theorem dX2_give_13 : decode cX2_give 13 = .ok (.iconst 1, 1) := by decide +kernel
theorem dX2_give_14 : decode cX2_give 14 = .ok (.iadd, 1) := by decide +kernel
theorem dX2_give_15 : decode cX2_give 15 = .ok (.putfield 120, 3) := by decide +kernel
theorem dX2_give_18 : decode cX2_give 18 = .ok (.return_, 1) := by decide +kernel
theorem dX2_give_19 : decode cX2_give 19 = .ok (.iload_n 2, 1) := by decide +kernel
theorem dX2_give_20 : decode cX2_give 20 = .ok (.aload_n 0, 1) := by decide +kernel
theorem dX2_give_21 : decode cX2_give 21 = .ok (.getfield 30, 3) := by decide +kernel
theorem dX2_give_24 : decode cX2_give 24 = .ok (.iload_n 3, 1) := by decide +kernel
theorem dX2_give_25 : decode cX2_give 25 = .ok (.iaload, 1) := by decide +kernel
theorem dX2_give_26 : decode cX2_give 26 = .ok (.invokestatic 92, 3) := by decide +kernel
theorem dX2_give_29 : decode cX2_give 29 = .ok (.istore 4, 2) := by decide +kernel
theorem dX2_give_31 : decode cX2_give 31 = .ok (.aload_n 0, 1) := by decide +kernel
theorem dX2_give_32 : decode cX2_give 32 = .ok (.getfield 40, 3) := by decide +kernel
theorem dX2_give_35 : decode cX2_give 35 = .ok (.iload_n 1, 1) := by decide +kernel
theorem dX2_give_36 : decode cX2_give 36 = .ok (.iload 4, 2) := by decide +kernel
theorem dX2_give_38 : decode cX2_give 38 = .ok (.aload_n 0, 1) := by decide +kernel
theorem dX2_give_39 : decode cX2_give 39 = .ok (.getfield 24, 3) := by decide +kernel
theorem dX2_give_42 : decode cX2_give 42 = .ok (.iload_n 3, 1) := by decide +kernel
theorem dX2_give_43 : decode cX2_give 43 = .ok (.iaload, 1) := by decide +kernel
theorem dX2_give_44 : decode cX2_give 44 = .ok (.aload_n 0, 1) := by decide +kernel
theorem dX2_give_45 : decode cX2_give 45 = .ok (.getfield 36, 3) := by decide +kernel
theorem dX2_give_48 : decode cX2_give 48 = .ok (.getfield 149, 3) := by decide +kernel
theorem dX2_give_51 : decode cX2_give 51 = .ok (.iload_n 3, 1) := by decide +kernel
theorem dX2_give_52 : decode cX2_give 52 = .ok (.iaload, 1) := by decide +kernel
theorem dX2_give_53 : decode cX2_give 53 = .ok (.iload_n 3, 1) := by decide +kernel
theorem dX2_give_54 : decode cX2_give 54 = .ok (.iload 4, 2) := by decide +kernel
theorem dX2_give_56 : decode cX2_give 56 = .ok (.aload_n 0, 1) := by decide +kernel
theorem dX2_give_57 : decode cX2_give 57 = .ok (.getfield 9, 3) := by decide +kernel
theorem dX2_give_60 : decode cX2_give 60 = .ok (.iload_n 1, 1) := by decide +kernel
theorem dX2_give_61 : decode cX2_give 61 = .ok (.iaload, 1) := by decide +kernel
theorem dX2_give_62 : decode cX2_give 62 = .ok (.isub, 1) := by decide +kernel
theorem dX2_give_63 : decode cX2_give 63 = .ok (.invokevirtual 44, 3) := by decide +kernel
theorem dX2_give_66 : decode cX2_give 66 = .ok (.aload_n 0, 1) := by decide +kernel
theorem dX2_give_67 : decode cX2_give 67 = .ok (.dup, 1) := by decide +kernel
theorem dX2_give_68 : decode cX2_give 68 = .ok (.getfield 111, 3) := by decide +kernel
theorem dX2_give_71 : decode cX2_give 71 = .ok (.iconst 0, 1) := by decide +kernel
theorem dX2_give_72 : decode cX2_give 72 = .ok (.aload_n 0, 1) := by decide +kernel
theorem dX2_give_73 : decode cX2_give 73 = .ok (.getfield 40, 3) := by decide +kernel
theorem dX2_give_76 : decode cX2_give 76 = .ok (.aload_n 0, 1) := by decide +kernel
theorem dX2_give_77 : decode cX2_give 77 = .ok (.getfield 36, 3) := by decide +kernel
theorem dX2_give_80 : decode cX2_give 80 = .ok (.getfield 50, 3) := by decide +kernel
theorem dX2_give_83 : decode cX2_give 83 = .ok (.iconst 2, 1) := by decide +kernel
theorem dX2_give_84 : decode cX2_give 84 = .ok (.invokevirtual 56, 3) := by decide +kernel
theorem dX2_give_87 : decode cX2_give 87 = .ok (.bipush 99, 2) := by decide +kernel
theorem dX2_give_89 : decode cX2_give 89 = .ok (.invokestatic 60, 3) := by decide +kernel
theorem dX2_give_92 : decode cX2_give 92 = .ok (.isub, 1) := by decide +kernel
theorem dX2_give_93 : decode cX2_give 93 = .ok (.putfield 111, 3) := by decide +kernel
theorem dX2_give_96 : decode cX2_give 96 = .ok (.aload_n 0, 1) := by decide +kernel
theorem dX2_give_97 : decode cX2_give 97 = .ok (.getfield 24, 3) := by decide +kernel
theorem dX2_give_100 : decode cX2_give 100 = .ok (.iload_n 3, 1) := by decide +kernel
theorem dX2_give_101 : decode cX2_give 101 = .ok (.dup2, 1) := by decide +kernel
theorem dX2_give_102 : decode cX2_give 102 = .ok (.iaload, 1) := by decide +kernel
theorem dX2_give_103 : decode cX2_give 103 = .ok (.iconst 1, 1) := by decide +kernel
theorem dX2_give_104 : decode cX2_give 104 = .ok (.iadd, 1) := by decide +kernel
theorem dX2_give_105 : decode cX2_give 105 = .ok (.iastore, 1) := by decide +kernel
theorem dX2_give_106 : decode cX2_give 106 = .ok (.aload_n 0, 1) := by decide +kernel
theorem dX2_give_107 : decode cX2_give 107 = .ok (.dup, 1) := by decide +kernel
theorem dX2_give_108 : decode cX2_give 108 = .ok (.getfield 117, 3) := by decide +kernel
theorem dX2_give_111 : decode cX2_give 111 = .ok (.iconst 1, 1) := by decide +kernel
theorem dX2_give_112 : decode cX2_give 112 = .ok (.iadd, 1) := by decide +kernel
theorem dX2_give_113 : decode cX2_give 113 = .ok (.putfield 117, 3) := by decide +kernel
theorem dX2_give_116 : decode cX2_give 116 = .ok (.aload_n 0, 1) := by decide +kernel
theorem dX2_give_117 : decode cX2_give 117 = .ok (.getfield 30, 3) := by decide +kernel
theorem dX2_give_120 : decode cX2_give 120 = .ok (.iload_n 3, 1) := by decide +kernel
theorem dX2_give_121 : decode cX2_give 121 = .ok (.iload 4, 2) := by decide +kernel
theorem dX2_give_123 : decode cX2_give 123 = .ok (.aload_n 0, 1) := by decide +kernel
theorem dX2_give_124 : decode cX2_give 124 = .ok (.getfield 21, 3) := by decide +kernel
theorem dX2_give_127 : decode cX2_give 127 = .ok (.iload_n 3, 1) := by decide +kernel
theorem dX2_give_128 : decode cX2_give 128 = .ok (.iaload, 1) := by decide +kernel
theorem dX2_give_129 : decode cX2_give 129 = .ok (.iadd, 1) := by decide +kernel
theorem dX2_give_130 : decode cX2_give 130 = .ok (.iastore, 1) := by decide +kernel
theorem dX2_give_131 : decode cX2_give 131 = .ok (.aload_n 0, 1) := by decide +kernel
theorem dX2_give_132 : decode cX2_give 132 = .ok (.invokevirtual 138, 3) := by decide +kernel
theorem dX2_give_135 : decode cX2_give 135 = .ok (.istore 5, 2) := by decide +kernel
theorem dX2_give_137 : decode cX2_give 137 = .ok (.aload_n 0, 1) := by decide +kernel
theorem dX2_give_138 : decode cX2_give 138 = .ok (.aload_n 0, 1) := by decide +kernel
theorem dX2_give_139 : decode cX2_give 139 = .ok (.iload 5, 2) := by decide +kernel
theorem dX2_give_141 : decode cX2_give 141 = .ok (.invokevirtual 145, 3) := by decide +kernel
theorem dX2_give_144 : decode cX2_give 144 = .ok (.ifCond .eq 13, 3) := by decide +kernel
theorem dX2_give_147 : decode cX2_give 147 = .ok (.aload_n 0, 1) := by decide +kernel
theorem dX2_give_148 : decode cX2_give 148 = .ok (.getfield 24, 3) := by decide +kernel
theorem dX2_give_151 : decode cX2_give 151 = .ok (.iload 5, 2) := by decide +kernel
theorem dX2_give_153 : decode cX2_give 153 = .ok (.iaload, 1) := by decide +kernel
theorem dX2_give_154 : decode cX2_give 154 = .ok (.goto 4, 3) := by decide +kernel
theorem dX2_give_157 : decode cX2_give 157 = .ok (.iconst 0, 1) := by decide +kernel
theorem dX2_give_158 : decode cX2_give 158 = .ok (.putfield 83, 3) := by decide +kernel
theorem dX2_give_161 : decode cX2_give 161 = .ok (.return_, 1) := by decide +kernel
theorem dX2_pass_0 : decode cX2_pass 0 = .ok (.iconst 0, 1) := by decide +kernel
theorem dX2_pass_1 : decode cX2_pass 1 = .ok (.istore_n 2, 1) := by decide +kernel
theorem dX2_pass_2 : decode cX2_pass 2 = .ok (.iload_n 2, 1) := by decide +kernel
theorem dX2_pass_3 : decode cX2_pass 3 = .ok (.iconst 5, 1) := by decide +kernel
theorem dX2_pass_4 : decode cX2_pass 4 = .ok (.if_icmp .ge 70, 3) := by decide +kernel
theorem dX2_pass_7 : decode cX2_pass 7 = .ok (.aload_n 0, 1) := by decide +kernel
theorem dX2_pass_8 : decode cX2_pass 8 = .ok (.iload_n 2, 1) := by decide +kernel
theorem dX2_pass_9 : decode cX2_pass 9 = .ok (.invokevirtual 145, 3) := by decide +kernel
theorem dX2_pass_12 : decode cX2_pass 12 = .ok (.ifCond .eq 56, 3) := by decide +kernel
theorem dX2_pass_15 : decode cX2_pass 15 = .ok (.aload_n 0, 1) := by decide +kernel
theorem dX2_pass_16 : decode cX2_pass 16 = .ok (.getfield 24, 3) := by decide +kernel
theorem dX2_pass_19 : decode cX2_pass 19 = .ok (.iload_n 2, 1) := by decide +kernel
theorem dX2_pass_20 : decode cX2_pass 20 = .ok (.iaload, 1) := by decide +kernel
theorem dX2_pass_21 : decode cX2_pass 21 = .ok (.aload_n 0, 1) := by decide +kernel
theorem dX2_pass_22 : decode cX2_pass 22 = .ok (.getfield 36, 3) := by decide +kernel
theorem dX2_pass_25 : decode cX2_pass 25 = .ok (.getfield 149, 3) := by decide +kernel
theorem dX2_pass_28 : decode cX2_pass 28 = .ok (.iload_n 2, 1) := by decide +kernel
theorem dX2_pass_29 : decode cX2_pass 29 = .ok (.iaload, 1) := by decide +kernel
theorem dX2_pass_30 : decode cX2_pass 30 = .ok (.if_icmp .ge 38, 3) := by decide +kernel
theorem dX2_pass_33 : decode cX2_pass 33 = .ok (.aload_n 0, 1) := by decide +kernel
theorem dX2_pass_34 : decode cX2_pass 34 = .ok (.getfield 30, 3) := by decide +kernel
theorem dX2_pass_37 : decode cX2_pass 37 = .ok (.iload_n 2, 1) := by decide +kernel
theorem dX2_pass_38 : decode cX2_pass 38 = .ok (.iaload, 1) := by decide +kernel
theorem dX2_pass_39 : decode cX2_pass 39 = .ok (.iload_n 1, 1) := by decide +kernel
theorem dX2_pass_40 : decode cX2_pass 40 = .ok (.if_icmp .gt 28, 3) := by decide +kernel
theorem dX2_pass_43 : decode cX2_pass 43 = .ok (.aload_n 0, 1) := by decide +kernel
theorem dX2_pass_44 : decode cX2_pass 44 = .ok (.getfield 27, 3) := by decide +kernel
theorem dX2_pass_47 : decode cX2_pass 47 = .ok (.iload_n 2, 1) := by decide +kernel
theorem dX2_pass_48 : decode cX2_pass 48 = .ok (.dup2, 1) := by decide +kernel
theorem dX2_pass_49 : decode cX2_pass 49 = .ok (.iaload, 1) := by decide +kernel
theorem dX2_pass_50 : decode cX2_pass 50 = .ok (.iconst 1, 1) := by decide +kernel
theorem dX2_pass_51 : decode cX2_pass 51 = .ok (.iadd, 1) := by decide +kernel
theorem dX2_pass_52 : decode cX2_pass 52 = .ok (.iastore, 1) := by decide +kernel
theorem dX2_pass_53 : decode cX2_pass 53 = .ok (.aload_n 0, 1) := by decide +kernel
theorem dX2_pass_54 : decode cX2_pass 54 = .ok (.dup, 1) := by decide +kernel
theorem dX2_pass_55 : decode cX2_pass 55 = .ok (.getfield 111, 3) := by decide +kernel
theorem dX2_pass_58 : decode cX2_pass 58 = .ok (.aload_n 0, 1) := by decide +kernel
theorem dX2_pass_59 : decode cX2_pass 59 = .ok (.iload_n 2, 1) := by decide +kernel
theorem dX2_pass_60 : decode cX2_pass 60 = .ok (.iload_n 1, 1) := by decide +kernel
theorem dX2_pass_61 : decode cX2_pass 61 = .ok (.invokevirtual 152, 3) := by decide +kernel
theorem dX2_pass_64 : decode cX2_pass 64 = .ok (.iadd, 1) := by decide +kernel
theorem dX2_pass_65 : decode cX2_pass 65 = .ok (.putfield 111, 3) := by decide +kernel
theorem dX2_pass_68 : decode cX2_pass 68 = .ok (.iinc 2 1, 3) := by decide +kernel
theorem dX2_pass_71 : decode cX2_pass 71 = .ok (.goto (-69), 3) := by decide +kernel
theorem dX2_pass_74 : decode cX2_pass 74 = .ok (.return_, 1) := by decide +kernel
theorem dX2_sits_0 : decode cX2_sits 0 = .ok (.aload_n 0, 1) := by decide +kernel
theorem dX2_sits_1 : decode cX2_sits 1 = .ok (.getfield 36, 3) := by decide +kernel
theorem dX2_sits_4 : decode cX2_sits 4 = .ok (.iload_n 1, 1) := by decide +kernel
theorem dX2_sits_5 : decode cX2_sits 5 = .ok (.invokevirtual 155, 3) := by decide +kernel
theorem dX2_sits_8 : decode cX2_sits 8 = .ok (.ifCond .eq 15, 3) := by decide +kernel
theorem dX2_sits_11 : decode cX2_sits 11 = .ok (.iload_n 1, 1) := by decide +kernel
theorem dX2_sits_12 : decode cX2_sits 12 = .ok (.aload_n 0, 1) := by decide +kernel
theorem dX2_sits_13 : decode cX2_sits 13 = .ok (.getfield 71, 3) := by decide +kernel
theorem dX2_sits_16 : decode cX2_sits 16 = .ok (.if_icmp .eq 7, 3) := by decide +kernel
theorem dX2_sits_19 : decode cX2_sits 19 = .ok (.iconst 1, 1) := by decide +kernel
theorem dX2_sits_20 : decode cX2_sits 20 = .ok (.goto 4, 3) := by decide +kernel
theorem dX2_sits_23 : decode cX2_sits 23 = .ok (.iconst 0, 1) := by decide +kernel
theorem dX2_sits_24 : decode cX2_sits 24 = .ok (.ireturn, 1) := by decide +kernel
theorem dX2_hungers_0 : decode cX2_hungers 0 = .ok (.iload_n 1, 1) := by decide +kernel
theorem dX2_hungers_1 : decode cX2_hungers 1 = .ok (.bipush 60, 2) := by decide +kernel
theorem dX2_hungers_3 : decode cX2_hungers 3 = .ok (.imul, 1) := by decide +kernel
theorem dX2_hungers_4 : decode cX2_hungers 4 = .ok (.iload_n 2, 1) := by decide +kernel
theorem dX2_hungers_5 : decode cX2_hungers 5 = .ok (.iadd, 1) := by decide +kernel
theorem dX2_hungers_6 : decode cX2_hungers 6 = .ok (.bipush 13, 2) := by decide +kernel
theorem dX2_hungers_8 : decode cX2_hungers 8 = .ok (.imul, 1) := by decide +kernel
theorem dX2_hungers_9 : decode cX2_hungers 9 = .ok (.aload_n 0, 1) := by decide +kernel
theorem dX2_hungers_10 : decode cX2_hungers 10 = .ok (.getfield 24, 3) := by decide +kernel
theorem dX2_hungers_13 : decode cX2_hungers 13 = .ok (.iload_n 1, 1) := by decide +kernel
theorem dX2_hungers_14 : decode cX2_hungers 14 = .ok (.iaload, 1) := by decide +kernel
theorem dX2_hungers_15 : decode cX2_hungers 15 = .ok (.iadd, 1) := by decide +kernel
theorem dX2_hungers_16 : decode cX2_hungers 16 = .ok (.istore_n 3, 1) := by decide +kernel
theorem dX2_hungers_17 : decode cX2_hungers 17 = .ok (.iload_n 3, 1) := by decide +kernel
theorem dX2_hungers_18 : decode cX2_hungers 18 = .ok (.ifCond .lt 12, 3) := by decide +kernel
theorem dX2_hungers_21 : decode cX2_hungers 21 = .ok (.iload_n 3, 1) := by decide +kernel
theorem dX2_hungers_22 : decode cX2_hungers 22 = .ok (.aload_n 0, 1) := by decide +kernel
theorem dX2_hungers_23 : decode cX2_hungers 23 = .ok (.getfield 33, 3) := by decide +kernel
theorem dX2_hungers_26 : decode cX2_hungers 26 = .ok (.arraylength, 1) := by decide +kernel
theorem dX2_hungers_27 : decode cX2_hungers 27 = .ok (.if_icmp .lt 5, 3) := by decide +kernel
theorem dX2_hungers_30 : decode cX2_hungers 30 = .ok (.iconst 0, 1) := by decide +kernel
theorem dX2_hungers_31 : decode cX2_hungers 31 = .ok (.ireturn, 1) := by decide +kernel
theorem dX2_hungers_32 : decode cX2_hungers 32 = .ok (.aload_n 0, 1) := by decide +kernel
theorem dX2_hungers_33 : decode cX2_hungers 33 = .ok (.getfield 33, 3) := by decide +kernel
theorem dX2_hungers_36 : decode cX2_hungers 36 = .ok (.iload_n 3, 1) := by decide +kernel
theorem dX2_hungers_37 : decode cX2_hungers 37 = .ok (.iaload, 1) := by decide +kernel
theorem dX2_hungers_38 : decode cX2_hungers 38 = .ok (.iconst (-1), 1) := by decide +kernel
theorem dX2_hungers_39 : decode cX2_hungers 39 = .ok (.if_icmp .ne 56, 3) := by decide +kernel
theorem dX2_hungers_42 : decode cX2_hungers 42 = .ok (.aload_n 0, 1) := by decide +kernel
theorem dX2_hungers_43 : decode cX2_hungers 43 = .ok (.getfield 40, 3) := by decide +kernel
theorem dX2_hungers_46 : decode cX2_hungers 46 = .ok (.iconst 0, 1) := by decide +kernel
theorem dX2_hungers_47 : decode cX2_hungers 47 = .ok (.iload_n 2, 1) := by decide +kernel
theorem dX2_hungers_48 : decode cX2_hungers 48 = .ok (.aload_n 0, 1) := by decide +kernel
theorem dX2_hungers_49 : decode cX2_hungers 49 = .ok (.getfield 24, 3) := by decide +kernel
theorem dX2_hungers_52 : decode cX2_hungers 52 = .ok (.iload_n 1, 1) := by decide +kernel
theorem dX2_hungers_53 : decode cX2_hungers 53 = .ok (.iaload, 1) := by decide +kernel
theorem dX2_hungers_54 : decode cX2_hungers 54 = .ok (.aload_n 0, 1) := by decide +kernel
theorem dX2_hungers_55 : decode cX2_hungers 55 = .ok (.getfield 36, 3) := by decide +kernel
theorem dX2_hungers_58 : decode cX2_hungers 58 = .ok (.getfield 149, 3) := by decide +kernel
theorem dX2_hungers_61 : decode cX2_hungers 61 = .ok (.iload_n 1, 1) := by decide +kernel
theorem dX2_hungers_62 : decode cX2_hungers 62 = .ok (.iaload, 1) := by decide +kernel
theorem dX2_hungers_63 : decode cX2_hungers 63 = .ok (.iload_n 1, 1) := by decide +kernel
theorem dX2_hungers_64 : decode cX2_hungers 64 = .ok (.iconst 0, 1) := by decide +kernel
theorem dX2_hungers_65 : decode cX2_hungers 65 = .ok (.invokevirtual 44, 3) := by decide +kernel
theorem dX2_hungers_68 : decode cX2_hungers 68 = .ok (.aload_n 0, 1) := by decide +kernel
theorem dX2_hungers_69 : decode cX2_hungers 69 = .ok (.getfield 33, 3) := by decide +kernel
theorem dX2_hungers_72 : decode cX2_hungers 72 = .ok (.iload_n 3, 1) := by decide +kernel
theorem dX2_hungers_73 : decode cX2_hungers 73 = .ok (.iconst 0, 1) := by decide +kernel
theorem dX2_hungers_74 : decode cX2_hungers 74 = .ok (.aload_n 0, 1) := by decide +kernel
theorem dX2_hungers_75 : decode cX2_hungers 75 = .ok (.getfield 40, 3) := by decide +kernel
theorem dX2_hungers_78 : decode cX2_hungers 78 = .ok (.aload_n 0, 1) := by decide +kernel
theorem dX2_hungers_79 : decode cX2_hungers 79 = .ok (.getfield 36, 3) := by decide +kernel
theorem dX2_hungers_82 : decode cX2_hungers 82 = .ok (.getfield 50, 3) := by decide +kernel
theorem dX2_hungers_85 : decode cX2_hungers 85 = .ok (.iconst 1, 1) := by decide +kernel
theorem dX2_hungers_86 : decode cX2_hungers 86 = .ok (.invokevirtual 56, 3) := by decide +kernel
theorem dX2_hungers_89 : decode cX2_hungers 89 = .ok (.bipush 99, 2) := by decide +kernel
theorem dX2_hungers_91 : decode cX2_hungers 91 = .ok (.invokestatic 60, 3) := by decide +kernel
theorem dX2_hungers_94 : decode cX2_hungers 94 = .ok (.iastore, 1) := by decide +kernel
theorem dX2_hungers_95 : decode cX2_hungers 95 = .ok (.aload_n 0, 1) := by decide +kernel
theorem dX2_hungers_96 : decode cX2_hungers 96 = .ok (.getfield 36, 3) := by decide +kernel
theorem dX2_hungers_99 : decode cX2_hungers 99 = .ok (.getfield 74, 3) := by decide +kernel
theorem dX2_hungers_102 : decode cX2_hungers 102 = .ok (.iload_n 1, 1) := by decide +kernel
theorem dX2_hungers_103 : decode cX2_hungers 103 = .ok (.iaload, 1) := by decide +kernel
theorem dX2_hungers_104 : decode cX2_hungers 104 = .ok (.aload_n 0, 1) := by decide +kernel
theorem dX2_hungers_105 : decode cX2_hungers 105 = .ok (.getfield 36, 3) := by decide +kernel
theorem dX2_hungers_108 : decode cX2_hungers 108 = .ok (.getfield 158, 3) := by decide +kernel
theorem dX2_hungers_111 : decode cX2_hungers 111 = .ok (.iload_n 1, 1) := by decide +kernel
theorem dX2_hungers_112 : decode cX2_hungers 112 = .ok (.iaload, 1) := by decide +kernel
theorem dX2_hungers_113 : decode cX2_hungers 113 = .ok (.aload_n 0, 1) := by decide +kernel
theorem dX2_hungers_114 : decode cX2_hungers 114 = .ok (.getfield 33, 3) := by decide +kernel
theorem dX2_hungers_117 : decode cX2_hungers 117 = .ok (.iload_n 3, 1) := by decide +kernel
theorem dX2_hungers_118 : decode cX2_hungers 118 = .ok (.iaload, 1) := by decide +kernel
theorem dX2_hungers_119 : decode cX2_hungers 119 = .ok (.aload_n 0, 1) := by decide +kernel
theorem dX2_hungers_120 : decode cX2_hungers 120 = .ok (.getfield 24, 3) := by decide +kernel
theorem dX2_hungers_123 : decode cX2_hungers 123 = .ok (.iload_n 1, 1) := by decide +kernel
theorem dX2_hungers_124 : decode cX2_hungers 124 = .ok (.iaload, 1) := by decide +kernel
theorem dX2_hungers_125 : decode cX2_hungers 125 = .ok (.aload_n 0, 1) := by decide +kernel
theorem dX2_hungers_126 : decode cX2_hungers 126 = .ok (.getfield 83, 3) := by decide +kernel
theorem dX2_hungers_129 : decode cX2_hungers 129 = .ok (.invokestatic 161, 3) := by decide +kernel
theorem dX2_hungers_132 : decode cX2_hungers 132 = .ok (.ireturn, 1) := by decide +kernel
theorem dX2_hungriest_0 : decode cX2_hungriest 0 = .ok (.iconst (-1), 1) := by decide +kernel
theorem dX2_hungriest_1 : decode cX2_hungriest 1 = .ok (.istore_n 2, 1) := by decide +kernel
theorem dX2_hungriest_2 : decode cX2_hungriest 2 = .ok (.iconst 0, 1) := by decide +kernel
theorem dX2_hungriest_3 : decode cX2_hungriest 3 = .ok (.istore_n 3, 1) := by decide +kernel
theorem dX2_hungriest_4 : decode cX2_hungriest 4 = .ok (.iconst 0, 1) := by decide +kernel
theorem dX2_hungriest_5 : decode cX2_hungriest 5 = .ok (.istore 4, 2) := by decide +kernel
theorem dX2_hungriest_7 : decode cX2_hungriest 7 = .ok (.iload 4, 2) := by decide +kernel
theorem dX2_hungriest_9 : decode cX2_hungriest 9 = .ok (.iconst 5, 1) := by decide +kernel
theorem dX2_hungriest_10 : decode cX2_hungriest 10 = .ok (.if_icmp .ge 64, 3) := by decide +kernel
theorem dX2_hungriest_13 : decode cX2_hungriest 13 = .ok (.aload_n 0, 1) := by decide +kernel
theorem dX2_hungriest_14 : decode cX2_hungriest 14 = .ok (.iload 4, 2) := by decide +kernel
theorem dX2_hungriest_16 : decode cX2_hungriest 16 = .ok (.invokevirtual 145, 3) := by decide +kernel
theorem dX2_hungriest_19 : decode cX2_hungriest 19 = .ok (.ifCond .eq 49, 3) := by decide +kernel
theorem dX2_hungriest_22 : decode cX2_hungriest 22 = .ok (.aload_n 0, 1) := by decide +kernel
theorem dX2_hungriest_23 : decode cX2_hungriest 23 = .ok (.getfield 24, 3) := by decide +kernel
theorem dX2_hungriest_26 : decode cX2_hungriest 26 = .ok (.iload 4, 2) := by decide +kernel
theorem dX2_hungriest_28 : decode cX2_hungriest 28 = .ok (.iaload, 1) := by decide +kernel
theorem dX2_hungriest_29 : decode cX2_hungriest 29 = .ok (.aload_n 0, 1) := by decide +kernel
theorem dX2_hungriest_30 : decode cX2_hungriest 30 = .ok (.getfield 36, 3) := by decide +kernel
theorem dX2_hungriest_33 : decode cX2_hungriest 33 = .ok (.getfield 149, 3) := by decide +kernel
theorem dX2_hungriest_36 : decode cX2_hungriest 36 = .ok (.iload 4, 2) := by decide +kernel
theorem dX2_hungriest_38 : decode cX2_hungriest 38 = .ok (.iaload, 1) := by decide +kernel
theorem dX2_hungriest_39 : decode cX2_hungriest 39 = .ok (.if_icmp .ge 29, 3) := by decide +kernel
theorem dX2_hungriest_42 : decode cX2_hungriest 42 = .ok (.aload_n 0, 1) := by decide +kernel
theorem dX2_hungriest_43 : decode cX2_hungriest 43 = .ok (.iload 4, 2) := by decide +kernel
theorem dX2_hungriest_45 : decode cX2_hungriest 45 = .ok (.iload_n 1, 1) := by decide +kernel
theorem dX2_hungriest_46 : decode cX2_hungriest 46 = .ok (.invokevirtual 152, 3) := by decide +kernel
theorem dX2_hungriest_49 : decode cX2_hungriest 49 = .ok (.istore 5, 2) := by decide +kernel
theorem dX2_hungriest_51 : decode cX2_hungriest 51 = .ok (.iload_n 2, 1) := by decide +kernel
theorem dX2_hungriest_52 : decode cX2_hungriest 52 = .ok (.iconst (-1), 1) := by decide +kernel
theorem dX2_hungriest_53 : decode cX2_hungriest 53 = .ok (.if_icmp .eq 9, 3) := by decide +kernel
theorem dX2_hungriest_56 : decode cX2_hungriest 56 = .ok (.iload 5, 2) := by decide +kernel
theorem dX2_hungriest_58 : decode cX2_hungriest 58 = .ok (.iload_n 3, 1) := by decide +kernel
theorem dX2_hungriest_59 : decode cX2_hungriest 59 = .ok (.if_icmp .le 9, 3) := by decide +kernel
theorem dX2_hungriest_62 : decode cX2_hungriest 62 = .ok (.iload 4, 2) := by decide +kernel
theorem dX2_hungriest_64 : decode cX2_hungriest 64 = .ok (.istore_n 2, 1) := by decide +kernel
theorem dX2_hungriest_65 : decode cX2_hungriest 65 = .ok (.iload 5, 2) := by decide +kernel
theorem dX2_hungriest_67 : decode cX2_hungriest 67 = .ok (.istore_n 3, 1) := by decide +kernel
theorem dX2_hungriest_68 : decode cX2_hungriest 68 = .ok (.iinc 4 1, 3) := by decide +kernel
theorem dX2_hungriest_71 : decode cX2_hungriest 71 = .ok (.goto (-64), 3) := by decide +kernel
theorem dX2_hungriest_74 : decode cX2_hungriest 74 = .ok (.iload_n 2, 1) := by decide +kernel
theorem dX2_hungriest_75 : decode cX2_hungriest 75 = .ok (.ireturn, 1) := by decide +kernel
theorem dX2_firstOfLeast_0 : decode cX2_firstOfLeast 0 = .ok (.iconst (-1), 1) := by decide +kernel
theorem dX2_firstOfLeast_1 : decode cX2_firstOfLeast 1 = .ok (.istore_n 1, 1) := by decide +kernel
theorem dX2_firstOfLeast_2 : decode cX2_firstOfLeast 2 = .ok (.iconst 0, 1) := by decide +kernel
theorem dX2_firstOfLeast_3 : decode cX2_firstOfLeast 3 = .ok (.istore_n 2, 1) := by decide +kernel
theorem dX2_firstOfLeast_4 : decode cX2_firstOfLeast 4 = .ok (.iconst 0, 1) := by decide +kernel
theorem dX2_firstOfLeast_5 : decode cX2_firstOfLeast 5 = .ok (.istore_n 3, 1) := by decide +kernel
theorem dX2_firstOfLeast_6 : decode cX2_firstOfLeast 6 = .ok (.iload_n 3, 1) := by decide +kernel
theorem dX2_firstOfLeast_7 : decode cX2_firstOfLeast 7 = .ok (.iconst 5, 1) := by decide +kernel
theorem dX2_firstOfLeast_8 : decode cX2_firstOfLeast 8 = .ok (.if_icmp .ge 41, 3) := by decide +kernel
theorem dX2_firstOfLeast_11 : decode cX2_firstOfLeast 11 = .ok (.aload_n 0, 1) := by decide +kernel
theorem dX2_firstOfLeast_12 : decode cX2_firstOfLeast 12 = .ok (.iload_n 3, 1) := by decide +kernel
theorem dX2_firstOfLeast_13 : decode cX2_firstOfLeast 13 = .ok (.invokevirtual 145, 3) := by decide +kernel
theorem dX2_firstOfLeast_16 : decode cX2_firstOfLeast 16 = .ok (.ifCond .eq 27, 3) := by decide +kernel
theorem dX2_firstOfLeast_19 : decode cX2_firstOfLeast 19 = .ok (.iload_n 1, 1) := by decide +kernel
theorem dX2_firstOfLeast_20 : decode cX2_firstOfLeast 20 = .ok (.iconst (-1), 1) := by decide +kernel
theorem dX2_firstOfLeast_21 : decode cX2_firstOfLeast 21 = .ok (.if_icmp .eq 13, 3) := by decide +kernel
theorem dX2_firstOfLeast_24 : decode cX2_firstOfLeast 24 = .ok (.aload_n 0, 1) := by decide +kernel
theorem dX2_firstOfLeast_25 : decode cX2_firstOfLeast 25 = .ok (.getfield 24, 3) := by decide +kernel
theorem dX2_firstOfLeast_28 : decode cX2_firstOfLeast 28 = .ok (.iload_n 3, 1) := by decide +kernel
theorem dX2_firstOfLeast_29 : decode cX2_firstOfLeast 29 = .ok (.iaload, 1) := by decide +kernel
theorem dX2_firstOfLeast_30 : decode cX2_firstOfLeast 30 = .ok (.iload_n 2, 1) := by decide +kernel
theorem dX2_firstOfLeast_31 : decode cX2_firstOfLeast 31 = .ok (.if_icmp .ge 12, 3) := by decide +kernel
theorem dX2_firstOfLeast_34 : decode cX2_firstOfLeast 34 = .ok (.iload_n 3, 1) := by decide +kernel
theorem dX2_firstOfLeast_35 : decode cX2_firstOfLeast 35 = .ok (.istore_n 1, 1) := by decide +kernel
theorem dX2_firstOfLeast_36 : decode cX2_firstOfLeast 36 = .ok (.aload_n 0, 1) := by decide +kernel
theorem dX2_firstOfLeast_37 : decode cX2_firstOfLeast 37 = .ok (.getfield 24, 3) := by decide +kernel
theorem dX2_firstOfLeast_40 : decode cX2_firstOfLeast 40 = .ok (.iload_n 3, 1) := by decide +kernel
theorem dX2_firstOfLeast_41 : decode cX2_firstOfLeast 41 = .ok (.iaload, 1) := by decide +kernel
theorem dX2_firstOfLeast_42 : decode cX2_firstOfLeast 42 = .ok (.istore_n 2, 1) := by decide +kernel
theorem dX2_firstOfLeast_43 : decode cX2_firstOfLeast 43 = .ok (.iinc 3 1, 3) := by decide +kernel
theorem dX2_firstOfLeast_46 : decode cX2_firstOfLeast 46 = .ok (.goto (-40), 3) := by decide +kernel
theorem dX2_firstOfLeast_49 : decode cX2_firstOfLeast 49 = .ok (.iload_n 1, 1) := by decide +kernel
theorem dX2_firstOfLeast_50 : decode cX2_firstOfLeast 50 = .ok (.ireturn, 1) := by decide +kernel
theorem dX2_mostHad_0 : decode cX2_mostHad 0 = .ok (.iconst 0, 1) := by decide +kernel
theorem dX2_mostHad_1 : decode cX2_mostHad 1 = .ok (.istore_n 1, 1) := by decide +kernel
theorem dX2_mostHad_2 : decode cX2_mostHad 2 = .ok (.iconst 0, 1) := by decide +kernel
theorem dX2_mostHad_3 : decode cX2_mostHad 3 = .ok (.istore_n 2, 1) := by decide +kernel
theorem dX2_mostHad_4 : decode cX2_mostHad 4 = .ok (.iload_n 2, 1) := by decide +kernel
theorem dX2_mostHad_5 : decode cX2_mostHad 5 = .ok (.iconst 5, 1) := by decide +kernel
theorem dX2_mostHad_6 : decode cX2_mostHad 6 = .ok (.if_icmp .ge 28, 3) := by decide +kernel
theorem dX2_mostHad_9 : decode cX2_mostHad 9 = .ok (.aload_n 0, 1) := by decide +kernel
theorem dX2_mostHad_10 : decode cX2_mostHad 10 = .ok (.iload_n 2, 1) := by decide +kernel
theorem dX2_mostHad_11 : decode cX2_mostHad 11 = .ok (.invokevirtual 145, 3) := by decide +kernel
theorem dX2_mostHad_14 : decode cX2_mostHad 14 = .ok (.ifCond .eq 14, 3) := by decide +kernel
theorem dX2_mostHad_17 : decode cX2_mostHad 17 = .ok (.iload_n 1, 1) := by decide +kernel
theorem dX2_mostHad_18 : decode cX2_mostHad 18 = .ok (.aload_n 0, 1) := by decide +kernel
theorem dX2_mostHad_19 : decode cX2_mostHad 19 = .ok (.getfield 24, 3) := by decide +kernel
theorem dX2_mostHad_22 : decode cX2_mostHad 22 = .ok (.iload_n 2, 1) := by decide +kernel
theorem dX2_mostHad_23 : decode cX2_mostHad 23 = .ok (.iaload, 1) := by decide +kernel
theorem dX2_mostHad_24 : decode cX2_mostHad 24 = .ok (.invokestatic 92, 3) := by decide +kernel
theorem dX2_mostHad_27 : decode cX2_mostHad 27 = .ok (.istore_n 1, 1) := by decide +kernel
theorem dX2_mostHad_28 : decode cX2_mostHad 28 = .ok (.iinc 2 1, 3) := by decide +kernel
theorem dX2_mostHad_31 : decode cX2_mostHad 31 = .ok (.goto (-27), 3) := by decide +kernel
theorem dX2_mostHad_34 : decode cX2_mostHad 34 = .ok (.iload_n 1, 1) := by decide +kernel
theorem dX2_mostHad_35 : decode cX2_mostHad 35 = .ok (.ireturn, 1) := by decide +kernel
theorem dX2_isAnswer_0 : decode cX2_isAnswer 0 = .ok (.iload_n 1, 1) := by decide +kernel
theorem dX2_isAnswer_1 : decode cX2_isAnswer 1 = .ok (.bipush 10, 2) := by decide +kernel
theorem dX2_isAnswer_3 : decode cX2_isAnswer 3 = .ok (.if_icmp .ge 18, 3) := by decide +kernel
theorem dX2_isAnswer_6 : decode cX2_isAnswer 6 = .ok (.iload_n 1, 1) := by decide +kernel
theorem dX2_isAnswer_7 : decode cX2_isAnswer 7 = .ok (.ifCond .lt 12, 3) := by decide +kernel
theorem dX2_isAnswer_10 : decode cX2_isAnswer 10 = .ok (.iload_n 1, 1) := by decide +kernel
theorem dX2_isAnswer_11 : decode cX2_isAnswer 11 = .ok (.iconst 3, 1) := by decide +kernel
theorem dX2_isAnswer_12 : decode cX2_isAnswer 12 = .ok (.if_icmp .gt 7, 3) := by decide +kernel
theorem dX2_isAnswer_15 : decode cX2_isAnswer 15 = .ok (.iconst 1, 1) := by decide +kernel
theorem dX2_isAnswer_16 : decode cX2_isAnswer 16 = .ok (.goto 4, 3) := by decide +kernel
theorem dX2_isAnswer_19 : decode cX2_isAnswer 19 = .ok (.iconst 0, 1) := by decide +kernel
theorem dX2_isAnswer_20 : decode cX2_isAnswer 20 = .ok (.ireturn, 1) := by decide +kernel
theorem dX2_isAnswer_21 : decode cX2_isAnswer 21 = .ok (.iload_n 1, 1) := by decide +kernel
theorem dX2_isAnswer_22 : decode cX2_isAnswer 22 = .ok (.bipush 40, 2) := by decide +kernel
theorem dX2_isAnswer_24 : decode cX2_isAnswer 24 = .ok (.if_icmp .ge 21, 3) := by decide +kernel
theorem dX2_isAnswer_27 : decode cX2_isAnswer 27 = .ok (.aload_n 0, 1) := by decide +kernel
theorem dX2_isAnswer_28 : decode cX2_isAnswer 28 = .ok (.getfield 36, 3) := by decide +kernel
theorem dX2_isAnswer_31 : decode cX2_isAnswer 31 = .ok (.iload_n 1, 1) := by decide +kernel
theorem dX2_isAnswer_32 : decode cX2_isAnswer 32 = .ok (.bipush 10, 2) := by decide +kernel
theorem dX2_isAnswer_34 : decode cX2_isAnswer 34 = .ok (.irem, 1) := by decide +kernel
theorem dX2_isAnswer_35 : decode cX2_isAnswer 35 = .ok (.invokevirtual 155, 3) := by decide +kernel
theorem dX2_isAnswer_38 : decode cX2_isAnswer 38 = .ok (.ifCond .eq 7, 3) := by decide +kernel
theorem dX2_isAnswer_41 : decode cX2_isAnswer 41 = .ok (.iconst 1, 1) := by decide +kernel
theorem dX2_isAnswer_42 : decode cX2_isAnswer 42 = .ok (.goto 4, 3) := by decide +kernel
theorem dX2_isAnswer_45 : decode cX2_isAnswer 45 = .ok (.iconst 0, 1) := by decide +kernel
theorem dX2_isAnswer_46 : decode cX2_isAnswer 46 = .ok (.ireturn, 1) := by decide +kernel
theorem dX2_answer_0 : decode cX2_answer 0 = .ok (.iload_n 1, 1) := by decide +kernel
theorem dX2_answer_1 : decode cX2_answer 1 = .ok (.tableswitch 51 0 3 #[31, 36, 41, 46], 31) := by decide +kernel
theorem dX2_answer_32 : decode cX2_answer 32 = .ok (.aload_n 0, 1) := by decide +kernel
theorem dX2_answer_33 : decode cX2_answer 33 = .ok (.getfield 111, 3) := by decide +kernel
theorem dX2_answer_36 : decode cX2_answer 36 = .ok (.ireturn, 1) := by decide +kernel
theorem dX2_answer_37 : decode cX2_answer 37 = .ok (.aload_n 0, 1) := by decide +kernel
theorem dX2_answer_38 : decode cX2_answer 38 = .ok (.getfield 114, 3) := by decide +kernel
theorem dX2_answer_41 : decode cX2_answer 41 = .ok (.ireturn, 1) := by decide +kernel
theorem dX2_answer_42 : decode cX2_answer 42 = .ok (.aload_n 0, 1) := by decide +kernel
theorem dX2_answer_43 : decode cX2_answer 43 = .ok (.getfield 117, 3) := by decide +kernel
theorem dX2_answer_46 : decode cX2_answer 46 = .ok (.ireturn, 1) := by decide +kernel
theorem dX2_answer_47 : decode cX2_answer 47 = .ok (.aload_n 0, 1) := by decide +kernel
theorem dX2_answer_48 : decode cX2_answer 48 = .ok (.getfield 120, 3) := by decide +kernel
theorem dX2_answer_51 : decode cX2_answer 51 = .ok (.ireturn, 1) := by decide +kernel
theorem dX2_answer_52 : decode cX2_answer 52 = .ok (.aload_n 0, 1) := by decide +kernel
theorem dX2_answer_53 : decode cX2_answer 53 = .ok (.iload_n 1, 1) := by decide +kernel
theorem dX2_answer_54 : decode cX2_answer 54 = .ok (.bipush 10, 2) := by decide +kernel
theorem dX2_answer_56 : decode cX2_answer 56 = .ok (.idiv, 1) := by decide +kernel
theorem dX2_answer_57 : decode cX2_answer 57 = .ok (.iload_n 1, 1) := by decide +kernel
theorem dX2_answer_58 : decode cX2_answer 58 = .ok (.bipush 10, 2) := by decide +kernel
theorem dX2_answer_60 : decode cX2_answer 60 = .ok (.irem, 1) := by decide +kernel
theorem dX2_answer_61 : decode cX2_answer 61 = .ok (.invokevirtual 165, 3) := by decide +kernel
theorem dX2_answer_64 : decode cX2_answer 64 = .ok (.ireturn, 1) := by decide +kernel
theorem dX2_ofOne_0 : decode cX2_ofOne 0 = .ok (.aload_n 0, 1) := by decide +kernel
theorem dX2_ofOne_1 : decode cX2_ofOne 1 = .ok (.getfield 36, 3) := by decide +kernel
theorem dX2_ofOne_4 : decode cX2_ofOne 4 = .ok (.iload_n 2, 1) := by decide +kernel
theorem dX2_ofOne_5 : decode cX2_ofOne 5 = .ok (.invokevirtual 155, 3) := by decide +kernel
theorem dX2_ofOne_8 : decode cX2_ofOne 8 = .ok (.ifCond .ne 6, 3) := by decide +kernel
theorem dX2_ofOne_11 : decode cX2_ofOne 11 = .ok (.ldc 168, 2) := by decide +kernel
theorem dX2_ofOne_13 : decode cX2_ofOne 13 = .ok (.ireturn, 1) := by decide +kernel
theorem dX2_ofOne_14 : decode cX2_ofOne 14 = .ok (.iload_n 1, 1) := by decide +kernel
theorem dX2_ofOne_15 : decode cX2_ofOne 15 = .ok (.iconst 1, 1) := by decide +kernel
theorem dX2_ofOne_16 : decode cX2_ofOne 16 = .ok (.if_icmp .ne 10, 3) := by decide +kernel
theorem dX2_ofOne_19 : decode cX2_ofOne 19 = .ok (.aload_n 0, 1) := by decide +kernel
theorem dX2_ofOne_20 : decode cX2_ofOne 20 = .ok (.getfield 24, 3) := by decide +kernel
theorem dX2_ofOne_23 : decode cX2_ofOne 23 = .ok (.iload_n 2, 1) := by decide +kernel
theorem dX2_ofOne_24 : decode cX2_ofOne 24 = .ok (.iaload, 1) := by decide +kernel
theorem dX2_ofOne_25 : decode cX2_ofOne 25 = .ok (.ireturn, 1) := by decide +kernel
theorem dX2_ofOne_26 : decode cX2_ofOne 26 = .ok (.iload_n 1, 1) := by decide +kernel
theorem dX2_ofOne_27 : decode cX2_ofOne 27 = .ok (.iconst 2, 1) := by decide +kernel
theorem dX2_ofOne_28 : decode cX2_ofOne 28 = .ok (.if_icmp .ne 12, 3) := by decide +kernel
theorem dX2_ofOne_31 : decode cX2_ofOne 31 = .ok (.aload_n 0, 1) := by decide +kernel
theorem dX2_ofOne_32 : decode cX2_ofOne 32 = .ok (.getfield 27, 3) := by decide +kernel
theorem dX2_ofOne_35 : decode cX2_ofOne 35 = .ok (.iload_n 2, 1) := by decide +kernel
theorem dX2_ofOne_36 : decode cX2_ofOne 36 = .ok (.iaload, 1) := by decide +kernel
theorem dX2_ofOne_37 : decode cX2_ofOne 37 = .ok (.goto 9, 3) := by decide +kernel
theorem dX2_ofOne_40 : decode cX2_ofOne 40 = .ok (.aload_n 0, 1) := by decide +kernel
theorem dX2_ofOne_41 : decode cX2_ofOne 41 = .ok (.getfield 30, 3) := by decide +kernel
theorem dX2_ofOne_44 : decode cX2_ofOne 44 = .ok (.iload_n 2, 1) := by decide +kernel
theorem dX2_ofOne_45 : decode cX2_ofOne 45 = .ok (.iaload, 1) := by decide +kernel
theorem dX2_ofOne_46 : decode cX2_ofOne 46 = .ok (.ireturn, 1) := by decide +kernel
theorem dX2_lastTold_0 : decode cX2_lastTold 0 = .ok (.aload_n 0, 1) := by decide +kernel
theorem dX2_lastTold_1 : decode cX2_lastTold 1 = .ok (.getfield 36, 3) := by decide +kernel
theorem dX2_lastTold_4 : decode cX2_lastTold 4 = .ok (.iload_n 1, 1) := by decide +kernel
theorem dX2_lastTold_5 : decode cX2_lastTold 5 = .ok (.invokevirtual 155, 3) := by decide +kernel
theorem dX2_lastTold_8 : decode cX2_lastTold 8 = .ok (.ifCond .eq 17, 3) := by decide +kernel
theorem dX2_lastTold_11 : decode cX2_lastTold 11 = .ok (.aload_n 0, 1) := by decide +kernel
theorem dX2_lastTold_12 : decode cX2_lastTold 12 = .ok (.getfield 30, 3) := by decide +kernel
theorem dX2_lastTold_15 : decode cX2_lastTold 15 = .ok (.iload_n 1, 1) := by decide +kernel
theorem dX2_lastTold_16 : decode cX2_lastTold 16 = .ok (.iaload, 1) := by decide +kernel
theorem dX2_lastTold_17 : decode cX2_lastTold 17 = .ok (.bipush 60, 2) := by decide +kernel
theorem dX2_lastTold_19 : decode cX2_lastTold 19 = .ok (.invokestatic 107, 3) := by decide +kernel
theorem dX2_lastTold_22 : decode cX2_lastTold 22 = .ok (.goto 4, 3) := by decide +kernel
theorem dX2_lastTold_25 : decode cX2_lastTold 25 = .ok (.iconst (-1), 1) := by decide +kernel
theorem dX2_lastTold_26 : decode cX2_lastTold 26 = .ok (.ireturn, 1) := by decide +kernel
theorem dX2_within_0 : decode cX2_within 0 = .ok (.iload_n 0, 1) := by decide +kernel
theorem dX2_within_1 : decode cX2_within 1 = .ok (.iload_n 1, 1) := by decide +kernel
theorem dX2_within_2 : decode cX2_within 2 = .ok (.iload_n 2, 1) := by decide +kernel
theorem dX2_within_3 : decode cX2_within 3 = .ok (.invokestatic 107, 3) := by decide +kernel
theorem dX2_within_6 : decode cX2_within 6 = .ok (.invokestatic 92, 3) := by decide +kernel
theorem dX2_within_9 : decode cX2_within 9 = .ok (.ireturn, 1) := by decide +kernel
