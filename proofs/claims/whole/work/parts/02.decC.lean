theorem dX5_init_0 : decode cX5_init 0 = .ok (.aload_n 0, 1) := by decide +kernel
theorem dX5_init_1 : decode cX5_init 1 = .ok (.invokespecial 1, 3) := by decide +kernel
theorem dX5_init_4 : decode cX5_init 4 = .ok (.aload_n 0, 1) := by decide +kernel
theorem dX5_init_5 : decode cX5_init 5 = .ok (.new 7, 3) := by decide +kernel
theorem dX5_init_8 : decode cX5_init 8 = .ok (.dup, 1) := by decide +kernel
theorem dX5_init_9 : decode cX5_init 9 = .ok (.invokespecial 9, 3) := by decide +kernel
theorem dX5_init_12 : decode cX5_init 12 = .ok (.putfield 10, 3) := by decide +kernel
theorem dX5_init_15 : decode cX5_init 15 = .ok (.aload_n 0, 1) := by decide +kernel
theorem dX5_init_16 : decode cX5_init 16 = .ok (.new 7, 3) := by decide +kernel
theorem dX5_init_19 : decode cX5_init 19 = .ok (.dup, 1) := by decide +kernel
theorem dX5_init_20 : decode cX5_init 20 = .ok (.invokespecial 9, 3) := by decide +kernel
theorem dX5_init_23 : decode cX5_init 23 = .ok (.putfield 16, 3) := by decide +kernel
theorem dX5_init_26 : decode cX5_init 26 = .ok (.aload_n 0, 1) := by decide +kernel
theorem dX5_init_27 : decode cX5_init 27 = .ok (.new 19, 3) := by decide +kernel
theorem dX5_init_30 : decode cX5_init 30 = .ok (.dup, 1) := by decide +kernel
theorem dX5_init_31 : decode cX5_init 31 = .ok (.invokespecial 21, 3) := by decide +kernel
theorem dX5_init_34 : decode cX5_init 34 = .ok (.putfield 22, 3) := by decide +kernel
theorem dX5_init_37 : decode cX5_init 37 = .ok (.aload_n 0, 1) := by decide +kernel
theorem dX5_init_38 : decode cX5_init 38 = .ok (.new 26, 3) := by decide +kernel
theorem dX5_init_41 : decode cX5_init 41 = .ok (.dup, 1) := by decide +kernel
theorem dX5_init_42 : decode cX5_init 42 = .ok (.invokespecial 28, 3) := by decide +kernel
theorem dX5_init_45 : decode cX5_init 45 = .ok (.putfield 29, 3) := by decide +kernel
theorem dX5_init_48 : decode cX5_init 48 = .ok (.aload_n 0, 1) := by decide +kernel
theorem dX5_init_49 : decode cX5_init 49 = .ok (.new 33, 3) := by decide +kernel
theorem dX5_init_52 : decode cX5_init 52 = .ok (.dup, 1) := by decide +kernel
theorem dX5_init_53 : decode cX5_init 53 = .ok (.invokespecial 35, 3) := by decide +kernel
theorem dX5_init_56 : decode cX5_init 56 = .ok (.putfield 36, 3) := by decide +kernel
theorem dX5_init_59 : decode cX5_init 59 = .ok (.aload_n 0, 1) := by decide +kernel
theorem dX5_init_60 : decode cX5_init 60 = .ok (.new 40, 3) := by decide +kernel
theorem dX5_init_63 : decode cX5_init 63 = .ok (.dup, 1) := by decide +kernel
theorem dX5_init_64 : decode cX5_init 64 = .ok (.aload_n 0, 1) := by decide +kernel
theorem dX5_init_65 : decode cX5_init 65 = .ok (.getfield 10, 3) := by decide +kernel
theorem dX5_init_68 : decode cX5_init 68 = .ok (.aload_n 0, 1) := by decide +kernel
theorem dX5_init_69 : decode cX5_init 69 = .ok (.getfield 29, 3) := by decide +kernel
theorem dX5_init_72 : decode cX5_init 72 = .ok (.invokespecial 42, 3) := by decide +kernel
theorem dX5_init_75 : decode cX5_init 75 = .ok (.putfield 45, 3) := by decide +kernel
theorem dX5_init_78 : decode cX5_init 78 = .ok (.aload_n 0, 1) := by decide +kernel
theorem dX5_init_79 : decode cX5_init 79 = .ok (.getfield 22, 3) := by decide +kernel
theorem dX5_init_82 : decode cX5_init 82 = .ok (.ldc 49, 2) := by decide +kernel
theorem dX5_init_84 : decode cX5_init 84 = .ok (.invokevirtual 51, 3) := by decide +kernel
theorem dX5_init_87 : decode cX5_init 87 = .ok (.aload_n 0, 1) := by decide +kernel
theorem dX5_init_88 : decode cX5_init 88 = .ok (.getfield 22, 3) := by decide +kernel
theorem dX5_init_91 : decode cX5_init 91 = .ok (.invokevirtual 55, 3) := by decide +kernel
theorem dX5_init_94 : decode cX5_init 94 = .ok (.ifCond .eq 15, 3) := by decide +kernel
theorem dX5_init_97 : decode cX5_init 97 = .ok (.aload_n 0, 1) := by decide +kernel
theorem dX5_init_98 : decode cX5_init 98 = .ok (.getfield 29, 3) := by decide +kernel
theorem dX5_init_101 : decode cX5_init 101 = .ok (.aload_n 0, 1) := by decide +kernel
theorem dX5_init_102 : decode cX5_init 102 = .ok (.getfield 22, 3) := by decide +kernel
theorem dX5_init_105 : decode cX5_init 105 = .ok (.invokevirtual 59, 3) := by decide +kernel
theorem dX5_init_108 : decode cX5_init 108 = .ok (.pop, 1) := by decide +kernel
theorem dX5_init_109 : decode cX5_init 109 = .ok (.return_, 1) := by decide +kernel
theorem dX5_set_0 : decode cX5_set 0 = .ok (.iload_n 1, 1) := by decide +kernel
theorem dX5_set_1 : decode cX5_set 1 = .ok (.ifCond .lt 19, 3) := by decide +kernel
theorem dX5_set_4 : decode cX5_set 4 = .ok (.iload_n 1, 1) := by decide +kernel
theorem dX5_set_5 : decode cX5_set 5 = .ok (.getstatic 63, 3) := by decide +kernel
theorem dX5_set_8 : decode cX5_set 8 = .ok (.arraylength, 1) := by decide +kernel
theorem dX5_set_9 : decode cX5_set 9 = .ok (.if_icmp .ge 11, 3) := by decide +kernel
theorem dX5_set_12 : decode cX5_set 12 = .ok (.iload_n 1, 1) := by decide +kernel
theorem dX5_set_13 : decode cX5_set 13 = .ok (.getstatic 67, 3) := by decide +kernel
theorem dX5_set_16 : decode cX5_set 16 = .ok (.arraylength, 1) := by decide +kernel
theorem dX5_set_17 : decode cX5_set 17 = .ok (.if_icmp .lt 6, 3) := by decide +kernel
theorem dX5_set_20 : decode cX5_set 20 = .ok (.bipush (-2), 2) := by decide +kernel
theorem dX5_set_22 : decode cX5_set 22 = .ok (.ireturn, 1) := by decide +kernel
theorem dX5_set_23 : decode cX5_set 23 = .ok (.iload_n 3, 1) := by decide +kernel
theorem dX5_set_24 : decode cX5_set 24 = .ok (.getstatic 63, 3) := by decide +kernel
theorem dX5_set_27 : decode cX5_set 27 = .ok (.iload_n 1, 1) := by decide +kernel
theorem dX5_set_28 : decode cX5_set 28 = .ok (.iaload, 1) := by decide +kernel
theorem dX5_set_29 : decode cX5_set 29 = .ok (.if_icmp .lt 12, 3) := by decide +kernel
theorem dX5_set_32 : decode cX5_set 32 = .ok (.iload_n 3, 1) := by decide +kernel
theorem dX5_set_33 : decode cX5_set 33 = .ok (.getstatic 67, 3) := by decide +kernel
theorem dX5_set_36 : decode cX5_set 36 = .ok (.iload_n 1, 1) := by decide +kernel
theorem dX5_set_37 : decode cX5_set 37 = .ok (.iaload, 1) := by decide +kernel
theorem dX5_set_38 : decode cX5_set 38 = .ok (.if_icmp .le 6, 3) := by decide +kernel
theorem dX5_set_41 : decode cX5_set 41 = .ok (.bipush (-2), 2) := by decide +kernel
theorem dX5_set_43 : decode cX5_set 43 = .ok (.ireturn, 1) := by decide +kernel
theorem dX5_set_44 : decode cX5_set 44 = .ok (.aload_n 0, 1) := by decide +kernel
theorem dX5_set_45 : decode cX5_set 45 = .ok (.getfield 10, 3) := by decide +kernel
theorem dX5_set_48 : decode cX5_set 48 = .ok (.iload_n 1, 1) := by decide +kernel
theorem dX5_set_49 : decode cX5_set 49 = .ok (.iload_n 2, 1) := by decide +kernel
theorem dX5_set_50 : decode cX5_set 50 = .ok (.iload_n 3, 1) := by decide +kernel
theorem dX5_set_51 : decode cX5_set 51 = .ok (.invokevirtual 70, 3) := by decide +kernel
theorem dX5_set_54 : decode cX5_set 54 = .ok (.ireturn, 1) := by decide +kernel
theorem dX5_eater_0 : decode cX5_eater 0 = .ok (.aload_n 0, 1) := by decide +kernel
theorem dX5_eater_1 : decode cX5_eater 1 = .ok (.getfield 10, 3) := by decide +kernel
theorem dX5_eater_4 : decode cX5_eater 4 = .ok (.iload_n 1, 1) := by decide +kernel
theorem dX5_eater_5 : decode cX5_eater 5 = .ok (.iload_n 2, 1) := by decide +kernel
theorem dX5_eater_6 : decode cX5_eater 6 = .ok (.iload_n 3, 1) := by decide +kernel
theorem dX5_eater_7 : decode cX5_eater 7 = .ok (.invokevirtual 74, 3) := by decide +kernel
theorem dX5_eater_10 : decode cX5_eater 10 = .ok (.ireturn, 1) := by decide +kernel
theorem dX5_told_0 : decode cX5_told 0 = .ok (.aload_n 0, 1) := by decide +kernel
theorem dX5_told_1 : decode cX5_told 1 = .ok (.getfield 10, 3) := by decide +kernel
theorem dX5_told_4 : decode cX5_told 4 = .ok (.iload_n 1, 1) := by decide +kernel
theorem dX5_told_5 : decode cX5_told 5 = .ok (.invokevirtual 77, 3) := by decide +kernel
theorem dX5_told_8 : decode cX5_told 8 = .ok (.ifCond .ne 6, 3) := by decide +kernel
theorem dX5_told_11 : decode cX5_told 11 = .ok (.bipush (-2), 2) := by decide +kernel
theorem dX5_told_13 : decode cX5_told 13 = .ok (.ireturn, 1) := by decide +kernel
theorem dX5_told_14 : decode cX5_told 14 = .ok (.iload_n 2, 1) := by decide +kernel
theorem dX5_told_15 : decode cX5_told 15 = .ok (.tableswitch 123 0 5 #[37, 47, 69, 79, 89, 99], 37) := by decide +kernel
theorem dX5_told_52 : decode cX5_told 52 = .ok (.aload_n 0, 1) := by decide +kernel
theorem dX5_told_53 : decode cX5_told 53 = .ok (.getfield 10, 3) := by decide +kernel
theorem dX5_told_56 : decode cX5_told 56 = .ok (.getfield 81, 3) := by decide +kernel
theorem dX5_told_59 : decode cX5_told 59 = .ok (.iload_n 1, 1) := by decide +kernel
theorem dX5_told_60 : decode cX5_told 60 = .ok (.iaload, 1) := by decide +kernel
theorem dX5_told_61 : decode cX5_told 61 = .ok (.ireturn, 1) := by decide +kernel
theorem dX5_told_62 : decode cX5_told 62 = .ok (.aload_n 0, 1) := by decide +kernel
theorem dX5_told_63 : decode cX5_told 63 = .ok (.getfield 10, 3) := by decide +kernel
theorem dX5_told_66 : decode cX5_told 66 = .ok (.getfield 81, 3) := by decide +kernel
theorem dX5_told_69 : decode cX5_told 69 = .ok (.iload_n 1, 1) := by decide +kernel
theorem dX5_told_70 : decode cX5_told 70 = .ok (.iaload, 1) := by decide +kernel
theorem dX5_told_71 : decode cX5_told 71 = .ok (.aload_n 0, 1) := by decide +kernel
theorem dX5_told_72 : decode cX5_told 72 = .ok (.getfield 10, 3) := by decide +kernel
theorem dX5_told_75 : decode cX5_told 75 = .ok (.getfield 84, 3) := by decide +kernel
theorem dX5_told_78 : decode cX5_told 78 = .ok (.iload_n 1, 1) := by decide +kernel
theorem dX5_told_79 : decode cX5_told 79 = .ok (.iaload, 1) := by decide +kernel
theorem dX5_told_80 : decode cX5_told 80 = .ok (.invokestatic 87, 3) := by decide +kernel
theorem dX5_told_83 : decode cX5_told 83 = .ok (.ireturn, 1) := by decide +kernel
theorem dX5_told_84 : decode cX5_told 84 = .ok (.aload_n 0, 1) := by decide +kernel
theorem dX5_told_85 : decode cX5_told 85 = .ok (.getfield 10, 3) := by decide +kernel
theorem dX5_told_88 : decode cX5_told 88 = .ok (.getfield 91, 3) := by decide +kernel
theorem dX5_told_91 : decode cX5_told 91 = .ok (.iload_n 1, 1) := by decide +kernel
theorem dX5_told_92 : decode cX5_told 92 = .ok (.iaload, 1) := by decide +kernel
theorem dX5_told_93 : decode cX5_told 93 = .ok (.ireturn, 1) := by decide +kernel
theorem dX5_told_94 : decode cX5_told 94 = .ok (.aload_n 0, 1) := by decide +kernel
theorem dX5_told_95 : decode cX5_told 95 = .ok (.getfield 10, 3) := by decide +kernel
theorem dX5_told_98 : decode cX5_told 98 = .ok (.getfield 94, 3) := by decide +kernel
theorem dX5_told_101 : decode cX5_told 101 = .ok (.iload_n 1, 1) := by decide +kernel
theorem dX5_told_102 : decode cX5_told 102 = .ok (.iaload, 1) := by decide +kernel
theorem dX5_told_103 : decode cX5_told 103 = .ok (.ireturn, 1) := by decide +kernel
theorem dX5_told_104 : decode cX5_told 104 = .ok (.aload_n 0, 1) := by decide +kernel
theorem dX5_told_105 : decode cX5_told 105 = .ok (.getfield 10, 3) := by decide +kernel
theorem dX5_told_108 : decode cX5_told 108 = .ok (.getfield 84, 3) := by decide +kernel
theorem dX5_told_111 : decode cX5_told 111 = .ok (.iload_n 1, 1) := by decide +kernel
theorem dX5_told_112 : decode cX5_told 112 = .ok (.iaload, 1) := by decide +kernel
theorem dX5_told_113 : decode cX5_told 113 = .ok (.ireturn, 1) := by decide +kernel
theorem dX5_told_114 : decode cX5_told 114 = .ok (.aload_n 0, 1) := by decide +kernel
theorem dX5_told_115 : decode cX5_told 115 = .ok (.getfield 45, 3) := by decide +kernel
theorem dX5_told_118 : decode cX5_told 118 = .ok (.aload_n 0, 1) := by decide +kernel
theorem dX5_told_119 : decode cX5_told 119 = .ok (.getfield 10, 3) := by decide +kernel
theorem dX5_told_122 : decode cX5_told 122 = .ok (.getfield 97, 3) := by decide +kernel
theorem dX5_told_125 : decode cX5_told 125 = .ok (.invokevirtual 101, 3) := by decide +kernel
theorem dX5_told_128 : decode cX5_told 128 = .ok (.aload_n 0, 1) := by decide +kernel
theorem dX5_told_129 : decode cX5_told 129 = .ok (.getfield 45, 3) := by decide +kernel
theorem dX5_told_132 : decode cX5_told 132 = .ok (.iload_n 1, 1) := by decide +kernel
theorem dX5_told_133 : decode cX5_told 133 = .ok (.iconst 0, 1) := by decide +kernel
theorem dX5_told_134 : decode cX5_told 134 = .ok (.invokevirtual 105, 3) := by decide +kernel
theorem dX5_told_137 : decode cX5_told 137 = .ok (.ireturn, 1) := by decide +kernel
theorem dX5_told_138 : decode cX5_told 138 = .ok (.bipush (-2), 2) := by decide +kernel
theorem dX5_told_140 : decode cX5_told 140 = .ok (.ireturn, 1) := by decide +kernel
theorem dX5_ready_0 : decode cX5_ready 0 = .ok (.iload_n 1, 1) := by decide +kernel
theorem dX5_ready_1 : decode cX5_ready 1 = .ok (.ifCond .lt 20, 3) := by decide +kernel
theorem dX5_ready_4 : decode cX5_ready 4 = .ok (.iload_n 1, 1) := by decide +kernel
theorem dX5_ready_5 : decode cX5_ready 5 = .ok (.aload_n 0, 1) := by decide +kernel
theorem dX5_ready_6 : decode cX5_ready 6 = .ok (.getfield 10, 3) := by decide +kernel
theorem dX5_ready_9 : decode cX5_ready 9 = .ok (.getfield 108, 3) := by decide +kernel
theorem dX5_ready_12 : decode cX5_ready 12 = .ok (.if_icmp .ge 9, 3) := by decide +kernel
theorem dX5_ready_15 : decode cX5_ready 15 = .ok (.iload_n 1, 1) := by decide +kernel
theorem dX5_ready_16 : decode cX5_ready 16 = .ok (.bipush 12, 2) := by decide +kernel
theorem dX5_ready_18 : decode cX5_ready 18 = .ok (.if_icmp .lt 6, 3) := by decide +kernel
theorem dX5_ready_21 : decode cX5_ready 21 = .ok (.bipush (-2), 2) := by decide +kernel
theorem dX5_ready_23 : decode cX5_ready 23 = .ok (.ireturn, 1) := by decide +kernel
theorem dX5_ready_24 : decode cX5_ready 24 = .ok (.aload_n 0, 1) := by decide +kernel
theorem dX5_ready_25 : decode cX5_ready 25 = .ok (.getfield 45, 3) := by decide +kernel
theorem dX5_ready_28 : decode cX5_ready 28 = .ok (.aload_n 0, 1) := by decide +kernel
theorem dX5_ready_29 : decode cX5_ready 29 = .ok (.getfield 10, 3) := by decide +kernel
theorem dX5_ready_32 : decode cX5_ready 32 = .ok (.getfield 97, 3) := by decide +kernel
theorem dX5_ready_35 : decode cX5_ready 35 = .ok (.invokevirtual 111, 3) := by decide +kernel
theorem dX5_ready_38 : decode cX5_ready 38 = .ok (.aload_n 0, 1) := by decide +kernel
theorem dX5_ready_39 : decode cX5_ready 39 = .ok (.getfield 45, 3) := by decide +kernel
theorem dX5_ready_42 : decode cX5_ready 42 = .ok (.getfield 114, 3) := by decide +kernel
theorem dX5_ready_45 : decode cX5_ready 45 = .ok (.iload_n 1, 1) := by decide +kernel
theorem dX5_ready_46 : decode cX5_ready 46 = .ok (.iaload, 1) := by decide +kernel
theorem dX5_ready_47 : decode cX5_ready 47 = .ok (.ireturn, 1) := by decide +kernel
theorem dX5_feed_0 : decode cX5_feed 0 = .ok (.iload_n 1, 1) := by decide +kernel
theorem dX5_feed_1 : decode cX5_feed 1 = .ok (.ifCond .lt 10, 3) := by decide +kernel
theorem dX5_feed_4 : decode cX5_feed 4 = .ok (.iload_n 1, 1) := by decide +kernel
theorem dX5_feed_5 : decode cX5_feed 5 = .ok (.sipush 255, 3) := by decide +kernel
theorem dX5_feed_8 : decode cX5_feed 8 = .ok (.if_icmp .le 6, 3) := by decide +kernel
theorem dX5_feed_11 : decode cX5_feed 11 = .ok (.bipush (-2), 2) := by decide +kernel
theorem dX5_feed_13 : decode cX5_feed 13 = .ok (.ireturn, 1) := by decide +kernel
theorem dX5_feed_14 : decode cX5_feed 14 = .ok (.aload_n 0, 1) := by decide +kernel
theorem dX5_feed_15 : decode cX5_feed 15 = .ok (.getfield 22, 3) := by decide +kernel
theorem dX5_feed_18 : decode cX5_feed 18 = .ok (.iload_n 1, 1) := by decide +kernel
theorem dX5_feed_19 : decode cX5_feed 19 = .ok (.invokevirtual 117, 3) := by decide +kernel
theorem dX5_feed_22 : decode cX5_feed 22 = .ok (.ifCond .eq 13, 3) := by decide +kernel
theorem dX5_feed_25 : decode cX5_feed 25 = .ok (.aload_n 0, 1) := by decide +kernel
theorem dX5_feed_26 : decode cX5_feed 26 = .ok (.getfield 22, 3) := by decide +kernel
theorem dX5_feed_29 : decode cX5_feed 29 = .ok (.getfield 120, 3) := by decide +kernel
theorem dX5_feed_32 : decode cX5_feed 32 = .ok (.goto 5, 3) := by decide +kernel
theorem dX5_feed_35 : decode cX5_feed 35 = .ok (.bipush (-4), 2) := by decide +kernel
theorem dX5_feed_37 : decode cX5_feed 37 = .ok (.ireturn, 1) := by decide +kernel
theorem dX5_text_0 : decode cX5_text 0 = .ok (.aload_n 0, 1) := by decide +kernel
theorem dX5_text_1 : decode cX5_text 1 = .ok (.getfield 29, 3) := by decide +kernel
theorem dX5_text_4 : decode cX5_text 4 = .ok (.getfield 123, 3) := by decide +kernel
theorem dX5_text_7 : decode cX5_text 7 = .ok (.bipush 6, 2) := by decide +kernel
theorem dX5_text_9 : decode cX5_text 9 = .ok (.if_icmp .lt 6, 3) := by decide +kernel
theorem dX5_text_12 : decode cX5_text 12 = .ok (.bipush (-4), 2) := by decide +kernel
theorem dX5_text_14 : decode cX5_text 14 = .ok (.ireturn, 1) := by decide +kernel
theorem dX5_text_15 : decode cX5_text 15 = .ok (.aload_n 0, 1) := by decide +kernel
theorem dX5_text_16 : decode cX5_text 16 = .ok (.getfield 22, 3) := by decide +kernel
theorem dX5_text_19 : decode cX5_text 19 = .ok (.invokevirtual 55, 3) := by decide +kernel
theorem dX5_text_22 : decode cX5_text 22 = .ok (.ifCond .ne 14, 3) := by decide +kernel
theorem dX5_text_25 : decode cX5_text 25 = .ok (.bipush (-100), 2) := by decide +kernel
theorem dX5_text_27 : decode cX5_text 27 = .ok (.aload_n 0, 1) := by decide +kernel
theorem dX5_text_28 : decode cX5_text 28 = .ok (.getfield 22, 3) := by decide +kernel
theorem dX5_text_31 : decode cX5_text 31 = .ok (.getfield 126, 3) := by decide +kernel
theorem dX5_text_34 : decode cX5_text 34 = .ok (.isub, 1) := by decide +kernel
theorem dX5_text_35 : decode cX5_text 35 = .ok (.ireturn, 1) := by decide +kernel
theorem dX5_text_36 : decode cX5_text 36 = .ok (.aload_n 0, 1) := by decide +kernel
theorem dX5_text_37 : decode cX5_text 37 = .ok (.getfield 29, 3) := by decide +kernel
theorem dX5_text_40 : decode cX5_text 40 = .ok (.aload_n 0, 1) := by decide +kernel
theorem dX5_text_41 : decode cX5_text 41 = .ok (.getfield 22, 3) := by decide +kernel
theorem dX5_text_44 : decode cX5_text 44 = .ok (.invokevirtual 59, 3) := by decide +kernel
theorem dX5_text_47 : decode cX5_text 47 = .ok (.ireturn, 1) := by decide +kernel
theorem dX5_force_0 : decode cX5_force 0 = .ok (.iload_n 1, 1) := by decide +kernel
theorem dX5_force_1 : decode cX5_force 1 = .ok (.ifCond .lt 14, 3) := by decide +kernel
theorem dX5_force_4 : decode cX5_force 4 = .ok (.iload_n 1, 1) := by decide +kernel
theorem dX5_force_5 : decode cX5_force 5 = .ok (.aload_n 0, 1) := by decide +kernel
theorem dX5_force_6 : decode cX5_force 6 = .ok (.getfield 29, 3) := by decide +kernel
theorem dX5_force_9 : decode cX5_force 9 = .ok (.getfield 123, 3) := by decide +kernel
theorem dX5_force_12 : decode cX5_force 12 = .ok (.if_icmp .lt 6, 3) := by decide +kernel
theorem dX5_force_15 : decode cX5_force 15 = .ok (.bipush (-2), 2) := by decide +kernel
theorem dX5_force_17 : decode cX5_force 17 = .ok (.ireturn, 1) := by decide +kernel
theorem dX5_force_18 : decode cX5_force 18 = .ok (.aload_n 0, 1) := by decide +kernel
theorem dX5_force_19 : decode cX5_force 19 = .ok (.getfield 10, 3) := by decide +kernel
theorem dX5_force_22 : decode cX5_force 22 = .ok (.getfield 129, 3) := by decide +kernel
theorem dX5_force_25 : decode cX5_force 25 = .ok (.istore_n 2, 1) := by decide +kernel
theorem dX5_force_26 : decode cX5_force 26 = .ok (.aload_n 0, 1) := by decide +kernel
theorem dX5_force_27 : decode cX5_force 27 = .ok (.getfield 10, 3) := by decide +kernel
theorem dX5_force_30 : decode cX5_force 30 = .ok (.iload_n 1, 1) := by decide +kernel
theorem dX5_force_31 : decode cX5_force 31 = .ok (.putfield 129, 3) := by decide +kernel
theorem dX5_force_34 : decode cX5_force 34 = .ok (.iload_n 2, 1) := by decide +kernel
theorem dX5_force_35 : decode cX5_force 35 = .ok (.ireturn, 1) := by decide +kernel
theorem dX5_supper_0 : decode cX5_supper 0 = .ok (.iload_n 1, 1) := by decide +kernel
theorem dX5_supper_1 : decode cX5_supper 1 = .ok (.ifCond .lt 19, 3) := by decide +kernel
theorem dX5_supper_4 : decode cX5_supper 4 = .ok (.iload_n 1, 1) := by decide +kernel
theorem dX5_supper_5 : decode cX5_supper 5 = .ok (.iconst 3, 1) := by decide +kernel
theorem dX5_supper_6 : decode cX5_supper 6 = .ok (.if_icmp .gt 14, 3) := by decide +kernel
theorem dX5_supper_9 : decode cX5_supper 9 = .ok (.aload_n 0, 1) := by decide +kernel
theorem dX5_supper_10 : decode cX5_supper 10 = .ok (.getfield 45, 3) := by decide +kernel
theorem dX5_supper_13 : decode cX5_supper 13 = .ok (.iload_n 3, 1) := by decide +kernel
theorem dX5_supper_14 : decode cX5_supper 14 = .ok (.invokevirtual 132, 3) := by decide +kernel
theorem dX5_supper_17 : decode cX5_supper 17 = .ok (.ifCond .ne 6, 3) := by decide +kernel
theorem dX5_supper_20 : decode cX5_supper 20 = .ok (.ldc 135, 2) := by decide +kernel
theorem dX5_supper_22 : decode cX5_supper 22 = .ok (.ireturn, 1) := by decide +kernel
theorem dX5_supper_23 : decode cX5_supper 23 = .ok (.iload_n 1, 1) := by decide +kernel
theorem dX5_supper_24 : decode cX5_supper 24 = .ok (.ifCond .ne 70, 3) := by decide +kernel
theorem dX5_supper_27 : decode cX5_supper 27 = .ok (.aload_n 0, 1) := by decide +kernel
theorem dX5_supper_28 : decode cX5_supper 28 = .ok (.getfield 36, 3) := by decide +kernel
theorem dX5_supper_31 : decode cX5_supper 31 = .ok (.iload_n 2, 1) := by decide +kernel
theorem dX5_supper_32 : decode cX5_supper 32 = .ok (.invokevirtual 136, 3) := by decide +kernel
theorem dX5_supper_35 : decode cX5_supper 35 = .ok (.ifCond .eq 6, 3) := by decide +kernel
theorem dX5_supper_38 : decode cX5_supper 38 = .ok (.ldc 135, 2) := by decide +kernel
theorem dX5_supper_40 : decode cX5_supper 40 = .ok (.ireturn, 1) := by decide +kernel
theorem dX5_supper_41 : decode cX5_supper 41 = .ok (.iconst 0, 1) := by decide +kernel
theorem dX5_supper_42 : decode cX5_supper 42 = .ok (.istore 4, 2) := by decide +kernel
theorem dX5_supper_44 : decode cX5_supper 44 = .ok (.iload 4, 2) := by decide +kernel
theorem dX5_supper_46 : decode cX5_supper 46 = .ok (.bipush 12, 2) := by decide +kernel
theorem dX5_supper_48 : decode cX5_supper 48 = .ok (.if_icmp .ge 46, 3) := by decide +kernel
theorem dX5_supper_51 : decode cX5_supper 51 = .ok (.aload_n 0, 1) := by decide +kernel
theorem dX5_supper_52 : decode cX5_supper 52 = .ok (.getfield 45, 3) := by decide +kernel
theorem dX5_supper_55 : decode cX5_supper 55 = .ok (.getfield 139, 3) := by decide +kernel
theorem dX5_supper_58 : decode cX5_supper 58 = .ok (.iload 4, 2) := by decide +kernel
theorem dX5_supper_60 : decode cX5_supper 60 = .ok (.iload 4, 2) := by decide +kernel
theorem dX5_supper_62 : decode cX5_supper 62 = .ok (.aload_n 0, 1) := by decide +kernel
theorem dX5_supper_63 : decode cX5_supper 63 = .ok (.getfield 36, 3) := by decide +kernel
theorem dX5_supper_66 : decode cX5_supper 66 = .ok (.iload_n 2, 1) := by decide +kernel
theorem dX5_supper_67 : decode cX5_supper 67 = .ok (.invokevirtual 142, 3) := by decide +kernel
theorem dX5_supper_70 : decode cX5_supper 70 = .ok (.if_icmp .ge 16, 3) := by decide +kernel
theorem dX5_supper_73 : decode cX5_supper 73 = .ok (.aload_n 0, 1) := by decide +kernel
theorem dX5_supper_74 : decode cX5_supper 74 = .ok (.getfield 36, 3) := by decide +kernel
theorem dX5_supper_77 : decode cX5_supper 77 = .ok (.iload_n 2, 1) := by decide +kernel
theorem dX5_supper_78 : decode cX5_supper 78 = .ok (.iload 4, 2) := by decide +kernel
theorem dX5_supper_80 : decode cX5_supper 80 = .ok (.invokevirtual 146, 3) := by decide +kernel
theorem dX5_supper_83 : decode cX5_supper 83 = .ok (.goto 4, 3) := by decide +kernel
theorem dX5_supper_86 : decode cX5_supper 86 = .ok (.iconst (-1), 1) := by decide +kernel
theorem dX5_supper_87 : decode cX5_supper 87 = .ok (.iastore, 1) := by decide +kernel
theorem dX5_supper_88 : decode cX5_supper 88 = .ok (.iinc 4 1, 3) := by decide +kernel
theorem dX5_supper_91 : decode cX5_supper 91 = .ok (.goto (-47), 3) := by decide +kernel
theorem dX5_supper_94 : decode cX5_supper 94 = .ok (.aload_n 0, 1) := by decide +kernel
theorem dX5_supper_95 : decode cX5_supper 95 = .ok (.getfield 45, 3) := by decide +kernel
theorem dX5_supper_98 : decode cX5_supper 98 = .ok (.aload_n 0, 1) := by decide +kernel
theorem dX5_supper_99 : decode cX5_supper 99 = .ok (.getfield 10, 3) := by decide +kernel
theorem dX5_supper_102 : decode cX5_supper 102 = .ok (.getfield 97, 3) := by decide +kernel
theorem dX5_supper_105 : decode cX5_supper 105 = .ok (.invokevirtual 101, 3) := by decide +kernel
theorem dX5_supper_108 : decode cX5_supper 108 = .ok (.aload_n 0, 1) := by decide +kernel
theorem dX5_supper_109 : decode cX5_supper 109 = .ok (.getfield 45, 3) := by decide +kernel
theorem dX5_supper_112 : decode cX5_supper 112 = .ok (.iload_n 1, 1) := by decide +kernel
theorem dX5_supper_113 : decode cX5_supper 113 = .ok (.invokevirtual 149, 3) := by decide +kernel
theorem dX5_supper_116 : decode cX5_supper 116 = .ok (.aload_n 0, 1) := by decide +kernel
theorem dX5_supper_117 : decode cX5_supper 117 = .ok (.getfield 45, 3) := by decide +kernel
theorem dX5_supper_120 : decode cX5_supper 120 = .ok (.iload_n 3, 1) := by decide +kernel
theorem dX5_supper_121 : decode cX5_supper 121 = .ok (.invokevirtual 152, 3) := by decide +kernel
theorem dX5_supper_124 : decode cX5_supper 124 = .ok (.ireturn, 1) := by decide +kernel
theorem dX5_heap_0 : decode cX5_heap 0 = .ok (.iload_n 1, 1) := by decide +kernel
theorem dX5_heap_1 : decode cX5_heap 1 = .ok (.iconst 1, 1) := by decide +kernel
theorem dX5_heap_2 : decode cX5_heap 2 = .ok (.if_icmp .lt 20, 3) := by decide +kernel
theorem dX5_heap_5 : decode cX5_heap 5 = .ok (.iload_n 1, 1) := by decide +kernel
theorem dX5_heap_6 : decode cX5_heap 6 = .ok (.bipush 12, 2) := by decide +kernel
theorem dX5_heap_8 : decode cX5_heap 8 = .ok (.if_icmp .gt 14, 3) := by decide +kernel
theorem dX5_heap_11 : decode cX5_heap 11 = .ok (.aload_n 0, 1) := by decide +kernel
theorem dX5_heap_12 : decode cX5_heap 12 = .ok (.getfield 45, 3) := by decide +kernel
theorem dX5_heap_15 : decode cX5_heap 15 = .ok (.iload_n 2, 1) := by decide +kernel
theorem dX5_heap_16 : decode cX5_heap 16 = .ok (.invokevirtual 132, 3) := by decide +kernel
theorem dX5_heap_19 : decode cX5_heap 19 = .ok (.ifCond .ne 6, 3) := by decide +kernel
theorem dX5_heap_22 : decode cX5_heap 22 = .ok (.ldc 135, 2) := by decide +kernel
theorem dX5_heap_24 : decode cX5_heap 24 = .ok (.ireturn, 1) := by decide +kernel
theorem dX5_heap_25 : decode cX5_heap 25 = .ok (.aload_n 0, 1) := by decide +kernel
theorem dX5_heap_26 : decode cX5_heap 26 = .ok (.getfield 45, 3) := by decide +kernel
theorem dX5_heap_29 : decode cX5_heap 29 = .ok (.aload_n 0, 1) := by decide +kernel
theorem dX5_heap_30 : decode cX5_heap 30 = .ok (.getfield 10, 3) := by decide +kernel
theorem dX5_heap_33 : decode cX5_heap 33 = .ok (.getfield 97, 3) := by decide +kernel
theorem dX5_heap_36 : decode cX5_heap 36 = .ok (.invokevirtual 101, 3) := by decide +kernel
theorem dX5_heap_39 : decode cX5_heap 39 = .ok (.aload_n 0, 1) := by decide +kernel
theorem dX5_heap_40 : decode cX5_heap 40 = .ok (.getfield 45, 3) := by decide +kernel
theorem dX5_heap_43 : decode cX5_heap 43 = .ok (.iload_n 1, 1) := by decide +kernel
theorem dX5_heap_44 : decode cX5_heap 44 = .ok (.invokevirtual 155, 3) := by decide +kernel
theorem dX5_heap_47 : decode cX5_heap 47 = .ok (.aload_n 0, 1) := by decide +kernel
theorem dX5_heap_48 : decode cX5_heap 48 = .ok (.getfield 45, 3) := by decide +kernel
theorem dX5_heap_51 : decode cX5_heap 51 = .ok (.iconst 1, 1) := by decide +kernel
theorem dX5_heap_52 : decode cX5_heap 52 = .ok (.invokevirtual 149, 3) := by decide +kernel
theorem dX5_heap_55 : decode cX5_heap 55 = .ok (.aload_n 0, 1) := by decide +kernel
theorem dX5_heap_56 : decode cX5_heap 56 = .ok (.getfield 45, 3) := by decide +kernel
theorem dX5_heap_59 : decode cX5_heap 59 = .ok (.iload_n 2, 1) := by decide +kernel
theorem dX5_heap_60 : decode cX5_heap 60 = .ok (.invokevirtual 152, 3) := by decide +kernel
theorem dX5_heap_63 : decode cX5_heap 63 = .ok (.ireturn, 1) := by decide +kernel
theorem dX5_best_0 : decode cX5_best 0 = .ok (.iload_n 1, 1) := by decide +kernel
theorem dX5_best_1 : decode cX5_best 1 = .ok (.ifCond .lt 30, 3) := by decide +kernel
theorem dX5_best_4 : decode cX5_best 4 = .ok (.iload_n 1, 1) := by decide +kernel
theorem dX5_best_5 : decode cX5_best 5 = .ok (.iconst 4, 1) := by decide +kernel
theorem dX5_best_6 : decode cX5_best 6 = .ok (.if_icmp .gt 25, 3) := by decide +kernel
theorem dX5_best_9 : decode cX5_best 9 = .ok (.iload_n 1, 1) := by decide +kernel
theorem dX5_best_10 : decode cX5_best 10 = .ok (.aload_n 0, 1) := by decide +kernel
theorem dX5_best_11 : decode cX5_best 11 = .ok (.getfield 10, 3) := by decide +kernel
theorem dX5_best_14 : decode cX5_best 14 = .ok (.getfield 108, 3) := by decide +kernel
theorem dX5_best_17 : decode cX5_best 17 = .ok (.if_icmp .gt 14, 3) := by decide +kernel
theorem dX5_best_20 : decode cX5_best 20 = .ok (.aload_n 0, 1) := by decide +kernel
theorem dX5_best_21 : decode cX5_best 21 = .ok (.getfield 10, 3) := by decide +kernel
theorem dX5_best_24 : decode cX5_best 24 = .ok (.getfield 158, 3) := by decide +kernel
theorem dX5_best_27 : decode cX5_best 27 = .ok (.iconst 1, 1) := by decide +kernel
theorem dX5_best_28 : decode cX5_best 28 = .ok (.if_icmp .ge 6, 3) := by decide +kernel
theorem dX5_best_31 : decode cX5_best 31 = .ok (.ldc 135, 2) := by decide +kernel
theorem dX5_best_33 : decode cX5_best 33 = .ok (.ireturn, 1) := by decide +kernel
theorem dX5_best_34 : decode cX5_best 34 = .ok (.iload_n 2, 1) := by decide +kernel
theorem dX5_best_35 : decode cX5_best 35 = .ok (.iconst (-1), 1) := by decide +kernel
theorem dX5_best_36 : decode cX5_best 36 = .ok (.if_icmp .lt 8, 3) := by decide +kernel
theorem dX5_best_39 : decode cX5_best 39 = .ok (.iload_n 2, 1) := by decide +kernel
theorem dX5_best_40 : decode cX5_best 40 = .ok (.iload_n 1, 1) := by decide +kernel
theorem dX5_best_41 : decode cX5_best 41 = .ok (.if_icmp .lt 6, 3) := by decide +kernel
theorem dX5_best_44 : decode cX5_best 44 = .ok (.ldc 135, 2) := by decide +kernel
theorem dX5_best_46 : decode cX5_best 46 = .ok (.ireturn, 1) := by decide +kernel
theorem dX5_best_47 : decode cX5_best 47 = .ok (.aload_n 0, 1) := by decide +kernel
theorem dX5_best_48 : decode cX5_best 48 = .ok (.getfield 45, 3) := by decide +kernel
theorem dX5_best_51 : decode cX5_best 51 = .ok (.aload_n 0, 1) := by decide +kernel
theorem dX5_best_52 : decode cX5_best 52 = .ok (.getfield 10, 3) := by decide +kernel
theorem dX5_best_55 : decode cX5_best 55 = .ok (.getfield 97, 3) := by decide +kernel
theorem dX5_best_58 : decode cX5_best 58 = .ok (.invokevirtual 101, 3) := by decide +kernel
theorem dX5_best_61 : decode cX5_best 61 = .ok (.aload_n 0, 1) := by decide +kernel
theorem dX5_best_62 : decode cX5_best 62 = .ok (.getfield 45, 3) := by decide +kernel
theorem dX5_best_65 : decode cX5_best 65 = .ok (.invokevirtual 161, 3) := by decide +kernel
theorem dX5_best_68 : decode cX5_best 68 = .ok (.iconst 1, 1) := by decide +kernel
theorem dX5_best_69 : decode cX5_best 69 = .ok (.istore_n 3, 1) := by decide +kernel
theorem dX5_best_70 : decode cX5_best 70 = .ok (.iconst 0, 1) := by decide +kernel
theorem dX5_best_71 : decode cX5_best 71 = .ok (.istore 4, 2) := by decide +kernel
theorem dX5_best_73 : decode cX5_best 73 = .ok (.iload 4, 2) := by decide +kernel
theorem dX5_best_75 : decode cX5_best 75 = .ok (.iload_n 1, 1) := by decide +kernel
theorem dX5_best_76 : decode cX5_best 76 = .ok (.if_icmp .ge 19, 3) := by decide +kernel
theorem dX5_best_79 : decode cX5_best 79 = .ok (.iload_n 3, 1) := by decide +kernel
theorem dX5_best_80 : decode cX5_best 80 = .ok (.aload_n 0, 1) := by decide +kernel
theorem dX5_best_81 : decode cX5_best 81 = .ok (.getfield 10, 3) := by decide +kernel
theorem dX5_best_84 : decode cX5_best 84 = .ok (.getfield 158, 3) := by decide +kernel
theorem dX5_best_87 : decode cX5_best 87 = .ok (.imul, 1) := by decide +kernel
theorem dX5_best_88 : decode cX5_best 88 = .ok (.istore_n 3, 1) := by decide +kernel
theorem dX5_best_89 : decode cX5_best 89 = .ok (.iinc 4 1, 3) := by decide +kernel
theorem dX5_best_92 : decode cX5_best 92 = .ok (.goto (-19), 3) := by decide +kernel
theorem dX5_best_95 : decode cX5_best 95 = .ok (.iconst (-1), 1) := by decide +kernel
theorem dX5_best_96 : decode cX5_best 96 = .ok (.istore 4, 2) := by decide +kernel
theorem dX5_best_98 : decode cX5_best 98 = .ok (.iconst 0, 1) := by decide +kernel
theorem dX5_best_99 : decode cX5_best 99 = .ok (.istore 5, 2) := by decide +kernel
theorem dX5_best_101 : decode cX5_best 101 = .ok (.iconst 0, 1) := by decide +kernel
theorem dX5_best_102 : decode cX5_best 102 = .ok (.istore 6, 2) := by decide +kernel
theorem dX5_best_104 : decode cX5_best 104 = .ok (.iload 6, 2) := by decide +kernel
theorem dX5_best_106 : decode cX5_best 106 = .ok (.iload_n 3, 1) := by decide +kernel
theorem dX5_best_107 : decode cX5_best 107 = .ok (.if_icmp .ge 66, 3) := by decide +kernel
theorem dX5_best_110 : decode cX5_best 110 = .ok (.iload 6, 2) := by decide +kernel
theorem dX5_best_112 : decode cX5_best 112 = .ok (.sipush 625, 3) := by decide +kernel
theorem dX5_best_115 : decode cX5_best 115 = .ok (.if_icmp .ge 58, 3) := by decide +kernel
theorem dX5_best_118 : decode cX5_best 118 = .ok (.aload_n 0, 1) := by decide +kernel
theorem dX5_best_119 : decode cX5_best 119 = .ok (.getfield 45, 3) := by decide +kernel
theorem dX5_best_122 : decode cX5_best 122 = .ok (.iload_n 1, 1) := by decide +kernel
theorem dX5_best_123 : decode cX5_best 123 = .ok (.iload 6, 2) := by decide +kernel
theorem dX5_best_125 : decode cX5_best 125 = .ok (.invokevirtual 164, 3) := by decide +kernel
theorem dX5_best_128 : decode cX5_best 128 = .ok (.aload_n 0, 1) := by decide +kernel
theorem dX5_best_129 : decode cX5_best 129 = .ok (.getfield 45, 3) := by decide +kernel
theorem dX5_best_132 : decode cX5_best 132 = .ok (.iconst 0, 1) := by decide +kernel
theorem dX5_best_133 : decode cX5_best 133 = .ok (.invokevirtual 149, 3) := by decide +kernel
theorem dX5_best_136 : decode cX5_best 136 = .ok (.iload 4, 2) := by decide +kernel
theorem dX5_best_138 : decode cX5_best 138 = .ok (.iconst (-1), 1) := by decide +kernel
theorem dX5_best_139 : decode cX5_best 139 = .ok (.if_icmp .eq 15, 3) := by decide +kernel
theorem dX5_best_142 : decode cX5_best 142 = .ok (.aload_n 0, 1) := by decide +kernel
theorem dX5_best_143 : decode cX5_best 143 = .ok (.getfield 45, 3) := by decide +kernel
theorem dX5_best_146 : decode cX5_best 146 = .ok (.getfield 168, 3) := by decide +kernel
theorem dX5_best_149 : decode cX5_best 149 = .ok (.iload 5, 2) := by decide +kernel
theorem dX5_best_151 : decode cX5_best 151 = .ok (.if_icmp .ge 16, 3) := by decide +kernel
theorem dX5_best_154 : decode cX5_best 154 = .ok (.iload 6, 2) := by decide +kernel
theorem dX5_best_156 : decode cX5_best 156 = .ok (.istore 4, 2) := by decide +kernel
theorem dX5_best_158 : decode cX5_best 158 = .ok (.aload_n 0, 1) := by decide +kernel
theorem dX5_best_159 : decode cX5_best 159 = .ok (.getfield 45, 3) := by decide +kernel
theorem dX5_best_162 : decode cX5_best 162 = .ok (.getfield 168, 3) := by decide +kernel
theorem dX5_best_165 : decode cX5_best 165 = .ok (.istore 5, 2) := by decide +kernel
theorem dX5_best_167 : decode cX5_best 167 = .ok (.iinc 6 1, 3) := by decide +kernel
theorem dX5_best_170 : decode cX5_best 170 = .ok (.goto (-66), 3) := by decide +kernel
theorem dX5_best_173 : decode cX5_best 173 = .ok (.iload_n 2, 1) := by decide +kernel
theorem dX5_best_174 : decode cX5_best 174 = .ok (.iconst (-1), 1) := by decide +kernel
theorem dX5_best_175 : decode cX5_best 175 = .ok (.if_icmp .ne 6, 3) := by decide +kernel
theorem dX5_best_178 : decode cX5_best 178 = .ok (.iload 5, 2) := by decide +kernel
theorem dX5_best_180 : decode cX5_best 180 = .ok (.ireturn, 1) := by decide +kernel
theorem dX5_best_181 : decode cX5_best 181 = .ok (.aload_n 0, 1) := by decide +kernel
theorem dX5_best_182 : decode cX5_best 182 = .ok (.getfield 45, 3) := by decide +kernel
theorem dX5_best_185 : decode cX5_best 185 = .ok (.iload_n 1, 1) := by decide +kernel
theorem dX5_best_186 : decode cX5_best 186 = .ok (.iload 4, 2) := by decide +kernel
theorem dX5_best_188 : decode cX5_best 188 = .ok (.invokevirtual 164, 3) := by decide +kernel
theorem dX5_best_191 : decode cX5_best 191 = .ok (.aload_n 0, 1) := by decide +kernel
theorem dX5_best_192 : decode cX5_best 192 = .ok (.getfield 45, 3) := by decide +kernel
theorem dX5_best_195 : decode cX5_best 195 = .ok (.getfield 139, 3) := by decide +kernel
theorem dX5_best_198 : decode cX5_best 198 = .ok (.iload_n 2, 1) := by decide +kernel
theorem dX5_best_199 : decode cX5_best 199 = .ok (.iaload, 1) := by decide +kernel
theorem dX5_best_200 : decode cX5_best 200 = .ok (.ireturn, 1) := by decide +kernel
theorem dX5_keep_0 : decode cX5_keep 0 = .ok (.iload_n 1, 1) := by decide +kernel
theorem dX5_keep_1 : decode cX5_keep 1 = .ok (.ifCond .eq 11, 3) := by decide +kernel
theorem dX5_keep_4 : decode cX5_keep 4 = .ok (.iload_n 1, 1) := by decide +kernel
theorem dX5_keep_5 : decode cX5_keep 5 = .ok (.iconst 1, 1) := by decide +kernel
theorem dX5_keep_6 : decode cX5_keep 6 = .ok (.if_icmp .eq 6, 3) := by decide +kernel
theorem dX5_keep_9 : decode cX5_keep 9 = .ok (.ldc 135, 2) := by decide +kernel
theorem dX5_keep_11 : decode cX5_keep 11 = .ok (.ireturn, 1) := by decide +kernel
theorem dX5_keep_12 : decode cX5_keep 12 = .ok (.aload_n 0, 1) := by decide +kernel
theorem dX5_keep_13 : decode cX5_keep 13 = .ok (.getfield 45, 3) := by decide +kernel
theorem dX5_keep_16 : decode cX5_keep 16 = .ok (.aload_n 0, 1) := by decide +kernel
theorem dX5_keep_17 : decode cX5_keep 17 = .ok (.getfield 10, 3) := by decide +kernel
theorem dX5_keep_20 : decode cX5_keep 20 = .ok (.getfield 97, 3) := by decide +kernel
theorem dX5_keep_23 : decode cX5_keep 23 = .ok (.invokevirtual 101, 3) := by decide +kernel
theorem dX5_keep_26 : decode cX5_keep 26 = .ok (.iconst (-1), 1) := by decide +kernel
theorem dX5_keep_27 : decode cX5_keep 27 = .ok (.istore_n 2, 1) := by decide +kernel
theorem dX5_keep_28 : decode cX5_keep 28 = .ok (.iconst 0, 1) := by decide +kernel
theorem dX5_keep_29 : decode cX5_keep 29 = .ok (.istore_n 3, 1) := by decide +kernel
theorem dX5_keep_30 : decode cX5_keep 30 = .ok (.iconst 1, 1) := by decide +kernel
theorem dX5_keep_31 : decode cX5_keep 31 = .ok (.istore 4, 2) := by decide +kernel
theorem dX5_keep_33 : decode cX5_keep 33 = .ok (.iload 4, 2) := by decide +kernel
theorem dX5_keep_35 : decode cX5_keep 35 = .ok (.bipush 12, 2) := by decide +kernel
theorem dX5_keep_37 : decode cX5_keep 37 = .ok (.if_icmp .gt 53, 3) := by decide +kernel
theorem dX5_keep_40 : decode cX5_keep 40 = .ok (.aload_n 0, 1) := by decide +kernel
theorem dX5_keep_41 : decode cX5_keep 41 = .ok (.getfield 45, 3) := by decide +kernel
theorem dX5_keep_44 : decode cX5_keep 44 = .ok (.iload 4, 2) := by decide +kernel
theorem dX5_keep_46 : decode cX5_keep 46 = .ok (.invokevirtual 155, 3) := by decide +kernel
theorem dX5_keep_49 : decode cX5_keep 49 = .ok (.aload_n 0, 1) := by decide +kernel
theorem dX5_keep_50 : decode cX5_keep 50 = .ok (.getfield 45, 3) := by decide +kernel
theorem dX5_keep_53 : decode cX5_keep 53 = .ok (.iconst 1, 1) := by decide +kernel
theorem dX5_keep_54 : decode cX5_keep 54 = .ok (.invokevirtual 149, 3) := by decide +kernel
theorem dX5_keep_57 : decode cX5_keep 57 = .ok (.iload_n 2, 1) := by decide +kernel
theorem dX5_keep_58 : decode cX5_keep 58 = .ok (.iconst (-1), 1) := by decide +kernel
theorem dX5_keep_59 : decode cX5_keep 59 = .ok (.if_icmp .eq 14, 3) := by decide +kernel
theorem dX5_keep_62 : decode cX5_keep 62 = .ok (.aload_n 0, 1) := by decide +kernel
theorem dX5_keep_63 : decode cX5_keep 63 = .ok (.getfield 45, 3) := by decide +kernel
theorem dX5_keep_66 : decode cX5_keep 66 = .ok (.getfield 168, 3) := by decide +kernel
theorem dX5_keep_69 : decode cX5_keep 69 = .ok (.iload_n 3, 1) := by decide +kernel
theorem dX5_keep_70 : decode cX5_keep 70 = .ok (.if_icmp .ge 14, 3) := by decide +kernel
theorem dX5_keep_73 : decode cX5_keep 73 = .ok (.iload 4, 2) := by decide +kernel
theorem dX5_keep_75 : decode cX5_keep 75 = .ok (.istore_n 2, 1) := by decide +kernel
theorem dX5_keep_76 : decode cX5_keep 76 = .ok (.aload_n 0, 1) := by decide +kernel
theorem dX5_keep_77 : decode cX5_keep 77 = .ok (.getfield 45, 3) := by decide +kernel
theorem dX5_keep_80 : decode cX5_keep 80 = .ok (.getfield 168, 3) := by decide +kernel
theorem dX5_keep_83 : decode cX5_keep 83 = .ok (.istore_n 3, 1) := by decide +kernel
theorem dX5_keep_84 : decode cX5_keep 84 = .ok (.iinc 4 1, 3) := by decide +kernel
theorem dX5_keep_87 : decode cX5_keep 87 = .ok (.goto (-54), 3) := by decide +kernel
theorem dX5_keep_90 : decode cX5_keep 90 = .ok (.iload_n 1, 1) := by decide +kernel
theorem dX5_keep_91 : decode cX5_keep 91 = .ok (.ifCond .ne 7, 3) := by decide +kernel
theorem dX5_keep_94 : decode cX5_keep 94 = .ok (.iload_n 2, 1) := by decide +kernel
theorem dX5_keep_95 : decode cX5_keep 95 = .ok (.goto 4, 3) := by decide +kernel
theorem dX5_keep_98 : decode cX5_keep 98 = .ok (.iload_n 3, 1) := by decide +kernel
theorem dX5_keep_99 : decode cX5_keep 99 = .ok (.ireturn, 1) := by decide +kernel
theorem dX5_second_0 : decode cX5_second 0 = .ok (.aload_n 0, 1) := by decide +kernel
theorem dX5_second_1 : decode cX5_second 1 = .ok (.getfield 45, 3) := by decide +kernel
theorem dX5_second_4 : decode cX5_second 4 = .ok (.iconst 1, 1) := by decide +kernel
theorem dX5_second_5 : decode cX5_second 5 = .ok (.invokevirtual 101, 3) := by decide +kernel
theorem dX5_second_8 : decode cX5_second 8 = .ok (.aload_n 0, 1) := by decide +kernel
theorem dX5_second_9 : decode cX5_second 9 = .ok (.getfield 45, 3) := by decide +kernel
theorem dX5_second_12 : decode cX5_second 12 = .ok (.iconst 2, 1) := by decide +kernel
theorem dX5_second_13 : decode cX5_second 13 = .ok (.invokevirtual 149, 3) := by decide +kernel
theorem dX5_second_16 : decode cX5_second 16 = .ok (.aload_n 0, 1) := by decide +kernel
theorem dX5_second_17 : decode cX5_second 17 = .ok (.getfield 45, 3) := by decide +kernel
theorem dX5_second_20 : decode cX5_second 20 = .ok (.getfield 168, 3) := by decide +kernel
theorem dX5_second_23 : decode cX5_second 23 = .ok (.istore_n 1, 1) := by decide +kernel
theorem dX5_second_24 : decode cX5_second 24 = .ok (.aload_n 0, 1) := by decide +kernel
theorem dX5_second_25 : decode cX5_second 25 = .ok (.getfield 45, 3) := by decide +kernel
theorem dX5_second_28 : decode cX5_second 28 = .ok (.iconst 2, 1) := by decide +kernel
theorem dX5_second_29 : decode cX5_second 29 = .ok (.invokevirtual 101, 3) := by decide +kernel
theorem dX5_second_32 : decode cX5_second 32 = .ok (.aload_n 0, 1) := by decide +kernel
theorem dX5_second_33 : decode cX5_second 33 = .ok (.getfield 45, 3) := by decide +kernel
theorem dX5_second_36 : decode cX5_second 36 = .ok (.iconst 2, 1) := by decide +kernel
theorem dX5_second_37 : decode cX5_second 37 = .ok (.invokevirtual 149, 3) := by decide +kernel
theorem dX5_second_40 : decode cX5_second 40 = .ok (.iload_n 1, 1) := by decide +kernel
theorem dX5_second_41 : decode cX5_second 41 = .ok (.aload_n 0, 1) := by decide +kernel
theorem dX5_second_42 : decode cX5_second 42 = .ok (.getfield 45, 3) := by decide +kernel
theorem dX5_second_45 : decode cX5_second 45 = .ok (.getfield 168, 3) := by decide +kernel
theorem dX5_second_48 : decode cX5_second 48 = .ok (.isub, 1) := by decide +kernel
theorem dX5_second_49 : decode cX5_second 49 = .ok (.ireturn, 1) := by decide +kernel
theorem dX5_leave_0 : decode cX5_leave 0 = .ok (.aload_n 0, 1) := by decide +kernel
theorem dX5_leave_1 : decode cX5_leave 1 = .ok (.getfield 45, 3) := by decide +kernel
theorem dX5_leave_4 : decode cX5_leave 4 = .ok (.aload_n 0, 1) := by decide +kernel
theorem dX5_leave_5 : decode cX5_leave 5 = .ok (.getfield 10, 3) := by decide +kernel
theorem dX5_leave_8 : decode cX5_leave 8 = .ok (.getfield 97, 3) := by decide +kernel
theorem dX5_leave_11 : decode cX5_leave 11 = .ok (.invokevirtual 101, 3) := by decide +kernel
theorem dX5_leave_14 : decode cX5_leave 14 = .ok (.iconst (-1), 1) := by decide +kernel
theorem dX5_leave_15 : decode cX5_leave 15 = .ok (.istore_n 1, 1) := by decide +kernel
theorem dX5_leave_16 : decode cX5_leave 16 = .ok (.iconst 0, 1) := by decide +kernel
theorem dX5_leave_17 : decode cX5_leave 17 = .ok (.istore_n 2, 1) := by decide +kernel
theorem dX5_leave_18 : decode cX5_leave 18 = .ok (.iconst 0, 1) := by decide +kernel
theorem dX5_leave_19 : decode cX5_leave 19 = .ok (.istore_n 3, 1) := by decide +kernel
theorem dX5_leave_20 : decode cX5_leave 20 = .ok (.iload_n 3, 1) := by decide +kernel
theorem dX5_leave_21 : decode cX5_leave 21 = .ok (.iconst 5, 1) := by decide +kernel
theorem dX5_leave_22 : decode cX5_leave 22 = .ok (.if_icmp .ge 62, 3) := by decide +kernel
theorem dX5_leave_25 : decode cX5_leave 25 = .ok (.iload_n 3, 1) := by decide +kernel
theorem dX5_leave_26 : decode cX5_leave 26 = .ok (.aload_n 0, 1) := by decide +kernel
theorem dX5_leave_27 : decode cX5_leave 27 = .ok (.getfield 10, 3) := by decide +kernel
theorem dX5_leave_30 : decode cX5_leave 30 = .ok (.getfield 158, 3) := by decide +kernel
theorem dX5_leave_33 : decode cX5_leave 33 = .ok (.if_icmp .ge 51, 3) := by decide +kernel
theorem dX5_leave_36 : decode cX5_leave 36 = .ok (.aload_n 0, 1) := by decide +kernel
theorem dX5_leave_37 : decode cX5_leave 37 = .ok (.getfield 45, 3) := by decide +kernel
theorem dX5_leave_40 : decode cX5_leave 40 = .ok (.iload_n 3, 1) := by decide +kernel
theorem dX5_leave_41 : decode cX5_leave 41 = .ok (.putfield 171, 3) := by decide +kernel
theorem dX5_leave_44 : decode cX5_leave 44 = .ok (.aload_n 0, 1) := by decide +kernel
theorem dX5_leave_45 : decode cX5_leave 45 = .ok (.getfield 45, 3) := by decide +kernel
theorem dX5_leave_48 : decode cX5_leave 48 = .ok (.iconst 2, 1) := by decide +kernel
theorem dX5_leave_49 : decode cX5_leave 49 = .ok (.invokevirtual 149, 3) := by decide +kernel
theorem dX5_leave_52 : decode cX5_leave 52 = .ok (.iload_n 1, 1) := by decide +kernel
theorem dX5_leave_53 : decode cX5_leave 53 = .ok (.iconst (-1), 1) := by decide +kernel
theorem dX5_leave_54 : decode cX5_leave 54 = .ok (.if_icmp .eq 14, 3) := by decide +kernel
theorem dX5_leave_57 : decode cX5_leave 57 = .ok (.aload_n 0, 1) := by decide +kernel
theorem dX5_leave_58 : decode cX5_leave 58 = .ok (.getfield 45, 3) := by decide +kernel
theorem dX5_leave_61 : decode cX5_leave 61 = .ok (.getfield 168, 3) := by decide +kernel
theorem dX5_leave_64 : decode cX5_leave 64 = .ok (.iload_n 2, 1) := by decide +kernel
theorem dX5_leave_65 : decode cX5_leave 65 = .ok (.if_icmp .ge 13, 3) := by decide +kernel
theorem dX5_leave_68 : decode cX5_leave 68 = .ok (.iload_n 3, 1) := by decide +kernel
theorem dX5_leave_69 : decode cX5_leave 69 = .ok (.istore_n 1, 1) := by decide +kernel
theorem dX5_leave_70 : decode cX5_leave 70 = .ok (.aload_n 0, 1) := by decide +kernel
theorem dX5_leave_71 : decode cX5_leave 71 = .ok (.getfield 45, 3) := by decide +kernel
theorem dX5_leave_74 : decode cX5_leave 74 = .ok (.getfield 168, 3) := by decide +kernel
theorem dX5_leave_77 : decode cX5_leave 77 = .ok (.istore_n 2, 1) := by decide +kernel
theorem dX5_leave_78 : decode cX5_leave 78 = .ok (.iinc 3 1, 3) := by decide +kernel
theorem dX5_leave_81 : decode cX5_leave 81 = .ok (.goto (-61), 3) := by decide +kernel
theorem dX5_leave_84 : decode cX5_leave 84 = .ok (.iload_n 1, 1) := by decide +kernel
theorem dX5_leave_85 : decode cX5_leave 85 = .ok (.ireturn, 1) := by decide +kernel
theorem dX5_plates_0 : decode cX5_plates 0 = .ok (.aload_n 0, 1) := by decide +kernel
theorem dX5_plates_1 : decode cX5_plates 1 = .ok (.getfield 36, 3) := by decide +kernel
theorem dX5_plates_4 : decode cX5_plates 4 = .ok (.iload_n 1, 1) := by decide +kernel
theorem dX5_plates_5 : decode cX5_plates 5 = .ok (.invokevirtual 136, 3) := by decide +kernel
theorem dX5_plates_8 : decode cX5_plates 8 = .ok (.ifCond .ne 21, 3) := by decide +kernel
theorem dX5_plates_11 : decode cX5_plates 11 = .ok (.aload_n 0, 1) := by decide +kernel
theorem dX5_plates_12 : decode cX5_plates 12 = .ok (.getfield 36, 3) := by decide +kernel
theorem dX5_plates_15 : decode cX5_plates 15 = .ok (.iload_n 1, 1) := by decide +kernel
theorem dX5_plates_16 : decode cX5_plates 16 = .ok (.invokevirtual 142, 3) := by decide +kernel
theorem dX5_plates_19 : decode cX5_plates 19 = .ok (.aload_n 0, 1) := by decide +kernel
theorem dX5_plates_20 : decode cX5_plates 20 = .ok (.getfield 10, 3) := by decide +kernel
theorem dX5_plates_23 : decode cX5_plates 23 = .ok (.getfield 158, 3) := by decide +kernel
theorem dX5_plates_26 : decode cX5_plates 26 = .ok (.if_icmp .eq 7, 3) := by decide +kernel
theorem dX5_plates_29 : decode cX5_plates 29 = .ok (.ldc2_w 174, 3) := by decide +kernel
theorem dX5_plates_32 : decode cX5_plates 32 = .ok (.lreturn, 1) := by decide +kernel
theorem dX5_plates_33 : decode cX5_plates 33 = .ok (.iload_n 2, 1) := by decide +kernel
theorem dX5_plates_34 : decode cX5_plates 34 = .ok (.ifCond .eq 12, 3) := by decide +kernel
theorem dX5_plates_37 : decode cX5_plates 37 = .ok (.iload_n 2, 1) := by decide +kernel
theorem dX5_plates_38 : decode cX5_plates 38 = .ok (.iconst 1, 1) := by decide +kernel
theorem dX5_plates_39 : decode cX5_plates 39 = .ok (.if_icmp .eq 7, 3) := by decide +kernel
theorem dX5_plates_42 : decode cX5_plates 42 = .ok (.ldc2_w 174, 3) := by decide +kernel
theorem dX5_plates_45 : decode cX5_plates 45 = .ok (.lreturn, 1) := by decide +kernel
theorem dX5_plates_46 : decode cX5_plates 46 = .ok (.aload_n 0, 1) := by decide +kernel
theorem dX5_plates_47 : decode cX5_plates 47 = .ok (.getfield 45, 3) := by decide +kernel
theorem dX5_plates_50 : decode cX5_plates 50 = .ok (.aload_n 0, 1) := by decide +kernel
theorem dX5_plates_51 : decode cX5_plates 51 = .ok (.getfield 10, 3) := by decide +kernel
theorem dX5_plates_54 : decode cX5_plates 54 = .ok (.getfield 97, 3) := by decide +kernel
theorem dX5_plates_57 : decode cX5_plates 57 = .ok (.invokevirtual 101, 3) := by decide +kernel
theorem dX5_plates_60 : decode cX5_plates 60 = .ok (.iload_n 2, 1) := by decide +kernel
theorem dX5_plates_61 : decode cX5_plates 61 = .ok (.ifCond .ne 12, 3) := by decide +kernel
theorem dX5_plates_64 : decode cX5_plates 64 = .ok (.aload_n 0, 1) := by decide +kernel
theorem dX5_plates_65 : decode cX5_plates 65 = .ok (.iload_n 1, 1) := by decide +kernel
theorem dX5_plates_66 : decode cX5_plates 66 = .ok (.invokevirtual 176, 3) := by decide +kernel
theorem dX5_plates_69 : decode cX5_plates 69 = .ok (.i2l, 1) := by decide +kernel
theorem dX5_plates_70 : decode cX5_plates 70 = .ok (.goto 8, 3) := by decide +kernel
theorem dX5_plates_73 : decode cX5_plates 73 = .ok (.aload_n 0, 1) := by decide +kernel
theorem dX5_plates_74 : decode cX5_plates 74 = .ok (.iload_n 1, 1) := by decide +kernel
theorem dX5_plates_75 : decode cX5_plates 75 = .ok (.invokevirtual 179, 3) := by decide +kernel
theorem dX5_plates_78 : decode cX5_plates 78 = .ok (.lreturn, 1) := by decide +kernel
theorem dX5_eaten_0 : decode cX5_eaten 0 = .ok (.aload_n 0, 1) := by decide +kernel
theorem dX5_eaten_1 : decode cX5_eaten 1 = .ok (.getfield 36, 3) := by decide +kernel
theorem dX5_eaten_4 : decode cX5_eaten 4 = .ok (.iload_n 1, 1) := by decide +kernel
theorem dX5_eaten_5 : decode cX5_eaten 5 = .ok (.invokevirtual 183, 3) := by decide +kernel
theorem dX5_eaten_8 : decode cX5_eaten 8 = .ok (.ifCond .eq 19, 3) := by decide +kernel
theorem dX5_eaten_11 : decode cX5_eaten 11 = .ok (.iload_n 2, 1) := by decide +kernel
theorem dX5_eaten_12 : decode cX5_eaten 12 = .ok (.iconst (-1), 1) := by decide +kernel
theorem dX5_eaten_13 : decode cX5_eaten 13 = .ok (.if_icmp .eq 17, 3) := by decide +kernel
theorem dX5_eaten_16 : decode cX5_eaten 16 = .ok (.aload_n 0, 1) := by decide +kernel
theorem dX5_eaten_17 : decode cX5_eaten 17 = .ok (.getfield 10, 3) := by decide +kernel
theorem dX5_eaten_20 : decode cX5_eaten 20 = .ok (.iload_n 2, 1) := by decide +kernel
theorem dX5_eaten_21 : decode cX5_eaten 21 = .ok (.invokevirtual 77, 3) := by decide +kernel
theorem dX5_eaten_24 : decode cX5_eaten 24 = .ok (.ifCond .ne 6, 3) := by decide +kernel
theorem dX5_eaten_27 : decode cX5_eaten 27 = .ok (.bipush (-2), 2) := by decide +kernel
theorem dX5_eaten_29 : decode cX5_eaten 29 = .ok (.ireturn, 1) := by decide +kernel
theorem dX5_eaten_30 : decode cX5_eaten 30 = .ok (.aload_n 0, 1) := by decide +kernel
theorem dX5_eaten_31 : decode cX5_eaten 31 = .ok (.getfield 36, 3) := by decide +kernel
theorem dX5_eaten_34 : decode cX5_eaten 34 = .ok (.iload_n 1, 1) := by decide +kernel
theorem dX5_eaten_35 : decode cX5_eaten 35 = .ok (.invokevirtual 136, 3) := by decide +kernel
theorem dX5_eaten_38 : decode cX5_eaten 38 = .ok (.ifCond .eq 6, 3) := by decide +kernel
theorem dX5_eaten_41 : decode cX5_eaten 41 = .ok (.bipush (-11), 2) := by decide +kernel
theorem dX5_eaten_43 : decode cX5_eaten 43 = .ok (.ireturn, 1) := by decide +kernel
theorem dX5_eaten_44 : decode cX5_eaten 44 = .ok (.aload_n 0, 1) := by decide +kernel
theorem dX5_eaten_45 : decode cX5_eaten 45 = .ok (.getfield 36, 3) := by decide +kernel
theorem dX5_eaten_48 : decode cX5_eaten 48 = .ok (.iload_n 1, 1) := by decide +kernel
theorem dX5_eaten_49 : decode cX5_eaten 49 = .ok (.invokevirtual 142, 3) := by decide +kernel
theorem dX5_eaten_52 : decode cX5_eaten 52 = .ok (.aload_n 0, 1) := by decide +kernel
theorem dX5_eaten_53 : decode cX5_eaten 53 = .ok (.getfield 10, 3) := by decide +kernel
theorem dX5_eaten_56 : decode cX5_eaten 56 = .ok (.getfield 158, 3) := by decide +kernel
theorem dX5_eaten_59 : decode cX5_eaten 59 = .ok (.if_icmp .eq 6, 3) := by decide +kernel
theorem dX5_eaten_62 : decode cX5_eaten 62 = .ok (.bipush (-2), 2) := by decide +kernel
theorem dX5_eaten_64 : decode cX5_eaten 64 = .ok (.ireturn, 1) := by decide +kernel
theorem dX5_eaten_65 : decode cX5_eaten 65 = .ok (.aload_n 0, 1) := by decide +kernel
theorem dX5_eaten_66 : decode cX5_eaten 66 = .ok (.getfield 45, 3) := by decide +kernel
theorem dX5_eaten_69 : decode cX5_eaten 69 = .ok (.aload_n 0, 1) := by decide +kernel
theorem dX5_eaten_70 : decode cX5_eaten 70 = .ok (.getfield 10, 3) := by decide +kernel
theorem dX5_eaten_73 : decode cX5_eaten 73 = .ok (.getfield 97, 3) := by decide +kernel
theorem dX5_eaten_76 : decode cX5_eaten 76 = .ok (.invokevirtual 101, 3) := by decide +kernel
theorem dX5_eaten_79 : decode cX5_eaten 79 = .ok (.iload_n 2, 1) := by decide +kernel
theorem dX5_eaten_80 : decode cX5_eaten 80 = .ok (.iconst (-1), 1) := by decide +kernel
theorem dX5_eaten_81 : decode cX5_eaten 81 = .ok (.if_icmp .ne 11, 3) := by decide +kernel
theorem dX5_eaten_84 : decode cX5_eaten 84 = .ok (.aload_n 0, 1) := by decide +kernel
theorem dX5_eaten_85 : decode cX5_eaten 85 = .ok (.iload_n 1, 1) := by decide +kernel
theorem dX5_eaten_86 : decode cX5_eaten 86 = .ok (.invokevirtual 184, 3) := by decide +kernel
theorem dX5_eaten_89 : decode cX5_eaten 89 = .ok (.goto 9, 3) := by decide +kernel
theorem dX5_eaten_92 : decode cX5_eaten 92 = .ok (.aload_n 0, 1) := by decide +kernel
theorem dX5_eaten_93 : decode cX5_eaten 93 = .ok (.iload_n 1, 1) := by decide +kernel
theorem dX5_eaten_94 : decode cX5_eaten 94 = .ok (.iload_n 2, 1) := by decide +kernel
theorem dX5_eaten_95 : decode cX5_eaten 95 = .ok (.invokevirtual 187, 3) := by decide +kernel
theorem dX5_eaten_98 : decode cX5_eaten 98 = .ok (.ireturn, 1) := by decide +kernel
theorem dX5_film_0 : decode cX5_film 0 = .ok (.aload_n 0, 1) := by decide +kernel
theorem dX5_film_1 : decode cX5_film 1 = .ok (.getfield 36, 3) := by decide +kernel
theorem dX5_film_4 : decode cX5_film 4 = .ok (.iload_n 1, 1) := by decide +kernel
theorem dX5_film_5 : decode cX5_film 5 = .ok (.invokevirtual 183, 3) := by decide +kernel
theorem dX5_film_8 : decode cX5_film 8 = .ok (.ifCond .eq 13, 3) := by decide +kernel
theorem dX5_film_11 : decode cX5_film 11 = .ok (.iload_n 2, 1) := by decide +kernel
theorem dX5_film_12 : decode cX5_film 12 = .ok (.iconst 1, 1) := by decide +kernel
theorem dX5_film_13 : decode cX5_film 13 = .ok (.if_icmp .lt 8, 3) := by decide +kernel
theorem dX5_film_16 : decode cX5_film 16 = .ok (.iload_n 2, 1) := by decide +kernel
theorem dX5_film_17 : decode cX5_film 17 = .ok (.iconst 3, 1) := by decide +kernel
theorem dX5_film_18 : decode cX5_film 18 = .ok (.if_icmp .le 6, 3) := by decide +kernel
theorem dX5_film_21 : decode cX5_film 21 = .ok (.bipush (-2), 2) := by decide +kernel
theorem dX5_film_23 : decode cX5_film 23 = .ok (.ireturn, 1) := by decide +kernel
theorem dX5_film_24 : decode cX5_film 24 = .ok (.aload_n 0, 1) := by decide +kernel
theorem dX5_film_25 : decode cX5_film 25 = .ok (.getfield 45, 3) := by decide +kernel
theorem dX5_film_28 : decode cX5_film 28 = .ok (.aload_n 0, 1) := by decide +kernel
theorem dX5_film_29 : decode cX5_film 29 = .ok (.getfield 10, 3) := by decide +kernel
theorem dX5_film_32 : decode cX5_film 32 = .ok (.getfield 97, 3) := by decide +kernel
theorem dX5_film_35 : decode cX5_film 35 = .ok (.invokevirtual 101, 3) := by decide +kernel
theorem dX5_film_38 : decode cX5_film 38 = .ok (.aload_n 0, 1) := by decide +kernel
theorem dX5_film_39 : decode cX5_film 39 = .ok (.getfield 45, 3) := by decide +kernel
theorem dX5_film_42 : decode cX5_film 42 = .ok (.iload_n 2, 1) := by decide +kernel
theorem dX5_film_43 : decode cX5_film 43 = .ok (.invokevirtual 149, 3) := by decide +kernel
theorem dX5_film_46 : decode cX5_film 46 = .ok (.aload_n 0, 1) := by decide +kernel
theorem dX5_film_47 : decode cX5_film 47 = .ok (.getfield 36, 3) := by decide +kernel
theorem dX5_film_50 : decode cX5_film 50 = .ok (.iload_n 1, 1) := by decide +kernel
theorem dX5_film_51 : decode cX5_film 51 = .ok (.iconst 0, 1) := by decide +kernel
theorem dX5_film_52 : decode cX5_film 52 = .ok (.aload_n 0, 1) := by decide +kernel
theorem dX5_film_53 : decode cX5_film 53 = .ok (.getfield 10, 3) := by decide +kernel
theorem dX5_film_56 : decode cX5_film 56 = .ok (.getfield 158, 3) := by decide +kernel
theorem dX5_film_59 : decode cX5_film 59 = .ok (.invokevirtual 190, 3) := by decide +kernel
theorem dX5_film_62 : decode cX5_film 62 = .ok (.iconst 0, 1) := by decide +kernel
theorem dX5_film_63 : decode cX5_film 63 = .ok (.istore_n 3, 1) := by decide +kernel
theorem dX5_film_64 : decode cX5_film 64 = .ok (.iload_n 3, 1) := by decide +kernel
theorem dX5_film_65 : decode cX5_film 65 = .ok (.iconst 5, 1) := by decide +kernel
theorem dX5_film_66 : decode cX5_film 66 = .ok (.if_icmp .ge 38, 3) := by decide +kernel
theorem dX5_film_69 : decode cX5_film 69 = .ok (.iload_n 3, 1) := by decide +kernel
theorem dX5_film_70 : decode cX5_film 70 = .ok (.aload_n 0, 1) := by decide +kernel
theorem dX5_film_71 : decode cX5_film 71 = .ok (.getfield 10, 3) := by decide +kernel
theorem dX5_film_74 : decode cX5_film 74 = .ok (.getfield 158, 3) := by decide +kernel
theorem dX5_film_77 : decode cX5_film 77 = .ok (.if_icmp .ge 27, 3) := by decide +kernel
theorem dX5_film_80 : decode cX5_film 80 = .ok (.aload_n 0, 1) := by decide +kernel
theorem dX5_film_81 : decode cX5_film 81 = .ok (.getfield 36, 3) := by decide +kernel
theorem dX5_film_84 : decode cX5_film 84 = .ok (.iload_n 1, 1) := by decide +kernel
theorem dX5_film_85 : decode cX5_film 85 = .ok (.iload_n 3, 1) := by decide +kernel
theorem dX5_film_86 : decode cX5_film 86 = .ok (.aload_n 0, 1) := by decide +kernel
theorem dX5_film_87 : decode cX5_film 87 = .ok (.getfield 45, 3) := by decide +kernel
theorem dX5_film_90 : decode cX5_film 90 = .ok (.getfield 193, 3) := by decide +kernel
theorem dX5_film_93 : decode cX5_film 93 = .ok (.iload_n 3, 1) := by decide +kernel
theorem dX5_film_94 : decode cX5_film 94 = .ok (.iaload, 1) := by decide +kernel
theorem dX5_film_95 : decode cX5_film 95 = .ok (.invokevirtual 196, 3) := by decide +kernel
theorem dX5_film_98 : decode cX5_film 98 = .ok (.iinc 3 1, 3) := by decide +kernel
theorem dX5_film_101 : decode cX5_film 101 = .ok (.goto (-37), 3) := by decide +kernel
theorem dX5_film_104 : decode cX5_film 104 = .ok (.aload_n 0, 1) := by decide +kernel
theorem dX5_film_105 : decode cX5_film 105 = .ok (.getfield 10, 3) := by decide +kernel
theorem dX5_film_108 : decode cX5_film 108 = .ok (.getfield 158, 3) := by decide +kernel
theorem dX5_film_111 : decode cX5_film 111 = .ok (.ireturn, 1) := by decide +kernel
theorem dX5_drawn_0 : decode cX5_drawn 0 = .ok (.aload_n 0, 1) := by decide +kernel
theorem dX5_drawn_1 : decode cX5_drawn 1 = .ok (.getfield 10, 3) := by decide +kernel
theorem dX5_drawn_4 : decode cX5_drawn 4 = .ok (.getfield 158, 3) := by decide +kernel
theorem dX5_drawn_7 : decode cX5_drawn 7 = .ok (.iconst 1, 1) := by decide +kernel
theorem dX5_drawn_8 : decode cX5_drawn 8 = .ok (.if_icmp .ge 7, 3) := by decide +kernel
theorem dX5_drawn_11 : decode cX5_drawn 11 = .ok (.ldc2_w 174, 3) := by decide +kernel
theorem dX5_drawn_14 : decode cX5_drawn 14 = .ok (.lreturn, 1) := by decide +kernel
theorem dX5_drawn_15 : decode cX5_drawn 15 = .ok (.aload_n 0, 1) := by decide +kernel
theorem dX5_drawn_16 : decode cX5_drawn 16 = .ok (.getfield 45, 3) := by decide +kernel
theorem dX5_drawn_19 : decode cX5_drawn 19 = .ok (.aload_n 0, 1) := by decide +kernel
theorem dX5_drawn_20 : decode cX5_drawn 20 = .ok (.getfield 10, 3) := by decide +kernel
theorem dX5_drawn_23 : decode cX5_drawn 23 = .ok (.getfield 97, 3) := by decide +kernel
theorem dX5_drawn_26 : decode cX5_drawn 26 = .ok (.invokevirtual 101, 3) := by decide +kernel
theorem dX5_drawn_29 : decode cX5_drawn 29 = .ok (.aload_n 0, 1) := by decide +kernel
theorem dX5_drawn_30 : decode cX5_drawn 30 = .ok (.getfield 45, 3) := by decide +kernel
theorem dX5_drawn_33 : decode cX5_drawn 33 = .ok (.iload_n 1, 1) := by decide +kernel
theorem dX5_drawn_34 : decode cX5_drawn 34 = .ok (.invokevirtual 199, 3) := by decide +kernel
theorem dX5_drawn_37 : decode cX5_drawn 37 = .ok (.aload_n 0, 1) := by decide +kernel
theorem dX5_drawn_38 : decode cX5_drawn 38 = .ok (.getfield 45, 3) := by decide +kernel
theorem dX5_drawn_41 : decode cX5_drawn 41 = .ok (.iconst 0, 1) := by decide +kernel
theorem dX5_drawn_42 : decode cX5_drawn 42 = .ok (.invokevirtual 149, 3) := by decide +kernel
theorem dX5_drawn_45 : decode cX5_drawn 45 = .ok (.aload_n 0, 1) := by decide +kernel
theorem dX5_drawn_46 : decode cX5_drawn 46 = .ok (.getfield 45, 3) := by decide +kernel
theorem dX5_drawn_49 : decode cX5_drawn 49 = .ok (.getfield 168, 3) := by decide +kernel
theorem dX5_drawn_52 : decode cX5_drawn 52 = .ok (.i2l, 1) := by decide +kernel
theorem dX5_drawn_53 : decode cX5_drawn 53 = .ok (.lreturn, 1) := by decide +kernel
theorem dX5_chance_0 : decode cX5_chance 0 = .ok (.iload_n 2, 1) := by decide +kernel
theorem dX5_chance_1 : decode cX5_chance 1 = .ok (.iconst 1, 1) := by decide +kernel
theorem dX5_chance_2 : decode cX5_chance 2 = .ok (.if_icmp .lt 29, 3) := by decide +kernel
theorem dX5_chance_5 : decode cX5_chance 5 = .ok (.iload_n 2, 1) := by decide +kernel
theorem dX5_chance_6 : decode cX5_chance 6 = .ok (.bipush 20, 2) := by decide +kernel
theorem dX5_chance_8 : decode cX5_chance 8 = .ok (.if_icmp .gt 23, 3) := by decide +kernel
theorem dX5_chance_11 : decode cX5_chance 11 = .ok (.iload_n 3, 1) := by decide +kernel
theorem dX5_chance_12 : decode cX5_chance 12 = .ok (.ifCond .eq 8, 3) := by decide +kernel
theorem dX5_chance_15 : decode cX5_chance 15 = .ok (.iload_n 3, 1) := by decide +kernel
theorem dX5_chance_16 : decode cX5_chance 16 = .ok (.iconst 1, 1) := by decide +kernel
theorem dX5_chance_17 : decode cX5_chance 17 = .ok (.if_icmp .ne 14, 3) := by decide +kernel
theorem dX5_chance_20 : decode cX5_chance 20 = .ok (.aload_n 0, 1) := by decide +kernel
theorem dX5_chance_21 : decode cX5_chance 21 = .ok (.getfield 10, 3) := by decide +kernel
theorem dX5_chance_24 : decode cX5_chance 24 = .ok (.getfield 158, 3) := by decide +kernel
theorem dX5_chance_27 : decode cX5_chance 27 = .ok (.iconst 1, 1) := by decide +kernel
theorem dX5_chance_28 : decode cX5_chance 28 = .ok (.if_icmp .ge 7, 3) := by decide +kernel
theorem dX5_chance_31 : decode cX5_chance 31 = .ok (.ldc2_w 174, 3) := by decide +kernel
theorem dX5_chance_34 : decode cX5_chance 34 = .ok (.lreturn, 1) := by decide +kernel
theorem dX5_chance_35 : decode cX5_chance 35 = .ok (.aload_n 0, 1) := by decide +kernel
theorem dX5_chance_36 : decode cX5_chance 36 = .ok (.getfield 45, 3) := by decide +kernel
theorem dX5_chance_39 : decode cX5_chance 39 = .ok (.aload_n 0, 1) := by decide +kernel
theorem dX5_chance_40 : decode cX5_chance 40 = .ok (.getfield 10, 3) := by decide +kernel
theorem dX5_chance_43 : decode cX5_chance 43 = .ok (.getfield 97, 3) := by decide +kernel
theorem dX5_chance_46 : decode cX5_chance 46 = .ok (.invokevirtual 101, 3) := by decide +kernel
theorem dX5_chance_49 : decode cX5_chance 49 = .ok (.aload_n 0, 1) := by decide +kernel
theorem dX5_chance_50 : decode cX5_chance 50 = .ok (.getfield 45, 3) := by decide +kernel
theorem dX5_chance_53 : decode cX5_chance 53 = .ok (.iconst 1, 1) := by decide +kernel
theorem dX5_chance_54 : decode cX5_chance 54 = .ok (.invokevirtual 149, 3) := by decide +kernel
theorem dX5_chance_57 : decode cX5_chance 57 = .ok (.aload_n 0, 1) := by decide +kernel
theorem dX5_chance_58 : decode cX5_chance 58 = .ok (.getfield 45, 3) := by decide +kernel
theorem dX5_chance_61 : decode cX5_chance 61 = .ok (.getfield 168, 3) := by decide +kernel
theorem dX5_chance_64 : decode cX5_chance 64 = .ok (.istore 4, 2) := by decide +kernel
theorem dX5_chance_66 : decode cX5_chance 66 = .ok (.iconst 0, 1) := by decide +kernel
theorem dX5_chance_67 : decode cX5_chance 67 = .ok (.istore 5, 2) := by decide +kernel
theorem dX5_chance_69 : decode cX5_chance 69 = .ok (.iconst 0, 1) := by decide +kernel
theorem dX5_chance_70 : decode cX5_chance 70 = .ok (.istore 6, 2) := by decide +kernel
theorem dX5_chance_72 : decode cX5_chance 72 = .ok (.iload 6, 2) := by decide +kernel
theorem dX5_chance_74 : decode cX5_chance 74 = .ok (.iload_n 2, 1) := by decide +kernel
theorem dX5_chance_75 : decode cX5_chance 75 = .ok (.if_icmp .ge 43, 3) := by decide +kernel
theorem dX5_chance_78 : decode cX5_chance 78 = .ok (.aload_n 0, 1) := by decide +kernel
theorem dX5_chance_79 : decode cX5_chance 79 = .ok (.getfield 45, 3) := by decide +kernel
theorem dX5_chance_82 : decode cX5_chance 82 = .ok (.iload_n 1, 1) := by decide +kernel
theorem dX5_chance_83 : decode cX5_chance 83 = .ok (.iload 6, 2) := by decide +kernel
theorem dX5_chance_85 : decode cX5_chance 85 = .ok (.iadd, 1) := by decide +kernel
theorem dX5_chance_86 : decode cX5_chance 86 = .ok (.invokevirtual 199, 3) := by decide +kernel
theorem dX5_chance_89 : decode cX5_chance 89 = .ok (.aload_n 0, 1) := by decide +kernel
theorem dX5_chance_90 : decode cX5_chance 90 = .ok (.getfield 45, 3) := by decide +kernel
theorem dX5_chance_93 : decode cX5_chance 93 = .ok (.iconst 0, 1) := by decide +kernel
theorem dX5_chance_94 : decode cX5_chance 94 = .ok (.invokevirtual 149, 3) := by decide +kernel
theorem dX5_chance_97 : decode cX5_chance 97 = .ok (.aload_n 0, 1) := by decide +kernel
theorem dX5_chance_98 : decode cX5_chance 98 = .ok (.getfield 45, 3) := by decide +kernel
theorem dX5_chance_101 : decode cX5_chance 101 = .ok (.getfield 168, 3) := by decide +kernel
theorem dX5_chance_104 : decode cX5_chance 104 = .ok (.iload 4, 2) := by decide +kernel
theorem dX5_chance_106 : decode cX5_chance 106 = .ok (.if_icmp .gt 6, 3) := by decide +kernel
theorem dX5_chance_109 : decode cX5_chance 109 = .ok (.iinc 5 1, 3) := by decide +kernel
theorem dX5_chance_112 : decode cX5_chance 112 = .ok (.iinc 6 1, 3) := by decide +kernel
theorem dX5_chance_115 : decode cX5_chance 115 = .ok (.goto (-43), 3) := by decide +kernel
theorem dX5_chance_118 : decode cX5_chance 118 = .ok (.iconst 1, 1) := by decide +kernel
theorem dX5_chance_119 : decode cX5_chance 119 = .ok (.iload 5, 2) := by decide +kernel
theorem dX5_chance_121 : decode cX5_chance 121 = .ok (.iload_n 2, 1) := by decide +kernel
theorem dX5_chance_122 : decode cX5_chance 122 = .ok (.invokestatic 202, 3) := by decide +kernel
theorem dX5_chance_125 : decode cX5_chance 125 = .ok (.invokestatic 205, 3) := by decide +kernel
theorem dX5_chance_128 : decode cX5_chance 128 = .ok (.istore 6, 2) := by decide +kernel
theorem dX5_chance_130 : decode cX5_chance 130 = .ok (.iload_n 3, 1) := by decide +kernel
theorem dX5_chance_131 : decode cX5_chance 131 = .ok (.ifCond .ne 12, 3) := by decide +kernel
theorem dX5_chance_134 : decode cX5_chance 134 = .ok (.iload 5, 2) := by decide +kernel
theorem dX5_chance_136 : decode cX5_chance 136 = .ok (.iload 6, 2) := by decide +kernel
theorem dX5_chance_138 : decode cX5_chance 138 = .ok (.idiv, 1) := by decide +kernel
theorem dX5_chance_139 : decode cX5_chance 139 = .ok (.i2l, 1) := by decide +kernel
theorem dX5_chance_140 : decode cX5_chance 140 = .ok (.goto 8, 3) := by decide +kernel
theorem dX5_chance_143 : decode cX5_chance 143 = .ok (.iload_n 2, 1) := by decide +kernel
theorem dX5_chance_144 : decode cX5_chance 144 = .ok (.iload 6, 2) := by decide +kernel
theorem dX5_chance_146 : decode cX5_chance 146 = .ok (.idiv, 1) := by decide +kernel
theorem dX5_chance_147 : decode cX5_chance 147 = .ok (.i2l, 1) := by decide +kernel
theorem dX5_chance_148 : decode cX5_chance 148 = .ok (.lreturn, 1) := by decide +kernel
theorem dX5_image_0 : decode cX5_image 0 = .ok (.aload_n 0, 1) := by decide +kernel
theorem dX5_image_1 : decode cX5_image 1 = .ok (.getfield 16, 3) := by decide +kernel
theorem dX5_image_4 : decode cX5_image 4 = .ok (.aload_n 0, 1) := by decide +kernel
theorem dX5_image_5 : decode cX5_image 5 = .ok (.getfield 10, 3) := by decide +kernel
theorem dX5_image_8 : decode cX5_image 8 = .ok (.invokevirtual 210, 3) := by decide +kernel
theorem dX5_image_11 : decode cX5_image 11 = .ok (.aload_n 0, 1) := by decide +kernel
theorem dX5_image_12 : decode cX5_image 12 = .ok (.iconst 1, 1) := by decide +kernel
theorem dX5_image_13 : decode cX5_image 13 = .ok (.putfield 214, 3) := by decide +kernel
theorem dX5_image_16 : decode cX5_image 16 = .ok (.aload_n 0, 1) := by decide +kernel
theorem dX5_image_17 : decode cX5_image 17 = .ok (.getfield 10, 3) := by decide +kernel
theorem dX5_image_20 : decode cX5_image 20 = .ok (.getfield 158, 3) := by decide +kernel
theorem dX5_image_23 : decode cX5_image 23 = .ok (.ireturn, 1) := by decide +kernel
theorem dX5_back_0 : decode cX5_back 0 = .ok (.aload_n 0, 1) := by decide +kernel
theorem dX5_back_1 : decode cX5_back 1 = .ok (.getfield 214, 3) := by decide +kernel
theorem dX5_back_4 : decode cX5_back 4 = .ok (.ifCond .ne 6, 3) := by decide +kernel
theorem dX5_back_7 : decode cX5_back 7 = .ok (.bipush (-3), 2) := by decide +kernel
theorem dX5_back_9 : decode cX5_back 9 = .ok (.ireturn, 1) := by decide +kernel
theorem dX5_back_10 : decode cX5_back 10 = .ok (.aload_n 0, 1) := by decide +kernel
theorem dX5_back_11 : decode cX5_back 11 = .ok (.getfield 10, 3) := by decide +kernel
theorem dX5_back_14 : decode cX5_back 14 = .ok (.aload_n 0, 1) := by decide +kernel
theorem dX5_back_15 : decode cX5_back 15 = .ok (.getfield 16, 3) := by decide +kernel
theorem dX5_back_18 : decode cX5_back 18 = .ok (.invokevirtual 210, 3) := by decide +kernel
theorem dX5_back_21 : decode cX5_back 21 = .ok (.aload_n 0, 1) := by decide +kernel
theorem dX5_back_22 : decode cX5_back 22 = .ok (.getfield 10, 3) := by decide +kernel
theorem dX5_back_25 : decode cX5_back 25 = .ok (.getfield 158, 3) := by decide +kernel
theorem dX5_back_28 : decode cX5_back 28 = .ok (.ireturn, 1) := by decide +kernel
theorem dX5_count_0 : decode cX5_count 0 = .ok (.iload_n 1, 1) := by decide +kernel
theorem dX5_count_1 : decode cX5_count 1 = .ok (.tableswitch 125 0 7 #[47, 55, 63, 71, 79, 87, 95, 117], 47) := by decide +kernel
theorem dX5_count_48 : decode cX5_count 48 = .ok (.aload_n 0, 1) := by decide +kernel
theorem dX5_count_49 : decode cX5_count 49 = .ok (.getfield 10, 3) := by decide +kernel
theorem dX5_count_52 : decode cX5_count 52 = .ok (.getfield 158, 3) := by decide +kernel
theorem dX5_count_55 : decode cX5_count 55 = .ok (.ireturn, 1) := by decide +kernel
theorem dX5_count_56 : decode cX5_count 56 = .ok (.aload_n 0, 1) := by decide +kernel
theorem dX5_count_57 : decode cX5_count 57 = .ok (.getfield 10, 3) := by decide +kernel
theorem dX5_count_60 : decode cX5_count 60 = .ok (.getfield 108, 3) := by decide +kernel
theorem dX5_count_63 : decode cX5_count 63 = .ok (.ireturn, 1) := by decide +kernel
theorem dX5_count_64 : decode cX5_count 64 = .ok (.aload_n 0, 1) := by decide +kernel
theorem dX5_count_65 : decode cX5_count 65 = .ok (.getfield 10, 3) := by decide +kernel
theorem dX5_count_68 : decode cX5_count 68 = .ok (.getfield 97, 3) := by decide +kernel
theorem dX5_count_71 : decode cX5_count 71 = .ok (.ireturn, 1) := by decide +kernel
theorem dX5_count_72 : decode cX5_count 72 = .ok (.aload_n 0, 1) := by decide +kernel
theorem dX5_count_73 : decode cX5_count 73 = .ok (.getfield 29, 3) := by decide +kernel
theorem dX5_count_76 : decode cX5_count 76 = .ok (.getfield 123, 3) := by decide +kernel
theorem dX5_count_79 : decode cX5_count 79 = .ok (.ireturn, 1) := by decide +kernel
theorem dX5_count_80 : decode cX5_count 80 = .ok (.aload_n 0, 1) := by decide +kernel
theorem dX5_count_81 : decode cX5_count 81 = .ok (.getfield 22, 3) := by decide +kernel
theorem dX5_count_84 : decode cX5_count 84 = .ok (.getfield 120, 3) := by decide +kernel
theorem dX5_count_87 : decode cX5_count 87 = .ok (.ireturn, 1) := by decide +kernel
theorem dX5_count_88 : decode cX5_count 88 = .ok (.aload_n 0, 1) := by decide +kernel
theorem dX5_count_89 : decode cX5_count 89 = .ok (.getfield 10, 3) := by decide +kernel
theorem dX5_count_92 : decode cX5_count 92 = .ok (.getfield 129, 3) := by decide +kernel
theorem dX5_count_95 : decode cX5_count 95 = .ok (.ireturn, 1) := by decide +kernel
theorem dX5_count_96 : decode cX5_count 96 = .ok (.aload_n 0, 1) := by decide +kernel
theorem dX5_count_97 : decode cX5_count 97 = .ok (.getfield 45, 3) := by decide +kernel
theorem dX5_count_100 : decode cX5_count 100 = .ok (.aload_n 0, 1) := by decide +kernel
theorem dX5_count_101 : decode cX5_count 101 = .ok (.getfield 10, 3) := by decide +kernel
theorem dX5_count_104 : decode cX5_count 104 = .ok (.getfield 97, 3) := by decide +kernel
theorem dX5_count_107 : decode cX5_count 107 = .ok (.invokevirtual 111, 3) := by decide +kernel
theorem dX5_count_110 : decode cX5_count 110 = .ok (.aload_n 0, 1) := by decide +kernel
theorem dX5_count_111 : decode cX5_count 111 = .ok (.getfield 45, 3) := by decide +kernel
theorem dX5_count_114 : decode cX5_count 114 = .ok (.invokevirtual 218, 3) := by decide +kernel
theorem dX5_count_117 : decode cX5_count 117 = .ok (.ireturn, 1) := by decide +kernel
theorem dX5_count_118 : decode cX5_count 118 = .ok (.aload_n 0, 1) := by decide +kernel
theorem dX5_count_119 : decode cX5_count 119 = .ok (.getfield 10, 3) := by decide +kernel
theorem dX5_count_122 : decode cX5_count 122 = .ok (.invokevirtual 222, 3) := by decide +kernel
theorem dX5_count_125 : decode cX5_count 125 = .ok (.ireturn, 1) := by decide +kernel
theorem dX5_count_126 : decode cX5_count 126 = .ok (.bipush (-2), 2) := by decide +kernel
theorem dX5_count_128 : decode cX5_count 128 = .ok (.ireturn, 1) := by decide +kernel
theorem dX5_sheet_0 : decode cX5_sheet 0 = .ok (.aload_n 0, 1) := by decide +kernel
theorem dX5_sheet_1 : decode cX5_sheet 1 = .ok (.getfield 36, 3) := by decide +kernel
theorem dX5_sheet_4 : decode cX5_sheet 4 = .ok (.iload_n 1, 1) := by decide +kernel
theorem dX5_sheet_5 : decode cX5_sheet 5 = .ok (.invokevirtual 183, 3) := by decide +kernel
theorem dX5_sheet_8 : decode cX5_sheet 8 = .ok (.ifCond .eq 13, 3) := by decide +kernel
theorem dX5_sheet_11 : decode cX5_sheet 11 = .ok (.iload_n 2, 1) := by decide +kernel
theorem dX5_sheet_12 : decode cX5_sheet 12 = .ok (.iconst (-1), 1) := by decide +kernel
theorem dX5_sheet_13 : decode cX5_sheet 13 = .ok (.if_icmp .lt 8, 3) := by decide +kernel
theorem dX5_sheet_16 : decode cX5_sheet 16 = .ok (.iload_n 2, 1) := by decide +kernel
theorem dX5_sheet_17 : decode cX5_sheet 17 = .ok (.iconst 3, 1) := by decide +kernel
theorem dX5_sheet_18 : decode cX5_sheet 18 = .ok (.if_icmp .lt 6, 3) := by decide +kernel
theorem dX5_sheet_21 : decode cX5_sheet 21 = .ok (.bipush (-2), 2) := by decide +kernel
theorem dX5_sheet_23 : decode cX5_sheet 23 = .ok (.ireturn, 1) := by decide +kernel
theorem dX5_sheet_24 : decode cX5_sheet 24 = .ok (.iload_n 2, 1) := by decide +kernel
theorem dX5_sheet_25 : decode cX5_sheet 25 = .ok (.iconst (-1), 1) := by decide +kernel
theorem dX5_sheet_26 : decode cX5_sheet 26 = .ok (.if_icmp .ne 15, 3) := by decide +kernel
theorem dX5_sheet_29 : decode cX5_sheet 29 = .ok (.aload_n 0, 1) := by decide +kernel
theorem dX5_sheet_30 : decode cX5_sheet 30 = .ok (.getfield 36, 3) := by decide +kernel
theorem dX5_sheet_33 : decode cX5_sheet 33 = .ok (.iload_n 1, 1) := by decide +kernel
theorem dX5_sheet_34 : decode cX5_sheet 34 = .ok (.iconst (-1), 1) := by decide +kernel
theorem dX5_sheet_35 : decode cX5_sheet 35 = .ok (.iconst 0, 1) := by decide +kernel
theorem dX5_sheet_36 : decode cX5_sheet 36 = .ok (.invokevirtual 190, 3) := by decide +kernel
theorem dX5_sheet_39 : decode cX5_sheet 39 = .ok (.iconst 1, 1) := by decide +kernel
theorem dX5_sheet_40 : decode cX5_sheet 40 = .ok (.ireturn, 1) := by decide +kernel
theorem dX5_sheet_41 : decode cX5_sheet 41 = .ok (.iload_n 3, 1) := by decide +kernel
theorem dX5_sheet_42 : decode cX5_sheet 42 = .ok (.bipush 40, 2) := by decide +kernel
theorem dX5_sheet_44 : decode cX5_sheet 44 = .ok (.if_icmp .le 6, 3) := by decide +kernel
theorem dX5_sheet_47 : decode cX5_sheet 47 = .ok (.bipush (-2), 2) := by decide +kernel
theorem dX5_sheet_49 : decode cX5_sheet 49 = .ok (.ireturn, 1) := by decide +kernel
theorem dX5_sheet_50 : decode cX5_sheet 50 = .ok (.iload_n 3, 1) := by decide +kernel
theorem dX5_sheet_51 : decode cX5_sheet 51 = .ok (.ifCond .ge 6, 3) := by decide +kernel
theorem dX5_sheet_54 : decode cX5_sheet 54 = .ok (.bipush (-14), 2) := by decide +kernel
theorem dX5_sheet_56 : decode cX5_sheet 56 = .ok (.ireturn, 1) := by decide +kernel
theorem dX5_sheet_57 : decode cX5_sheet 57 = .ok (.aload_n 0, 1) := by decide +kernel
theorem dX5_sheet_58 : decode cX5_sheet 58 = .ok (.getfield 36, 3) := by decide +kernel
theorem dX5_sheet_61 : decode cX5_sheet 61 = .ok (.iload_n 1, 1) := by decide +kernel
theorem dX5_sheet_62 : decode cX5_sheet 62 = .ok (.iload_n 2, 1) := by decide +kernel
theorem dX5_sheet_63 : decode cX5_sheet 63 = .ok (.iload_n 3, 1) := by decide +kernel
theorem dX5_sheet_64 : decode cX5_sheet 64 = .ok (.invokevirtual 190, 3) := by decide +kernel
theorem dX5_sheet_67 : decode cX5_sheet 67 = .ok (.iconst 1, 1) := by decide +kernel
theorem dX5_sheet_68 : decode cX5_sheet 68 = .ok (.ireturn, 1) := by decide +kernel
theorem dX5_cell_0 : decode cX5_cell 0 = .ok (.aload_n 0, 1) := by decide +kernel
theorem dX5_cell_1 : decode cX5_cell 1 = .ok (.getfield 36, 3) := by decide +kernel
theorem dX5_cell_4 : decode cX5_cell 4 = .ok (.iload_n 1, 1) := by decide +kernel
theorem dX5_cell_5 : decode cX5_cell 5 = .ok (.invokevirtual 183, 3) := by decide +kernel
theorem dX5_cell_8 : decode cX5_cell 8 = .ok (.ifCond .ne 6, 3) := by decide +kernel
theorem dX5_cell_11 : decode cX5_cell 11 = .ok (.bipush (-2), 2) := by decide +kernel
theorem dX5_cell_13 : decode cX5_cell 13 = .ok (.ireturn, 1) := by decide +kernel
theorem dX5_cell_14 : decode cX5_cell 14 = .ok (.aload_n 0, 1) := by decide +kernel
theorem dX5_cell_15 : decode cX5_cell 15 = .ok (.getfield 36, 3) := by decide +kernel
theorem dX5_cell_18 : decode cX5_cell 18 = .ok (.iload_n 1, 1) := by decide +kernel
theorem dX5_cell_19 : decode cX5_cell 19 = .ok (.invokevirtual 136, 3) := by decide +kernel
theorem dX5_cell_22 : decode cX5_cell 22 = .ok (.ifCond .eq 6, 3) := by decide +kernel
theorem dX5_cell_25 : decode cX5_cell 25 = .ok (.bipush (-11), 2) := by decide +kernel
theorem dX5_cell_27 : decode cX5_cell 27 = .ok (.ireturn, 1) := by decide +kernel
theorem dX5_cell_28 : decode cX5_cell 28 = .ok (.iload_n 2, 1) := by decide +kernel
theorem dX5_cell_29 : decode cX5_cell 29 = .ok (.ifCond .lt 15, 3) := by decide +kernel
theorem dX5_cell_32 : decode cX5_cell 32 = .ok (.iload_n 2, 1) := by decide +kernel
theorem dX5_cell_33 : decode cX5_cell 33 = .ok (.aload_n 0, 1) := by decide +kernel
theorem dX5_cell_34 : decode cX5_cell 34 = .ok (.getfield 36, 3) := by decide +kernel
theorem dX5_cell_37 : decode cX5_cell 37 = .ok (.iload_n 1, 1) := by decide +kernel
theorem dX5_cell_38 : decode cX5_cell 38 = .ok (.invokevirtual 142, 3) := by decide +kernel
theorem dX5_cell_41 : decode cX5_cell 41 = .ok (.if_icmp .lt 6, 3) := by decide +kernel
theorem dX5_cell_44 : decode cX5_cell 44 = .ok (.bipush (-12), 2) := by decide +kernel
theorem dX5_cell_46 : decode cX5_cell 46 = .ok (.ireturn, 1) := by decide +kernel
theorem dX5_cell_47 : decode cX5_cell 47 = .ok (.aload_n 0, 1) := by decide +kernel
theorem dX5_cell_48 : decode cX5_cell 48 = .ok (.getfield 36, 3) := by decide +kernel
theorem dX5_cell_51 : decode cX5_cell 51 = .ok (.iload_n 1, 1) := by decide +kernel
theorem dX5_cell_52 : decode cX5_cell 52 = .ok (.iload_n 2, 1) := by decide +kernel
theorem dX5_cell_53 : decode cX5_cell 53 = .ok (.iload_n 3, 1) := by decide +kernel
theorem dX5_cell_54 : decode cX5_cell 54 = .ok (.invokevirtual 196, 3) := by decide +kernel
theorem dX5_cell_57 : decode cX5_cell 57 = .ok (.iconst 1, 1) := by decide +kernel
theorem dX5_cell_58 : decode cX5_cell 58 = .ok (.ireturn, 1) := by decide +kernel
theorem dX5_copy_0 : decode cX5_copy 0 = .ok (.aload_n 0, 1) := by decide +kernel
theorem dX5_copy_1 : decode cX5_copy 1 = .ok (.getfield 36, 3) := by decide +kernel
theorem dX5_copy_4 : decode cX5_copy 4 = .ok (.iload_n 1, 1) := by decide +kernel
theorem dX5_copy_5 : decode cX5_copy 5 = .ok (.invokevirtual 183, 3) := by decide +kernel
theorem dX5_copy_8 : decode cX5_copy 8 = .ok (.ifCond .eq 14, 3) := by decide +kernel
theorem dX5_copy_11 : decode cX5_copy 11 = .ok (.aload_n 0, 1) := by decide +kernel
theorem dX5_copy_12 : decode cX5_copy 12 = .ok (.getfield 36, 3) := by decide +kernel
theorem dX5_copy_15 : decode cX5_copy 15 = .ok (.iload_n 3, 1) := by decide +kernel
theorem dX5_copy_16 : decode cX5_copy 16 = .ok (.invokevirtual 183, 3) := by decide +kernel
theorem dX5_copy_19 : decode cX5_copy 19 = .ok (.ifCond .ne 6, 3) := by decide +kernel
theorem dX5_copy_22 : decode cX5_copy 22 = .ok (.bipush (-2), 2) := by decide +kernel
theorem dX5_copy_24 : decode cX5_copy 24 = .ok (.ireturn, 1) := by decide +kernel
theorem dX5_copy_25 : decode cX5_copy 25 = .ok (.aload_n 0, 1) := by decide +kernel
theorem dX5_copy_26 : decode cX5_copy 26 = .ok (.getfield 36, 3) := by decide +kernel
theorem dX5_copy_29 : decode cX5_copy 29 = .ok (.iload_n 1, 1) := by decide +kernel
theorem dX5_copy_30 : decode cX5_copy 30 = .ok (.invokevirtual 136, 3) := by decide +kernel
theorem dX5_copy_33 : decode cX5_copy 33 = .ok (.ifCond .ne 14, 3) := by decide +kernel
theorem dX5_copy_36 : decode cX5_copy 36 = .ok (.aload_n 0, 1) := by decide +kernel
theorem dX5_copy_37 : decode cX5_copy 37 = .ok (.getfield 36, 3) := by decide +kernel
theorem dX5_copy_40 : decode cX5_copy 40 = .ok (.iload_n 3, 1) := by decide +kernel
theorem dX5_copy_41 : decode cX5_copy 41 = .ok (.invokevirtual 136, 3) := by decide +kernel
theorem dX5_copy_44 : decode cX5_copy 44 = .ok (.ifCond .eq 6, 3) := by decide +kernel
theorem dX5_copy_47 : decode cX5_copy 47 = .ok (.bipush (-11), 2) := by decide +kernel
theorem dX5_copy_49 : decode cX5_copy 49 = .ok (.ireturn, 1) := by decide +kernel
theorem dX5_copy_50 : decode cX5_copy 50 = .ok (.aload_n 0, 1) := by decide +kernel
theorem dX5_copy_51 : decode cX5_copy 51 = .ok (.getfield 36, 3) := by decide +kernel
theorem dX5_copy_54 : decode cX5_copy 54 = .ok (.iload_n 1, 1) := by decide +kernel
theorem dX5_copy_55 : decode cX5_copy 55 = .ok (.invokevirtual 225, 3) := by decide +kernel
theorem dX5_copy_58 : decode cX5_copy 58 = .ok (.aload_n 0, 1) := by decide +kernel
theorem dX5_copy_59 : decode cX5_copy 59 = .ok (.getfield 36, 3) := by decide +kernel
theorem dX5_copy_62 : decode cX5_copy 62 = .ok (.iload_n 3, 1) := by decide +kernel
theorem dX5_copy_63 : decode cX5_copy 63 = .ok (.invokevirtual 225, 3) := by decide +kernel
theorem dX5_copy_66 : decode cX5_copy 66 = .ok (.if_icmp .eq 6, 3) := by decide +kernel
theorem dX5_copy_69 : decode cX5_copy 69 = .ok (.bipush (-13), 2) := by decide +kernel
theorem dX5_copy_71 : decode cX5_copy 71 = .ok (.ireturn, 1) := by decide +kernel
theorem dX5_copy_72 : decode cX5_copy 72 = .ok (.iload 5, 2) := by decide +kernel
theorem dX5_copy_74 : decode cX5_copy 74 = .ok (.ifCond .lt 32, 3) := by decide +kernel
theorem dX5_copy_77 : decode cX5_copy 77 = .ok (.aload_n 0, 1) := by decide +kernel
theorem dX5_copy_78 : decode cX5_copy 78 = .ok (.getfield 36, 3) := by decide +kernel
theorem dX5_copy_81 : decode cX5_copy 81 = .ok (.iload_n 1, 1) := by decide +kernel
theorem dX5_copy_82 : decode cX5_copy 82 = .ok (.iload_n 2, 1) := by decide +kernel
theorem dX5_copy_83 : decode cX5_copy 83 = .ok (.iload 5, 2) := by decide +kernel
theorem dX5_copy_85 : decode cX5_copy 85 = .ok (.invokevirtual 228, 3) := by decide +kernel
theorem dX5_copy_88 : decode cX5_copy 88 = .ok (.ifCond .eq 18, 3) := by decide +kernel
theorem dX5_copy_91 : decode cX5_copy 91 = .ok (.aload_n 0, 1) := by decide +kernel
theorem dX5_copy_92 : decode cX5_copy 92 = .ok (.getfield 36, 3) := by decide +kernel
theorem dX5_copy_95 : decode cX5_copy 95 = .ok (.iload_n 3, 1) := by decide +kernel
theorem dX5_copy_96 : decode cX5_copy 96 = .ok (.iload 4, 2) := by decide +kernel
theorem dX5_copy_98 : decode cX5_copy 98 = .ok (.iload 5, 2) := by decide +kernel
theorem dX5_copy_100 : decode cX5_copy 100 = .ok (.invokevirtual 228, 3) := by decide +kernel
theorem dX5_copy_103 : decode cX5_copy 103 = .ok (.ifCond .ne 6, 3) := by decide +kernel
theorem dX5_copy_106 : decode cX5_copy 106 = .ok (.bipush (-12), 2) := by decide +kernel
theorem dX5_copy_108 : decode cX5_copy 108 = .ok (.ireturn, 1) := by decide +kernel
theorem dX5_copy_109 : decode cX5_copy 109 = .ok (.aload_n 0, 1) := by decide +kernel
theorem dX5_copy_110 : decode cX5_copy 110 = .ok (.getfield 36, 3) := by decide +kernel
theorem dX5_copy_113 : decode cX5_copy 113 = .ok (.iload_n 1, 1) := by decide +kernel
theorem dX5_copy_114 : decode cX5_copy 114 = .ok (.iload_n 2, 1) := by decide +kernel
theorem dX5_copy_115 : decode cX5_copy 115 = .ok (.iload_n 3, 1) := by decide +kernel
theorem dX5_copy_116 : decode cX5_copy 116 = .ok (.iload 4, 2) := by decide +kernel
theorem dX5_copy_118 : decode cX5_copy 118 = .ok (.iload 5, 2) := by decide +kernel
theorem dX5_copy_120 : decode cX5_copy 120 = .ok (.invokevirtual 232, 3) := by decide +kernel
theorem dX5_copy_123 : decode cX5_copy 123 = .ok (.iload 5, 2) := by decide +kernel
theorem dX5_copy_125 : decode cX5_copy 125 = .ok (.ireturn, 1) := by decide +kernel
theorem dX5_eaters_0 : decode cX5_eaters 0 = .ok (.aload_n 0, 1) := by decide +kernel
theorem dX5_eaters_1 : decode cX5_eaters 1 = .ok (.getfield 36, 3) := by decide +kernel
theorem dX5_eaters_4 : decode cX5_eaters 4 = .ok (.iload_n 1, 1) := by decide +kernel
theorem dX5_eaters_5 : decode cX5_eaters 5 = .ok (.invokevirtual 183, 3) := by decide +kernel
theorem dX5_eaters_8 : decode cX5_eaters 8 = .ok (.ifCond .eq 23, 3) := by decide +kernel
theorem dX5_eaters_11 : decode cX5_eaters 11 = .ok (.iload_n 2, 1) := by decide +kernel
theorem dX5_eaters_12 : decode cX5_eaters 12 = .ok (.ifCond .lt 19, 3) := by decide +kernel
theorem dX5_eaters_15 : decode cX5_eaters 15 = .ok (.iload_n 2, 1) := by decide +kernel
theorem dX5_eaters_16 : decode cX5_eaters 16 = .ok (.iconst 3, 1) := by decide +kernel
theorem dX5_eaters_17 : decode cX5_eaters 17 = .ok (.if_icmp .ge 14, 3) := by decide +kernel
theorem dX5_eaters_20 : decode cX5_eaters 20 = .ok (.iload 4, 2) := by decide +kernel
theorem dX5_eaters_22 : decode cX5_eaters 22 = .ok (.ifCond .lt 9, 3) := by decide +kernel
theorem dX5_eaters_25 : decode cX5_eaters 25 = .ok (.iload 4, 2) := by decide +kernel
theorem dX5_eaters_27 : decode cX5_eaters 27 = .ok (.iconst 5, 1) := by decide +kernel
theorem dX5_eaters_28 : decode cX5_eaters 28 = .ok (.if_icmp .le 6, 3) := by decide +kernel
theorem dX5_eaters_31 : decode cX5_eaters 31 = .ok (.bipush (-2), 2) := by decide +kernel
theorem dX5_eaters_33 : decode cX5_eaters 33 = .ok (.ireturn, 1) := by decide +kernel
theorem dX5_eaters_34 : decode cX5_eaters 34 = .ok (.aload_n 0, 1) := by decide +kernel
theorem dX5_eaters_35 : decode cX5_eaters 35 = .ok (.getfield 36, 3) := by decide +kernel
theorem dX5_eaters_38 : decode cX5_eaters 38 = .ok (.iload_n 1, 1) := by decide +kernel
theorem dX5_eaters_39 : decode cX5_eaters 39 = .ok (.invokevirtual 136, 3) := by decide +kernel
theorem dX5_eaters_42 : decode cX5_eaters 42 = .ok (.ifCond .eq 6, 3) := by decide +kernel
theorem dX5_eaters_45 : decode cX5_eaters 45 = .ok (.bipush (-11), 2) := by decide +kernel
theorem dX5_eaters_47 : decode cX5_eaters 47 = .ok (.ireturn, 1) := by decide +kernel
theorem dX5_eaters_48 : decode cX5_eaters 48 = .ok (.aload_n 0, 1) := by decide +kernel
theorem dX5_eaters_49 : decode cX5_eaters 49 = .ok (.getfield 36, 3) := by decide +kernel
theorem dX5_eaters_52 : decode cX5_eaters 52 = .ok (.iload_n 1, 1) := by decide +kernel
theorem dX5_eaters_53 : decode cX5_eaters 53 = .ok (.invokevirtual 225, 3) := by decide +kernel
theorem dX5_eaters_56 : decode cX5_eaters 56 = .ok (.iload_n 2, 1) := by decide +kernel
theorem dX5_eaters_57 : decode cX5_eaters 57 = .ok (.if_icmp .eq 6, 3) := by decide +kernel
theorem dX5_eaters_60 : decode cX5_eaters 60 = .ok (.bipush (-13), 2) := by decide +kernel
theorem dX5_eaters_62 : decode cX5_eaters 62 = .ok (.ireturn, 1) := by decide +kernel
theorem dX5_eaters_63 : decode cX5_eaters 63 = .ok (.iconst 0, 1) := by decide +kernel
theorem dX5_eaters_64 : decode cX5_eaters 64 = .ok (.istore 5, 2) := by decide +kernel
theorem dX5_eaters_66 : decode cX5_eaters 66 = .ok (.iconst 0, 1) := by decide +kernel
theorem dX5_eaters_67 : decode cX5_eaters 67 = .ok (.istore 6, 2) := by decide +kernel
theorem dX5_eaters_69 : decode cX5_eaters 69 = .ok (.iload 6, 2) := by decide +kernel
theorem dX5_eaters_71 : decode cX5_eaters 71 = .ok (.iload 4, 2) := by decide +kernel
theorem dX5_eaters_73 : decode cX5_eaters 73 = .ok (.if_icmp .ge 89, 3) := by decide +kernel
theorem dX5_eaters_76 : decode cX5_eaters 76 = .ok (.iload_n 3, 1) := by decide +kernel
theorem dX5_eaters_77 : decode cX5_eaters 77 = .ok (.iconst 3, 1) := by decide +kernel
theorem dX5_eaters_78 : decode cX5_eaters 78 = .ok (.iload 6, 2) := by decide +kernel
theorem dX5_eaters_80 : decode cX5_eaters 80 = .ok (.imul, 1) := by decide +kernel
theorem dX5_eaters_81 : decode cX5_eaters 81 = .ok (.iadd, 1) := by decide +kernel
theorem dX5_eaters_82 : decode cX5_eaters 82 = .ok (.istore 7, 2) := by decide +kernel
theorem dX5_eaters_84 : decode cX5_eaters 84 = .ok (.aload_n 0, 1) := by decide +kernel
theorem dX5_eaters_85 : decode cX5_eaters 85 = .ok (.getfield 36, 3) := by decide +kernel
theorem dX5_eaters_88 : decode cX5_eaters 88 = .ok (.iload_n 1, 1) := by decide +kernel
theorem dX5_eaters_89 : decode cX5_eaters 89 = .ok (.iload 7, 2) := by decide +kernel
theorem dX5_eaters_91 : decode cX5_eaters 91 = .ok (.iconst 3, 1) := by decide +kernel
theorem dX5_eaters_92 : decode cX5_eaters 92 = .ok (.invokevirtual 228, 3) := by decide +kernel
theorem dX5_eaters_95 : decode cX5_eaters 95 = .ok (.ifCond .ne 6, 3) := by decide +kernel
theorem dX5_eaters_98 : decode cX5_eaters 98 = .ok (.bipush (-12), 2) := by decide +kernel
theorem dX5_eaters_100 : decode cX5_eaters 100 = .ok (.ireturn, 1) := by decide +kernel
theorem dX5_eaters_101 : decode cX5_eaters 101 = .ok (.aload_n 0, 1) := by decide +kernel
theorem dX5_eaters_102 : decode cX5_eaters 102 = .ok (.getfield 36, 3) := by decide +kernel
theorem dX5_eaters_105 : decode cX5_eaters 105 = .ok (.iload_n 1, 1) := by decide +kernel
theorem dX5_eaters_106 : decode cX5_eaters 106 = .ok (.iload 7, 2) := by decide +kernel
theorem dX5_eaters_108 : decode cX5_eaters 108 = .ok (.invokevirtual 146, 3) := by decide +kernel
theorem dX5_eaters_111 : decode cX5_eaters 111 = .ok (.istore 8, 2) := by decide +kernel
theorem dX5_eaters_113 : decode cX5_eaters 113 = .ok (.aload_n 0, 1) := by decide +kernel
theorem dX5_eaters_114 : decode cX5_eaters 114 = .ok (.getfield 36, 3) := by decide +kernel
theorem dX5_eaters_117 : decode cX5_eaters 117 = .ok (.iload_n 1, 1) := by decide +kernel
theorem dX5_eaters_118 : decode cX5_eaters 118 = .ok (.iload 7, 2) := by decide +kernel
theorem dX5_eaters_120 : decode cX5_eaters 120 = .ok (.iconst 1, 1) := by decide +kernel
theorem dX5_eaters_121 : decode cX5_eaters 121 = .ok (.iadd, 1) := by decide +kernel
theorem dX5_eaters_122 : decode cX5_eaters 122 = .ok (.invokevirtual 146, 3) := by decide +kernel
theorem dX5_eaters_125 : decode cX5_eaters 125 = .ok (.istore 9, 2) := by decide +kernel
theorem dX5_eaters_127 : decode cX5_eaters 127 = .ok (.aload_n 0, 1) := by decide +kernel
theorem dX5_eaters_128 : decode cX5_eaters 128 = .ok (.getfield 10, 3) := by decide +kernel
theorem dX5_eaters_131 : decode cX5_eaters 131 = .ok (.iload 8, 2) := by decide +kernel
theorem dX5_eaters_133 : decode cX5_eaters 133 = .ok (.iload 9, 2) := by decide +kernel
theorem dX5_eaters_135 : decode cX5_eaters 135 = .ok (.aload_n 0, 1) := by decide +kernel
theorem dX5_eaters_136 : decode cX5_eaters 136 = .ok (.getfield 36, 3) := by decide +kernel
theorem dX5_eaters_139 : decode cX5_eaters 139 = .ok (.iload_n 1, 1) := by decide +kernel
theorem dX5_eaters_140 : decode cX5_eaters 140 = .ok (.iload 7, 2) := by decide +kernel
theorem dX5_eaters_142 : decode cX5_eaters 142 = .ok (.iconst 2, 1) := by decide +kernel
theorem dX5_eaters_143 : decode cX5_eaters 143 = .ok (.iadd, 1) := by decide +kernel
theorem dX5_eaters_144 : decode cX5_eaters 144 = .ok (.invokevirtual 146, 3) := by decide +kernel
theorem dX5_eaters_147 : decode cX5_eaters 147 = .ok (.invokevirtual 74, 3) := by decide +kernel
theorem dX5_eaters_150 : decode cX5_eaters 150 = .ok (.ifCond .lt 6, 3) := by decide +kernel
theorem dX5_eaters_153 : decode cX5_eaters 153 = .ok (.iinc 5 1, 3) := by decide +kernel
theorem dX5_eaters_156 : decode cX5_eaters 156 = .ok (.iinc 6 1, 3) := by decide +kernel
theorem dX5_eaters_159 : decode cX5_eaters 159 = .ok (.goto (-90), 3) := by decide +kernel
theorem dX5_eaters_162 : decode cX5_eaters 162 = .ok (.iload 5, 2) := by decide +kernel
theorem dX5_eaters_164 : decode cX5_eaters 164 = .ok (.ireturn, 1) := by decide +kernel
theorem dX5_taken_0 : decode cX5_taken 0 = .ok (.iload_n 2, 1) := by decide +kernel
theorem dX5_taken_1 : decode cX5_taken 1 = .ok (.ifCond .lt 9, 3) := by decide +kernel
theorem dX5_taken_4 : decode cX5_taken 4 = .ok (.iload_n 2, 1) := by decide +kernel
theorem dX5_taken_5 : decode cX5_taken 5 = .ok (.bipush 6, 2) := by decide +kernel
theorem dX5_taken_7 : decode cX5_taken 7 = .ok (.if_icmp .lt 6, 3) := by decide +kernel
theorem dX5_taken_10 : decode cX5_taken 10 = .ok (.bipush (-2), 2) := by decide +kernel
theorem dX5_taken_12 : decode cX5_taken 12 = .ok (.ireturn, 1) := by decide +kernel
theorem dX5_taken_13 : decode cX5_taken 13 = .ok (.aload_n 0, 1) := by decide +kernel
theorem dX5_taken_14 : decode cX5_taken 14 = .ok (.getfield 10, 3) := by decide +kernel
theorem dX5_taken_17 : decode cX5_taken 17 = .ok (.iload_n 1, 1) := by decide +kernel
theorem dX5_taken_18 : decode cX5_taken 18 = .ok (.invokevirtual 77, 3) := by decide +kernel
theorem dX5_taken_21 : decode cX5_taken 21 = .ok (.ifCond .ne 6, 3) := by decide +kernel
theorem dX5_taken_24 : decode cX5_taken 24 = .ok (.bipush (-11), 2) := by decide +kernel
theorem dX5_taken_26 : decode cX5_taken 26 = .ok (.ireturn, 1) := by decide +kernel
theorem dX5_taken_27 : decode cX5_taken 27 = .ok (.aload_n 0, 1) := by decide +kernel
theorem dX5_taken_28 : decode cX5_taken 28 = .ok (.getfield 10, 3) := by decide +kernel
theorem dX5_taken_31 : decode cX5_taken 31 = .ok (.getfield 81, 3) := by decide +kernel
theorem dX5_taken_34 : decode cX5_taken 34 = .ok (.iload_n 1, 1) := by decide +kernel
theorem dX5_taken_35 : decode cX5_taken 35 = .ok (.iaload, 1) := by decide +kernel
theorem dX5_taken_36 : decode cX5_taken 36 = .ok (.iload_n 2, 1) := by decide +kernel
theorem dX5_taken_37 : decode cX5_taken 37 = .ok (.invokestatic 236, 3) := by decide +kernel
theorem dX5_taken_40 : decode cX5_taken 40 = .ok (.ifCond .eq 15, 3) := by decide +kernel
theorem dX5_taken_43 : decode cX5_taken 43 = .ok (.aload_n 0, 1) := by decide +kernel
theorem dX5_taken_44 : decode cX5_taken 44 = .ok (.getfield 10, 3) := by decide +kernel
theorem dX5_taken_47 : decode cX5_taken 47 = .ok (.getfield 91, 3) := by decide +kernel
theorem dX5_taken_50 : decode cX5_taken 50 = .ok (.iload_n 1, 1) := by decide +kernel
theorem dX5_taken_51 : decode cX5_taken 51 = .ok (.iaload, 1) := by decide +kernel
theorem dX5_taken_52 : decode cX5_taken 52 = .ok (.goto 5, 3) := by decide +kernel
theorem dX5_taken_55 : decode cX5_taken 55 = .ok (.bipush (-13), 2) := by decide +kernel
theorem dX5_taken_57 : decode cX5_taken 57 = .ok (.ireturn, 1) := by decide +kernel
theorem dX5_eatsOf_0 : decode cX5_eatsOf 0 = .ok (.iload_n 1, 1) := by decide +kernel
theorem dX5_eatsOf_1 : decode cX5_eatsOf 1 = .ok (.istore_n 2, 1) := by decide +kernel
theorem dX5_eatsOf_2 : decode cX5_eatsOf 2 = .ok (.iload_n 0, 1) := by decide +kernel
theorem dX5_eatsOf_3 : decode cX5_eatsOf 3 = .ok (.tableswitch 63 1 5 #[33, 63, 40, 49, 56], 33) := by decide +kernel
theorem dX5_eatsOf_36 : decode cX5_eatsOf 36 = .ok (.iload_n 1, 1) := by decide +kernel
theorem dX5_eatsOf_37 : decode cX5_eatsOf 37 = .ok (.iconst 2, 1) := by decide +kernel
theorem dX5_eatsOf_38 : decode cX5_eatsOf 38 = .ok (.idiv, 1) := by decide +kernel
theorem dX5_eatsOf_39 : decode cX5_eatsOf 39 = .ok (.istore_n 2, 1) := by decide +kernel
theorem dX5_eatsOf_40 : decode cX5_eatsOf 40 = .ok (.goto 26, 3) := by decide +kernel
theorem dX5_eatsOf_43 : decode cX5_eatsOf 43 = .ok (.iload_n 1, 1) := by decide +kernel
theorem dX5_eatsOf_44 : decode cX5_eatsOf 44 = .ok (.iconst 2, 1) := by decide +kernel
theorem dX5_eatsOf_45 : decode cX5_eatsOf 45 = .ok (.idiv, 1) := by decide +kernel
theorem dX5_eatsOf_46 : decode cX5_eatsOf 46 = .ok (.iconst 1, 1) := by decide +kernel
theorem dX5_eatsOf_47 : decode cX5_eatsOf 47 = .ok (.isub, 1) := by decide +kernel
theorem dX5_eatsOf_48 : decode cX5_eatsOf 48 = .ok (.istore_n 2, 1) := by decide +kernel
theorem dX5_eatsOf_49 : decode cX5_eatsOf 49 = .ok (.goto 17, 3) := by decide +kernel
theorem dX5_eatsOf_52 : decode cX5_eatsOf 52 = .ok (.iload_n 1, 1) := by decide +kernel
theorem dX5_eatsOf_53 : decode cX5_eatsOf 53 = .ok (.iconst 2, 1) := by decide +kernel
theorem dX5_eatsOf_54 : decode cX5_eatsOf 54 = .ok (.iadd, 1) := by decide +kernel
theorem dX5_eatsOf_55 : decode cX5_eatsOf 55 = .ok (.istore_n 2, 1) := by decide +kernel
theorem dX5_eatsOf_56 : decode cX5_eatsOf 56 = .ok (.goto 10, 3) := by decide +kernel
theorem dX5_eatsOf_59 : decode cX5_eatsOf 59 = .ok (.iload_n 1, 1) := by decide +kernel
theorem dX5_eatsOf_60 : decode cX5_eatsOf 60 = .ok (.iconst 2, 1) := by decide +kernel
theorem dX5_eatsOf_61 : decode cX5_eatsOf 61 = .ok (.imul, 1) := by decide +kernel
theorem dX5_eatsOf_62 : decode cX5_eatsOf 62 = .ok (.istore_n 2, 1) := by decide +kernel
theorem dX5_eatsOf_63 : decode cX5_eatsOf 63 = .ok (.goto 3, 3) := by decide +kernel
theorem dX5_eatsOf_66 : decode cX5_eatsOf 66 = .ok (.iconst 1, 1) := by decide +kernel
theorem dX5_eatsOf_67 : decode cX5_eatsOf 67 = .ok (.iload_n 2, 1) := by decide +kernel
theorem dX5_eatsOf_68 : decode cX5_eatsOf 68 = .ok (.invokestatic 205, 3) := by decide +kernel
theorem dX5_eatsOf_71 : decode cX5_eatsOf 71 = .ok (.ireturn, 1) := by decide +kernel
theorem dX5_hungersOf_0 : decode cX5_hungersOf 0 = .ok (.iload_n 2, 1) := by decide +kernel
theorem dX5_hungersOf_1 : decode cX5_hungersOf 1 = .ok (.istore 5, 2) := by decide +kernel
theorem dX5_hungersOf_3 : decode cX5_hungersOf 3 = .ok (.iload_n 0, 1) := by decide +kernel
theorem dX5_hungersOf_4 : decode cX5_hungersOf 4 = .ok (.tableswitch 108 1 5 #[36, 44, 60, 80, 98], 36) := by decide +kernel
theorem dX5_hungersOf_40 : decode cX5_hungersOf 40 = .ok (.iload_n 1, 1) := by decide +kernel
theorem dX5_hungersOf_41 : decode cX5_hungersOf 41 = .ok (.iload_n 2, 1) := by decide +kernel
theorem dX5_hungersOf_42 : decode cX5_hungersOf 42 = .ok (.iadd, 1) := by decide +kernel
theorem dX5_hungersOf_43 : decode cX5_hungersOf 43 = .ok (.istore 5, 2) := by decide +kernel
theorem dX5_hungersOf_45 : decode cX5_hungersOf 45 = .ok (.goto 67, 3) := by decide +kernel
theorem dX5_hungersOf_48 : decode cX5_hungersOf 48 = .ok (.iload_n 3, 1) := by decide +kernel
theorem dX5_hungersOf_49 : decode cX5_hungersOf 49 = .ok (.iload 4, 2) := by decide +kernel
theorem dX5_hungersOf_51 : decode cX5_hungersOf 51 = .ok (.if_icmp .le 7, 3) := by decide +kernel
theorem dX5_hungersOf_54 : decode cX5_hungersOf 54 = .ok (.iconst 0, 1) := by decide +kernel
theorem dX5_hungersOf_55 : decode cX5_hungersOf 55 = .ok (.goto 4, 3) := by decide +kernel
theorem dX5_hungersOf_58 : decode cX5_hungersOf 58 = .ok (.iload_n 2, 1) := by decide +kernel
theorem dX5_hungersOf_59 : decode cX5_hungersOf 59 = .ok (.istore 5, 2) := by decide +kernel
theorem dX5_hungersOf_61 : decode cX5_hungersOf 61 = .ok (.goto 51, 3) := by decide +kernel
theorem dX5_hungersOf_64 : decode cX5_hungersOf 64 = .ok (.iload_n 3, 1) := by decide +kernel
theorem dX5_hungersOf_65 : decode cX5_hungersOf 65 = .ok (.ifCond .ne 11, 3) := by decide +kernel
theorem dX5_hungersOf_68 : decode cX5_hungersOf 68 = .ok (.iconst 2, 1) := by decide +kernel
theorem dX5_hungersOf_69 : decode cX5_hungersOf 69 = .ok (.iload_n 1, 1) := by decide +kernel
theorem dX5_hungersOf_70 : decode cX5_hungersOf 70 = .ok (.iload_n 2, 1) := by decide +kernel
theorem dX5_hungersOf_71 : decode cX5_hungersOf 71 = .ok (.iadd, 1) := by decide +kernel
theorem dX5_hungersOf_72 : decode cX5_hungersOf 72 = .ok (.imul, 1) := by decide +kernel
theorem dX5_hungersOf_73 : decode cX5_hungersOf 73 = .ok (.goto 6, 3) := by decide +kernel
theorem dX5_hungersOf_76 : decode cX5_hungersOf 76 = .ok (.iload_n 1, 1) := by decide +kernel
theorem dX5_hungersOf_77 : decode cX5_hungersOf 77 = .ok (.iload_n 2, 1) := by decide +kernel
theorem dX5_hungersOf_78 : decode cX5_hungersOf 78 = .ok (.iadd, 1) := by decide +kernel
theorem dX5_hungersOf_79 : decode cX5_hungersOf 79 = .ok (.istore 5, 2) := by decide +kernel
theorem dX5_hungersOf_81 : decode cX5_hungersOf 81 = .ok (.goto 31, 3) := by decide +kernel
theorem dX5_hungersOf_84 : decode cX5_hungersOf 84 = .ok (.iload_n 3, 1) := by decide +kernel
theorem dX5_hungersOf_85 : decode cX5_hungersOf 85 = .ok (.iload 4, 2) := by decide +kernel
theorem dX5_hungersOf_87 : decode cX5_hungersOf 87 = .ok (.if_icmp .le 7, 3) := by decide +kernel
theorem dX5_hungersOf_90 : decode cX5_hungersOf 90 = .ok (.iconst 0, 1) := by decide +kernel
theorem dX5_hungersOf_91 : decode cX5_hungersOf 91 = .ok (.goto 6, 3) := by decide +kernel
theorem dX5_hungersOf_94 : decode cX5_hungersOf 94 = .ok (.iload_n 2, 1) := by decide +kernel
theorem dX5_hungersOf_95 : decode cX5_hungersOf 95 = .ok (.iconst 2, 1) := by decide +kernel
theorem dX5_hungersOf_96 : decode cX5_hungersOf 96 = .ok (.idiv, 1) := by decide +kernel
theorem dX5_hungersOf_97 : decode cX5_hungersOf 97 = .ok (.istore 5, 2) := by decide +kernel
theorem dX5_hungersOf_99 : decode cX5_hungersOf 99 = .ok (.goto 13, 3) := by decide +kernel
theorem dX5_hungersOf_102 : decode cX5_hungersOf 102 = .ok (.iconst 5, 1) := by decide +kernel
theorem dX5_hungersOf_103 : decode cX5_hungersOf 103 = .ok (.iload_n 2, 1) := by decide +kernel
theorem dX5_hungersOf_104 : decode cX5_hungersOf 104 = .ok (.invokestatic 240, 3) := by decide +kernel
theorem dX5_hungersOf_107 : decode cX5_hungersOf 107 = .ok (.istore 5, 2) := by decide +kernel
theorem dX5_hungersOf_109 : decode cX5_hungersOf 109 = .ok (.goto 3, 3) := by decide +kernel
theorem dX5_hungersOf_112 : decode cX5_hungersOf 112 = .ok (.iconst 0, 1) := by decide +kernel
theorem dX5_hungersOf_113 : decode cX5_hungersOf 113 = .ok (.iload 5, 2) := by decide +kernel
theorem dX5_hungersOf_115 : decode cX5_hungersOf 115 = .ok (.invokestatic 205, 3) := by decide +kernel
theorem dX5_hungersOf_118 : decode cX5_hungersOf 118 = .ok (.ireturn, 1) := by decide +kernel
theorem dX5_kindAbove_0 : decode cX5_kindAbove 0 = .ok (.iload_n 0, 1) := by decide +kernel
theorem dX5_kindAbove_1 : decode cX5_kindAbove 1 = .ok (.tableswitch 41 1 5 #[35, 35, 37, 39, 35], 35) := by decide +kernel
theorem dX5_kindAbove_36 : decode cX5_kindAbove 36 = .ok (.iconst 0, 1) := by decide +kernel
theorem dX5_kindAbove_37 : decode cX5_kindAbove 37 = .ok (.ireturn, 1) := by decide +kernel
theorem dX5_kindAbove_38 : decode cX5_kindAbove 38 = .ok (.iconst 1, 1) := by decide +kernel
theorem dX5_kindAbove_39 : decode cX5_kindAbove 39 = .ok (.ireturn, 1) := by decide +kernel
theorem dX5_kindAbove_40 : decode cX5_kindAbove 40 = .ok (.iconst 2, 1) := by decide +kernel
theorem dX5_kindAbove_41 : decode cX5_kindAbove 41 = .ok (.ireturn, 1) := by decide +kernel
theorem dX5_kindAbove_42 : decode cX5_kindAbove 42 = .ok (.iconst (-1), 1) := by decide +kernel
theorem dX5_kindAbove_43 : decode cX5_kindAbove 43 = .ok (.ireturn, 1) := by decide +kernel
theorem dX5_isUnder_0 : decode cX5_isUnder 0 = .ok (.iload_n 0, 1) := by decide +kernel
theorem dX5_isUnder_1 : decode cX5_isUnder 1 = .ok (.istore_n 2, 1) := by decide +kernel
theorem dX5_isUnder_2 : decode cX5_isUnder 2 = .ok (.iconst 0, 1) := by decide +kernel
theorem dX5_isUnder_3 : decode cX5_isUnder 3 = .ok (.istore_n 3, 1) := by decide +kernel
theorem dX5_isUnder_4 : decode cX5_isUnder 4 = .ok (.iload_n 3, 1) := by decide +kernel
theorem dX5_isUnder_5 : decode cX5_isUnder 5 = .ok (.bipush 6, 2) := by decide +kernel
theorem dX5_isUnder_7 : decode cX5_isUnder 7 = .ok (.if_icmp .ge 26, 3) := by decide +kernel
theorem dX5_isUnder_10 : decode cX5_isUnder 10 = .ok (.iload_n 2, 1) := by decide +kernel
theorem dX5_isUnder_11 : decode cX5_isUnder 11 = .ok (.iconst (-1), 1) := by decide +kernel
theorem dX5_isUnder_12 : decode cX5_isUnder 12 = .ok (.if_icmp .eq 21, 3) := by decide +kernel
theorem dX5_isUnder_15 : decode cX5_isUnder 15 = .ok (.iload_n 2, 1) := by decide +kernel
theorem dX5_isUnder_16 : decode cX5_isUnder 16 = .ok (.iload_n 1, 1) := by decide +kernel
theorem dX5_isUnder_17 : decode cX5_isUnder 17 = .ok (.if_icmp .ne 5, 3) := by decide +kernel
theorem dX5_isUnder_20 : decode cX5_isUnder 20 = .ok (.iconst 1, 1) := by decide +kernel
theorem dX5_isUnder_21 : decode cX5_isUnder 21 = .ok (.ireturn, 1) := by decide +kernel
theorem dX5_isUnder_22 : decode cX5_isUnder 22 = .ok (.iload_n 2, 1) := by decide +kernel
theorem dX5_isUnder_23 : decode cX5_isUnder 23 = .ok (.invokestatic 243, 3) := by decide +kernel
theorem dX5_isUnder_26 : decode cX5_isUnder 26 = .ok (.istore_n 2, 1) := by decide +kernel
theorem dX5_isUnder_27 : decode cX5_isUnder 27 = .ok (.iinc 3 1, 3) := by decide +kernel
theorem dX5_isUnder_30 : decode cX5_isUnder 30 = .ok (.goto (-26), 3) := by decide +kernel
theorem dX5_isUnder_33 : decode cX5_isUnder 33 = .ok (.iconst 0, 1) := by decide +kernel
theorem dX5_isUnder_34 : decode cX5_isUnder 34 = .ok (.ireturn, 1) := by decide +kernel
theorem dX5_waysTo_0 : decode cX5_waysTo 0 = .ok (.iconst 0, 1) := by decide +kernel
theorem dX5_waysTo_1 : decode cX5_waysTo 1 = .ok (.istore_n 2, 1) := by decide +kernel
theorem dX5_waysTo_2 : decode cX5_waysTo 2 = .ok (.iconst 1, 1) := by decide +kernel
theorem dX5_waysTo_3 : decode cX5_waysTo 3 = .ok (.istore_n 3, 1) := by decide +kernel
theorem dX5_waysTo_4 : decode cX5_waysTo 4 = .ok (.iload_n 3, 1) := by decide +kernel
theorem dX5_waysTo_5 : decode cX5_waysTo 5 = .ok (.iconst 3, 1) := by decide +kernel
theorem dX5_waysTo_6 : decode cX5_waysTo 6 = .ok (.if_icmp .gt 93, 3) := by decide +kernel
theorem dX5_waysTo_9 : decode cX5_waysTo 9 = .ok (.aload_n 0, 1) := by decide +kernel
theorem dX5_waysTo_10 : decode cX5_waysTo 10 = .ok (.getfield 45, 3) := by decide +kernel
theorem dX5_waysTo_13 : decode cX5_waysTo 13 = .ok (.iload_n 3, 1) := by decide +kernel
theorem dX5_waysTo_14 : decode cX5_waysTo 14 = .ok (.invokevirtual 149, 3) := by decide +kernel
theorem dX5_waysTo_17 : decode cX5_waysTo 17 = .ok (.iconst 1, 1) := by decide +kernel
theorem dX5_waysTo_18 : decode cX5_waysTo 18 = .ok (.istore 4, 2) := by decide +kernel
theorem dX5_waysTo_20 : decode cX5_waysTo 20 = .ok (.iconst 0, 1) := by decide +kernel
theorem dX5_waysTo_21 : decode cX5_waysTo 21 = .ok (.istore 5, 2) := by decide +kernel
theorem dX5_waysTo_23 : decode cX5_waysTo 23 = .ok (.iload 5, 2) := by decide +kernel
theorem dX5_waysTo_25 : decode cX5_waysTo 25 = .ok (.iconst 5, 1) := by decide +kernel
theorem dX5_waysTo_26 : decode cX5_waysTo 26 = .ok (.if_icmp .ge 56, 3) := by decide +kernel
theorem dX5_waysTo_29 : decode cX5_waysTo 29 = .ok (.iload 5, 2) := by decide +kernel
theorem dX5_waysTo_31 : decode cX5_waysTo 31 = .ok (.aload_n 0, 1) := by decide +kernel
theorem dX5_waysTo_32 : decode cX5_waysTo 32 = .ok (.getfield 10, 3) := by decide +kernel
theorem dX5_waysTo_35 : decode cX5_waysTo 35 = .ok (.getfield 158, 3) := by decide +kernel
theorem dX5_waysTo_38 : decode cX5_waysTo 38 = .ok (.if_icmp .ge 44, 3) := by decide +kernel
theorem dX5_waysTo_41 : decode cX5_waysTo 41 = .ok (.iload 4, 2) := by decide +kernel
theorem dX5_waysTo_43 : decode cX5_waysTo 43 = .ok (.ifCond .eq 30, 3) := by decide +kernel
theorem dX5_waysTo_46 : decode cX5_waysTo 46 = .ok (.aload_n 0, 1) := by decide +kernel
theorem dX5_waysTo_47 : decode cX5_waysTo 47 = .ok (.getfield 45, 3) := by decide +kernel
theorem dX5_waysTo_50 : decode cX5_waysTo 50 = .ok (.getfield 193, 3) := by decide +kernel
theorem dX5_waysTo_53 : decode cX5_waysTo 53 = .ok (.iload 5, 2) := by decide +kernel
theorem dX5_waysTo_55 : decode cX5_waysTo 55 = .ok (.iaload, 1) := by decide +kernel
theorem dX5_waysTo_56 : decode cX5_waysTo 56 = .ok (.aload_n 0, 1) := by decide +kernel
theorem dX5_waysTo_57 : decode cX5_waysTo 57 = .ok (.getfield 36, 3) := by decide +kernel
theorem dX5_waysTo_60 : decode cX5_waysTo 60 = .ok (.iload_n 1, 1) := by decide +kernel
theorem dX5_waysTo_61 : decode cX5_waysTo 61 = .ok (.iload 5, 2) := by decide +kernel
theorem dX5_waysTo_63 : decode cX5_waysTo 63 = .ok (.invokevirtual 146, 3) := by decide +kernel
theorem dX5_waysTo_66 : decode cX5_waysTo 66 = .ok (.if_icmp .ne 7, 3) := by decide +kernel
theorem dX5_waysTo_69 : decode cX5_waysTo 69 = .ok (.iconst 1, 1) := by decide +kernel
theorem dX5_waysTo_70 : decode cX5_waysTo 70 = .ok (.goto 4, 3) := by decide +kernel
theorem dX5_waysTo_73 : decode cX5_waysTo 73 = .ok (.iconst 0, 1) := by decide +kernel
theorem dX5_waysTo_74 : decode cX5_waysTo 74 = .ok (.istore 4, 2) := by decide +kernel
theorem dX5_waysTo_76 : decode cX5_waysTo 76 = .ok (.iinc 5 1, 3) := by decide +kernel
theorem dX5_waysTo_79 : decode cX5_waysTo 79 = .ok (.goto (-56), 3) := by decide +kernel
theorem dX5_waysTo_82 : decode cX5_waysTo 82 = .ok (.iload 4, 2) := by decide +kernel
theorem dX5_waysTo_84 : decode cX5_waysTo 84 = .ok (.ifCond .eq 9, 3) := by decide +kernel
theorem dX5_waysTo_87 : decode cX5_waysTo 87 = .ok (.iload_n 2, 1) := by decide +kernel
theorem dX5_waysTo_88 : decode cX5_waysTo 88 = .ok (.iconst 1, 1) := by decide +kernel
theorem dX5_waysTo_89 : decode cX5_waysTo 89 = .ok (.iload_n 3, 1) := by decide +kernel
theorem dX5_waysTo_90 : decode cX5_waysTo 90 = .ok (.ishl, 1) := by decide +kernel
theorem dX5_waysTo_91 : decode cX5_waysTo 91 = .ok (.ior, 1) := by decide +kernel
theorem dX5_waysTo_92 : decode cX5_waysTo 92 = .ok (.istore_n 2, 1) := by decide +kernel
theorem dX5_waysTo_93 : decode cX5_waysTo 93 = .ok (.iinc 3 1, 3) := by decide +kernel
theorem dX5_waysTo_96 : decode cX5_waysTo 96 = .ok (.goto (-92), 3) := by decide +kernel
theorem dX5_waysTo_99 : decode cX5_waysTo 99 = .ok (.iload_n 2, 1) := by decide +kernel
theorem dX5_waysTo_100 : decode cX5_waysTo 100 = .ok (.ireturn, 1) := by decide +kernel
theorem dX5_ordersTo_0 : decode cX5_ordersTo 0 = .ok (.aload_n 0, 1) := by decide +kernel
theorem dX5_ordersTo_1 : decode cX5_ordersTo 1 = .ok (.getfield 45, 3) := by decide +kernel
theorem dX5_ordersTo_4 : decode cX5_ordersTo 4 = .ok (.invokevirtual 218, 3) := by decide +kernel
theorem dX5_ordersTo_7 : decode cX5_ordersTo 7 = .ok (.istore_n 2, 1) := by decide +kernel
theorem dX5_ordersTo_8 : decode cX5_ordersTo 8 = .ok (.lconst 1, 1) := by decide +kernel
theorem dX5_ordersTo_9 : decode cX5_ordersTo 9 = .ok (.lstore_n 3, 1) := by decide +kernel
theorem dX5_ordersTo_10 : decode cX5_ordersTo 10 = .ok (.iconst 0, 1) := by decide +kernel
theorem dX5_ordersTo_11 : decode cX5_ordersTo 11 = .ok (.istore 5, 2) := by decide +kernel
theorem dX5_ordersTo_13 : decode cX5_ordersTo 13 = .ok (.iload 5, 2) := by decide +kernel
theorem dX5_ordersTo_15 : decode cX5_ordersTo 15 = .ok (.iconst 5, 1) := by decide +kernel
theorem dX5_ordersTo_16 : decode cX5_ordersTo 16 = .ok (.if_icmp .ge 60, 3) := by decide +kernel
theorem dX5_ordersTo_19 : decode cX5_ordersTo 19 = .ok (.iload 5, 2) := by decide +kernel
theorem dX5_ordersTo_21 : decode cX5_ordersTo 21 = .ok (.aload_n 0, 1) := by decide +kernel
theorem dX5_ordersTo_22 : decode cX5_ordersTo 22 = .ok (.getfield 10, 3) := by decide +kernel
theorem dX5_ordersTo_25 : decode cX5_ordersTo 25 = .ok (.getfield 158, 3) := by decide +kernel
theorem dX5_ordersTo_28 : decode cX5_ordersTo 28 = .ok (.if_icmp .ge 48, 3) := by decide +kernel
theorem dX5_ordersTo_31 : decode cX5_ordersTo 31 = .ok (.aload_n 0, 1) := by decide +kernel
theorem dX5_ordersTo_32 : decode cX5_ordersTo 32 = .ok (.getfield 36, 3) := by decide +kernel
theorem dX5_ordersTo_35 : decode cX5_ordersTo 35 = .ok (.iload_n 1, 1) := by decide +kernel
theorem dX5_ordersTo_36 : decode cX5_ordersTo 36 = .ok (.iload 5, 2) := by decide +kernel
theorem dX5_ordersTo_38 : decode cX5_ordersTo 38 = .ok (.invokevirtual 146, 3) := by decide +kernel
theorem dX5_ordersTo_41 : decode cX5_ordersTo 41 = .ok (.istore 6, 2) := by decide +kernel
theorem dX5_ordersTo_43 : decode cX5_ordersTo 43 = .ok (.iload 6, 2) := by decide +kernel
theorem dX5_ordersTo_45 : decode cX5_ordersTo 45 = .ok (.ifCond .lt 9, 3) := by decide +kernel
theorem dX5_ordersTo_48 : decode cX5_ordersTo 48 = .ok (.iload 6, 2) := by decide +kernel
theorem dX5_ordersTo_50 : decode cX5_ordersTo 50 = .ok (.iload_n 2, 1) := by decide +kernel
theorem dX5_ordersTo_51 : decode cX5_ordersTo 51 = .ok (.if_icmp .le 5, 3) := by decide +kernel
theorem dX5_ordersTo_54 : decode cX5_ordersTo 54 = .ok (.lconst 0, 1) := by decide +kernel
theorem dX5_ordersTo_55 : decode cX5_ordersTo 55 = .ok (.lreturn, 1) := by decide +kernel
theorem dX5_ordersTo_56 : decode cX5_ordersTo 56 = .ok (.lload_n 3, 1) := by decide +kernel
theorem dX5_ordersTo_57 : decode cX5_ordersTo 57 = .ok (.iload_n 2, 1) := by decide +kernel
theorem dX5_ordersTo_58 : decode cX5_ordersTo 58 = .ok (.iload 6, 2) := by decide +kernel
theorem dX5_ordersTo_60 : decode cX5_ordersTo 60 = .ok (.invokestatic 246, 3) := by decide +kernel
theorem dX5_ordersTo_63 : decode cX5_ordersTo 63 = .ok (.lmul, 1) := by decide +kernel
theorem dX5_ordersTo_64 : decode cX5_ordersTo 64 = .ok (.lstore_n 3, 1) := by decide +kernel
theorem dX5_ordersTo_65 : decode cX5_ordersTo 65 = .ok (.iload_n 2, 1) := by decide +kernel
theorem dX5_ordersTo_66 : decode cX5_ordersTo 66 = .ok (.iload 6, 2) := by decide +kernel
theorem dX5_ordersTo_68 : decode cX5_ordersTo 68 = .ok (.isub, 1) := by decide +kernel
theorem dX5_ordersTo_69 : decode cX5_ordersTo 69 = .ok (.istore_n 2, 1) := by decide +kernel
theorem dX5_ordersTo_70 : decode cX5_ordersTo 70 = .ok (.iinc 5 1, 3) := by decide +kernel
theorem dX5_ordersTo_73 : decode cX5_ordersTo 73 = .ok (.goto (-60), 3) := by decide +kernel
theorem dX5_ordersTo_76 : decode cX5_ordersTo 76 = .ok (.iload_n 2, 1) := by decide +kernel
theorem dX5_ordersTo_77 : decode cX5_ordersTo 77 = .ok (.ifCond .ne 7, 3) := by decide +kernel
theorem dX5_ordersTo_80 : decode cX5_ordersTo 80 = .ok (.lload_n 3, 1) := by decide +kernel
theorem dX5_ordersTo_81 : decode cX5_ordersTo 81 = .ok (.goto 4, 3) := by decide +kernel
theorem dX5_ordersTo_84 : decode cX5_ordersTo 84 = .ok (.lconst 0, 1) := by decide +kernel
theorem dX5_ordersTo_85 : decode cX5_ordersTo 85 = .ok (.lreturn, 1) := by decide +kernel
theorem dX5_choices_0 : decode cX5_choices 0 = .ok (.lconst 1, 1) := by decide +kernel
theorem dX5_choices_1 : decode cX5_choices 1 = .ok (.lstore_n 2, 1) := by decide +kernel
theorem dX5_choices_2 : decode cX5_choices 2 = .ok (.iconst 0, 1) := by decide +kernel
theorem dX5_choices_3 : decode cX5_choices 3 = .ok (.istore 4, 2) := by decide +kernel
theorem dX5_choices_5 : decode cX5_choices 5 = .ok (.iload 4, 2) := by decide +kernel
theorem dX5_choices_7 : decode cX5_choices 7 = .ok (.iload_n 1, 1) := by decide +kernel
theorem dX5_choices_8 : decode cX5_choices 8 = .ok (.if_icmp .ge 30, 3) := by decide +kernel
theorem dX5_choices_11 : decode cX5_choices 11 = .ok (.iload 4, 2) := by decide +kernel
theorem dX5_choices_13 : decode cX5_choices 13 = .ok (.bipush 12, 2) := by decide +kernel
theorem dX5_choices_15 : decode cX5_choices 15 = .ok (.if_icmp .ge 23, 3) := by decide +kernel
theorem dX5_choices_18 : decode cX5_choices 18 = .ok (.lload_n 2, 1) := by decide +kernel
theorem dX5_choices_19 : decode cX5_choices 19 = .ok (.iload_n 0, 1) := by decide +kernel
theorem dX5_choices_20 : decode cX5_choices 20 = .ok (.iload 4, 2) := by decide +kernel
theorem dX5_choices_22 : decode cX5_choices 22 = .ok (.isub, 1) := by decide +kernel
theorem dX5_choices_23 : decode cX5_choices 23 = .ok (.i2l, 1) := by decide +kernel
theorem dX5_choices_24 : decode cX5_choices 24 = .ok (.lmul, 1) := by decide +kernel
theorem dX5_choices_25 : decode cX5_choices 25 = .ok (.iload 4, 2) := by decide +kernel
theorem dX5_choices_27 : decode cX5_choices 27 = .ok (.iconst 1, 1) := by decide +kernel
theorem dX5_choices_28 : decode cX5_choices 28 = .ok (.iadd, 1) := by decide +kernel
theorem dX5_choices_29 : decode cX5_choices 29 = .ok (.i2l, 1) := by decide +kernel
theorem dX5_choices_30 : decode cX5_choices 30 = .ok (.ldiv, 1) := by decide +kernel
theorem dX5_choices_31 : decode cX5_choices 31 = .ok (.lstore_n 2, 1) := by decide +kernel
theorem dX5_choices_32 : decode cX5_choices 32 = .ok (.iinc 4 1, 3) := by decide +kernel
theorem dX5_choices_35 : decode cX5_choices 35 = .ok (.goto (-30), 3) := by decide +kernel
theorem dX5_choices_38 : decode cX5_choices 38 = .ok (.lload_n 2, 1) := by decide +kernel
theorem dX5_choices_39 : decode cX5_choices 39 = .ok (.lreturn, 1) := by decide +kernel
theorem dX5_notSo_0 : decode cX5_notSo 0 = .ok (.aload_n 0, 1) := by decide +kernel
theorem dX5_notSo_1 : decode cX5_notSo 1 = .ok (.getfield 45, 3) := by decide +kernel
theorem dX5_notSo_4 : decode cX5_notSo 4 = .ok (.iconst 1, 1) := by decide +kernel
theorem dX5_notSo_5 : decode cX5_notSo 5 = .ok (.invokevirtual 149, 3) := by decide +kernel
theorem dX5_notSo_8 : decode cX5_notSo 8 = .ok (.iconst 0, 1) := by decide +kernel
theorem dX5_notSo_9 : decode cX5_notSo 9 = .ok (.istore_n 2, 1) := by decide +kernel
theorem dX5_notSo_10 : decode cX5_notSo 10 = .ok (.iconst 0, 1) := by decide +kernel
theorem dX5_notSo_11 : decode cX5_notSo 11 = .ok (.istore_n 3, 1) := by decide +kernel
theorem dX5_notSo_12 : decode cX5_notSo 12 = .ok (.iload_n 3, 1) := by decide +kernel
theorem dX5_notSo_13 : decode cX5_notSo 13 = .ok (.iconst 5, 1) := by decide +kernel
theorem dX5_notSo_14 : decode cX5_notSo 14 = .ok (.if_icmp .ge 46, 3) := by decide +kernel
theorem dX5_notSo_17 : decode cX5_notSo 17 = .ok (.iload_n 3, 1) := by decide +kernel
theorem dX5_notSo_18 : decode cX5_notSo 18 = .ok (.aload_n 0, 1) := by decide +kernel
theorem dX5_notSo_19 : decode cX5_notSo 19 = .ok (.getfield 10, 3) := by decide +kernel
theorem dX5_notSo_22 : decode cX5_notSo 22 = .ok (.getfield 158, 3) := by decide +kernel
theorem dX5_notSo_25 : decode cX5_notSo 25 = .ok (.if_icmp .ge 35, 3) := by decide +kernel
theorem dX5_notSo_28 : decode cX5_notSo 28 = .ok (.aload_n 0, 1) := by decide +kernel
theorem dX5_notSo_29 : decode cX5_notSo 29 = .ok (.getfield 45, 3) := by decide +kernel
theorem dX5_notSo_32 : decode cX5_notSo 32 = .ok (.iload_n 3, 1) := by decide +kernel
theorem dX5_notSo_33 : decode cX5_notSo 33 = .ok (.invokevirtual 250, 3) := by decide +kernel
theorem dX5_notSo_36 : decode cX5_notSo 36 = .ok (.aload_n 0, 1) := by decide +kernel
theorem dX5_notSo_37 : decode cX5_notSo 37 = .ok (.getfield 36, 3) := by decide +kernel
theorem dX5_notSo_40 : decode cX5_notSo 40 = .ok (.iload_n 1, 1) := by decide +kernel
theorem dX5_notSo_41 : decode cX5_notSo 41 = .ok (.iload_n 3, 1) := by decide +kernel
theorem dX5_notSo_42 : decode cX5_notSo 42 = .ok (.invokevirtual 146, 3) := by decide +kernel
theorem dX5_notSo_45 : decode cX5_notSo 45 = .ok (.if_icmp .eq 9, 3) := by decide +kernel
theorem dX5_notSo_48 : decode cX5_notSo 48 = .ok (.iload_n 2, 1) := by decide +kernel
theorem dX5_notSo_49 : decode cX5_notSo 49 = .ok (.iconst 1, 1) := by decide +kernel
theorem dX5_notSo_50 : decode cX5_notSo 50 = .ok (.iload_n 3, 1) := by decide +kernel
theorem dX5_notSo_51 : decode cX5_notSo 51 = .ok (.ishl, 1) := by decide +kernel
theorem dX5_notSo_52 : decode cX5_notSo 52 = .ok (.ior, 1) := by decide +kernel
theorem dX5_notSo_53 : decode cX5_notSo 53 = .ok (.istore_n 2, 1) := by decide +kernel
theorem dX5_notSo_54 : decode cX5_notSo 54 = .ok (.iinc 3 1, 3) := by decide +kernel
theorem dX5_notSo_57 : decode cX5_notSo 57 = .ok (.goto (-45), 3) := by decide +kernel
theorem dX5_notSo_60 : decode cX5_notSo 60 = .ok (.iload_n 2, 1) := by decide +kernel
theorem dX5_notSo_61 : decode cX5_notSo 61 = .ok (.ireturn, 1) := by decide +kernel
theorem dX5_pacesOf_0 : decode cX5_pacesOf 0 = .ok (.iconst 0, 1) := by decide +kernel
theorem dX5_pacesOf_1 : decode cX5_pacesOf 1 = .ok (.istore_n 3, 1) := by decide +kernel
theorem dX5_pacesOf_2 : decode cX5_pacesOf 2 = .ok (.iconst 1, 1) := by decide +kernel
theorem dX5_pacesOf_3 : decode cX5_pacesOf 3 = .ok (.istore 4, 2) := by decide +kernel
theorem dX5_pacesOf_5 : decode cX5_pacesOf 5 = .ok (.iload 4, 2) := by decide +kernel
theorem dX5_pacesOf_7 : decode cX5_pacesOf 7 = .ok (.bipush 20, 2) := by decide +kernel
theorem dX5_pacesOf_9 : decode cX5_pacesOf 9 = .ok (.if_icmp .gt 67, 3) := by decide +kernel
theorem dX5_pacesOf_12 : decode cX5_pacesOf 12 = .ok (.aload_n 0, 1) := by decide +kernel
theorem dX5_pacesOf_13 : decode cX5_pacesOf 13 = .ok (.getfield 45, 3) := by decide +kernel
theorem dX5_pacesOf_16 : decode cX5_pacesOf 16 = .ok (.getfield 253, 3) := by decide +kernel
theorem dX5_pacesOf_19 : decode cX5_pacesOf 19 = .ok (.iload_n 2, 1) := by decide +kernel
theorem dX5_pacesOf_20 : decode cX5_pacesOf 20 = .ok (.aload_n 0, 1) := by decide +kernel
theorem dX5_pacesOf_21 : decode cX5_pacesOf 21 = .ok (.getfield 10, 3) := by decide +kernel
theorem dX5_pacesOf_24 : decode cX5_pacesOf 24 = .ok (.getfield 81, 3) := by decide +kernel
theorem dX5_pacesOf_27 : decode cX5_pacesOf 27 = .ok (.iload_n 2, 1) := by decide +kernel
theorem dX5_pacesOf_28 : decode cX5_pacesOf 28 = .ok (.iaload, 1) := by decide +kernel
theorem dX5_pacesOf_29 : decode cX5_pacesOf 29 = .ok (.iload 4, 2) := by decide +kernel
theorem dX5_pacesOf_31 : decode cX5_pacesOf 31 = .ok (.invokestatic 87, 3) := by decide +kernel
theorem dX5_pacesOf_34 : decode cX5_pacesOf 34 = .ok (.iastore, 1) := by decide +kernel
theorem dX5_pacesOf_35 : decode cX5_pacesOf 35 = .ok (.aload_n 0, 1) := by decide +kernel
theorem dX5_pacesOf_36 : decode cX5_pacesOf 36 = .ok (.getfield 45, 3) := by decide +kernel
theorem dX5_pacesOf_39 : decode cX5_pacesOf 39 = .ok (.iconst 1, 1) := by decide +kernel
theorem dX5_pacesOf_40 : decode cX5_pacesOf 40 = .ok (.invokevirtual 149, 3) := by decide +kernel
theorem dX5_pacesOf_43 : decode cX5_pacesOf 43 = .ok (.aload_n 0, 1) := by decide +kernel
theorem dX5_pacesOf_44 : decode cX5_pacesOf 44 = .ok (.getfield 45, 3) := by decide +kernel
theorem dX5_pacesOf_47 : decode cX5_pacesOf 47 = .ok (.iload_n 2, 1) := by decide +kernel
theorem dX5_pacesOf_48 : decode cX5_pacesOf 48 = .ok (.invokevirtual 250, 3) := by decide +kernel
theorem dX5_pacesOf_51 : decode cX5_pacesOf 51 = .ok (.aload_n 0, 1) := by decide +kernel
theorem dX5_pacesOf_52 : decode cX5_pacesOf 52 = .ok (.getfield 36, 3) := by decide +kernel
theorem dX5_pacesOf_55 : decode cX5_pacesOf 55 = .ok (.iload_n 1, 1) := by decide +kernel
theorem dX5_pacesOf_56 : decode cX5_pacesOf 56 = .ok (.iload_n 2, 1) := by decide +kernel
theorem dX5_pacesOf_57 : decode cX5_pacesOf 57 = .ok (.invokevirtual 146, 3) := by decide +kernel
theorem dX5_pacesOf_60 : decode cX5_pacesOf 60 = .ok (.if_icmp .ne 10, 3) := by decide +kernel
theorem dX5_pacesOf_63 : decode cX5_pacesOf 63 = .ok (.iload_n 3, 1) := by decide +kernel
theorem dX5_pacesOf_64 : decode cX5_pacesOf 64 = .ok (.iconst 1, 1) := by decide +kernel
theorem dX5_pacesOf_65 : decode cX5_pacesOf 65 = .ok (.iload 4, 2) := by decide +kernel
theorem dX5_pacesOf_67 : decode cX5_pacesOf 67 = .ok (.ishl, 1) := by decide +kernel
theorem dX5_pacesOf_68 : decode cX5_pacesOf 68 = .ok (.ior, 1) := by decide +kernel
theorem dX5_pacesOf_69 : decode cX5_pacesOf 69 = .ok (.istore_n 3, 1) := by decide +kernel
theorem dX5_pacesOf_70 : decode cX5_pacesOf 70 = .ok (.iinc 4 1, 3) := by decide +kernel
theorem dX5_pacesOf_73 : decode cX5_pacesOf 73 = .ok (.goto (-68), 3) := by decide +kernel
theorem dX5_pacesOf_76 : decode cX5_pacesOf 76 = .ok (.iload_n 3, 1) := by decide +kernel
theorem dX5_pacesOf_77 : decode cX5_pacesOf 77 = .ok (.ireturn, 1) := by decide +kernel
theorem dX5_commonDivisor_0 : decode cX5_commonDivisor 0 = .ok (.iload_n 0, 1) := by decide +kernel
theorem dX5_commonDivisor_1 : decode cX5_commonDivisor 1 = .ok (.istore_n 2, 1) := by decide +kernel
theorem dX5_commonDivisor_2 : decode cX5_commonDivisor 2 = .ok (.iload_n 1, 1) := by decide +kernel
theorem dX5_commonDivisor_3 : decode cX5_commonDivisor 3 = .ok (.istore_n 3, 1) := by decide +kernel
theorem dX5_commonDivisor_4 : decode cX5_commonDivisor 4 = .ok (.iconst 0, 1) := by decide +kernel
theorem dX5_commonDivisor_5 : decode cX5_commonDivisor 5 = .ok (.istore 4, 2) := by decide +kernel
theorem dX5_commonDivisor_7 : decode cX5_commonDivisor 7 = .ok (.iload 4, 2) := by decide +kernel
theorem dX5_commonDivisor_9 : decode cX5_commonDivisor 9 = .ok (.bipush 64, 2) := by decide +kernel
theorem dX5_commonDivisor_11 : decode cX5_commonDivisor 11 = .ok (.if_icmp .ge 23, 3) := by decide +kernel
theorem dX5_commonDivisor_14 : decode cX5_commonDivisor 14 = .ok (.iload_n 3, 1) := by decide +kernel
theorem dX5_commonDivisor_15 : decode cX5_commonDivisor 15 = .ok (.ifCond .eq 19, 3) := by decide +kernel
theorem dX5_commonDivisor_18 : decode cX5_commonDivisor 18 = .ok (.iload_n 2, 1) := by decide +kernel
theorem dX5_commonDivisor_19 : decode cX5_commonDivisor 19 = .ok (.iload_n 3, 1) := by decide +kernel
theorem dX5_commonDivisor_20 : decode cX5_commonDivisor 20 = .ok (.irem, 1) := by decide +kernel
theorem dX5_commonDivisor_21 : decode cX5_commonDivisor 21 = .ok (.istore 5, 2) := by decide +kernel
theorem dX5_commonDivisor_23 : decode cX5_commonDivisor 23 = .ok (.iload_n 3, 1) := by decide +kernel
theorem dX5_commonDivisor_24 : decode cX5_commonDivisor 24 = .ok (.istore_n 2, 1) := by decide +kernel
theorem dX5_commonDivisor_25 : decode cX5_commonDivisor 25 = .ok (.iload 5, 2) := by decide +kernel
theorem dX5_commonDivisor_27 : decode cX5_commonDivisor 27 = .ok (.istore_n 3, 1) := by decide +kernel
theorem dX5_commonDivisor_28 : decode cX5_commonDivisor 28 = .ok (.iinc 4 1, 3) := by decide +kernel
theorem dX5_commonDivisor_31 : decode cX5_commonDivisor 31 = .ok (.goto (-24), 3) := by decide +kernel
theorem dX5_commonDivisor_34 : decode cX5_commonDivisor 34 = .ok (.iload_n 2, 1) := by decide +kernel
theorem dX5_commonDivisor_35 : decode cX5_commonDivisor 35 = .ok (.ireturn, 1) := by decide +kernel
