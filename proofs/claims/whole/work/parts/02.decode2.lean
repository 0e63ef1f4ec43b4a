theorem dX3_comes_0 : decode cX3_comes 0 = .ok (.aload_n 0, 1) := by decide +kernel
theorem dX3_comes_1 : decode cX3_comes 1 = .ok (.iload_n 1, 1) := by decide +kernel
theorem dX3_comes_2 : decode cX3_comes 2 = .ok (.invokevirtual 100, 3) := by decide +kernel
theorem dX3_comes_5 : decode cX3_comes 5 = .ok (.ifCond .eq 14, 3) := by decide +kernel
theorem dX3_comes_8 : decode cX3_comes 8 = .ok (.iload_n 2, 1) := by decide +kernel
theorem dX3_comes_9 : decode cX3_comes 9 = .ok (.iconst 0, 1) := by decide +kernel
theorem dX3_comes_10 : decode cX3_comes 10 = .ok (.sipush 200, 3) := by decide +kernel
theorem dX3_comes_13 : decode cX3_comes 13 = .ok (.invokestatic 44, 3) := by decide +kernel
theorem dX3_comes_16 : decode cX3_comes 16 = .ok (.ifCond .ne 9, 3) := by decide +kernel
theorem dX3_comes_19 : decode cX3_comes 19 = .ok (.aload_n 0, 1) := by decide +kernel
theorem dX3_comes_20 : decode cX3_comes 20 = .ok (.iconst 0, 1) := by decide +kernel
theorem dX3_comes_21 : decode cX3_comes 21 = .ok (.invokevirtual 48, 3) := by decide +kernel
theorem dX3_comes_24 : decode cX3_comes 24 = .ok (.ireturn, 1) := by decide +kernel
theorem dX3_comes_25 : decode cX3_comes 25 = .ok (.aload_n 0, 1) := by decide +kernel
theorem dX3_comes_26 : decode cX3_comes 26 = .ok (.iload_n 1, 1) := by decide +kernel
theorem dX3_comes_27 : decode cX3_comes 27 = .ok (.iload_n 2, 1) := by decide +kernel
theorem dX3_comes_28 : decode cX3_comes 28 = .ok (.sipush 200, 3) := by decide +kernel
theorem dX3_comes_31 : decode cX3_comes 31 = .ok (.invokevirtual 151, 3) := by decide +kernel
theorem dX3_comes_34 : decode cX3_comes 34 = .ok (.ireturn, 1) := by decide +kernel
theorem dX3_dust_0 : decode cX3_dust 0 = .ok (.aload_n 0, 1) := by decide +kernel
theorem dX3_dust_1 : decode cX3_dust 1 = .ok (.iload_n 1, 1) := by decide +kernel
theorem dX3_dust_2 : decode cX3_dust 2 = .ok (.invokevirtual 100, 3) := by decide +kernel
theorem dX3_dust_5 : decode cX3_dust 5 = .ok (.ifCond .ne 9, 3) := by decide +kernel
theorem dX3_dust_8 : decode cX3_dust 8 = .ok (.aload_n 0, 1) := by decide +kernel
theorem dX3_dust_9 : decode cX3_dust 9 = .ok (.iconst 0, 1) := by decide +kernel
theorem dX3_dust_10 : decode cX3_dust 10 = .ok (.invokevirtual 48, 3) := by decide +kernel
theorem dX3_dust_13 : decode cX3_dust 13 = .ok (.ireturn, 1) := by decide +kernel
theorem dX3_dust_14 : decode cX3_dust 14 = .ok (.aload_n 0, 1) := by decide +kernel
theorem dX3_dust_15 : decode cX3_dust 15 = .ok (.iload_n 1, 1) := by decide +kernel
theorem dX3_dust_16 : decode cX3_dust 16 = .ok (.iconst 0, 1) := by decide +kernel
theorem dX3_dust_17 : decode cX3_dust 17 = .ok (.iconst 0, 1) := by decide +kernel
theorem dX3_dust_18 : decode cX3_dust 18 = .ok (.invokevirtual 151, 3) := by decide +kernel
theorem dX3_dust_21 : decode cX3_dust 21 = .ok (.ireturn, 1) := by decide +kernel
theorem dX3_place_0 : decode cX3_place 0 = .ok (.aload_n 0, 1) := by decide +kernel
theorem dX3_place_1 : decode cX3_place 1 = .ok (.iload_n 1, 1) := by decide +kernel
theorem dX3_place_2 : decode cX3_place 2 = .ok (.invokevirtual 100, 3) := by decide +kernel
theorem dX3_place_5 : decode cX3_place 5 = .ok (.ifCond .eq 13, 3) := by decide +kernel
theorem dX3_place_8 : decode cX3_place 8 = .ok (.iload_n 2, 1) := by decide +kernel
theorem dX3_place_9 : decode cX3_place 9 = .ok (.iconst 1, 1) := by decide +kernel
theorem dX3_place_10 : decode cX3_place 10 = .ok (.bipush 100, 2) := by decide +kernel
theorem dX3_place_12 : decode cX3_place 12 = .ok (.invokestatic 44, 3) := by decide +kernel
theorem dX3_place_15 : decode cX3_place 15 = .ok (.ifCond .ne 9, 3) := by decide +kernel
theorem dX3_place_18 : decode cX3_place 18 = .ok (.aload_n 0, 1) := by decide +kernel
theorem dX3_place_19 : decode cX3_place 19 = .ok (.iconst 0, 1) := by decide +kernel
theorem dX3_place_20 : decode cX3_place 20 = .ok (.invokevirtual 48, 3) := by decide +kernel
theorem dX3_place_23 : decode cX3_place 23 = .ok (.ireturn, 1) := by decide +kernel
theorem dX3_place_24 : decode cX3_place 24 = .ok (.aload_n 0, 1) := by decide +kernel
theorem dX3_place_25 : decode cX3_place 25 = .ok (.invokevirtual 145, 3) := by decide +kernel
theorem dX3_place_28 : decode cX3_place 28 = .ok (.aload_n 0, 1) := by decide +kernel
theorem dX3_place_29 : decode cX3_place 29 = .ok (.iload_n 1, 1) := by decide +kernel
theorem dX3_place_30 : decode cX3_place 30 = .ok (.iload_n 2, 1) := by decide +kernel
theorem dX3_place_31 : decode cX3_place 31 = .ok (.invokevirtual 155, 3) := by decide +kernel
theorem dX3_place_34 : decode cX3_place 34 = .ok (.istore_n 3, 1) := by decide +kernel
theorem dX3_place_35 : decode cX3_place 35 = .ok (.iconst (-1), 1) := by decide +kernel
theorem dX3_place_36 : decode cX3_place 36 = .ok (.istore 4, 2) := by decide +kernel
theorem dX3_place_38 : decode cX3_place 38 = .ok (.iconst 0, 1) := by decide +kernel
theorem dX3_place_39 : decode cX3_place 39 = .ok (.istore 5, 2) := by decide +kernel
theorem dX3_place_41 : decode cX3_place 41 = .ok (.iload 5, 2) := by decide +kernel
theorem dX3_place_43 : decode cX3_place 43 = .ok (.aload_n 0, 1) := by decide +kernel
theorem dX3_place_44 : decode cX3_place 44 = .ok (.getfield 10, 3) := by decide +kernel
theorem dX3_place_47 : decode cX3_place 47 = .ok (.getfield 159, 3) := by decide +kernel
theorem dX3_place_50 : decode cX3_place 50 = .ok (.if_icmp .ge 51, 3) := by decide +kernel
theorem dX3_place_53 : decode cX3_place 53 = .ok (.iload 5, 2) := by decide +kernel
theorem dX3_place_55 : decode cX3_place 55 = .ok (.iload_n 1, 1) := by decide +kernel
theorem dX3_place_56 : decode cX3_place 56 = .ok (.if_icmp .eq 39, 3) := by decide +kernel
theorem dX3_place_59 : decode cX3_place 59 = .ok (.aload_n 0, 1) := by decide +kernel
theorem dX3_place_60 : decode cX3_place 60 = .ok (.invokevirtual 145, 3) := by decide +kernel
theorem dX3_place_63 : decode cX3_place 63 = .ok (.aload_n 0, 1) := by decide +kernel
theorem dX3_place_64 : decode cX3_place 64 = .ok (.getfield 16, 3) := by decide +kernel
theorem dX3_place_67 : decode cX3_place 67 = .ok (.iload_n 1, 1) := by decide +kernel
theorem dX3_place_68 : decode cX3_place 68 = .ok (.iload 5, 2) := by decide +kernel
theorem dX3_place_70 : decode cX3_place 70 = .ok (.invokevirtual 137, 3) := by decide +kernel
theorem dX3_place_73 : decode cX3_place 73 = .ok (.aload_n 0, 1) := by decide +kernel
theorem dX3_place_74 : decode cX3_place 74 = .ok (.iload 5, 2) := by decide +kernel
theorem dX3_place_76 : decode cX3_place 76 = .ok (.iload_n 2, 1) := by decide +kernel
theorem dX3_place_77 : decode cX3_place 77 = .ok (.invokevirtual 155, 3) := by decide +kernel
theorem dX3_place_80 : decode cX3_place 80 = .ok (.istore 6, 2) := by decide +kernel
theorem dX3_place_82 : decode cX3_place 82 = .ok (.iload 6, 2) := by decide +kernel
theorem dX3_place_84 : decode cX3_place 84 = .ok (.iload_n 3, 1) := by decide +kernel
theorem dX3_place_85 : decode cX3_place 85 = .ok (.if_icmp .le 10, 3) := by decide +kernel
theorem dX3_place_88 : decode cX3_place 88 = .ok (.iload 6, 2) := by decide +kernel
theorem dX3_place_90 : decode cX3_place 90 = .ok (.istore_n 3, 1) := by decide +kernel
theorem dX3_place_91 : decode cX3_place 91 = .ok (.iload 5, 2) := by decide +kernel
theorem dX3_place_93 : decode cX3_place 93 = .ok (.istore 4, 2) := by decide +kernel
theorem dX3_place_95 : decode cX3_place 95 = .ok (.iinc 5 1, 3) := by decide +kernel
theorem dX3_place_98 : decode cX3_place 98 = .ok (.goto (-57), 3) := by decide +kernel
theorem dX3_place_101 : decode cX3_place 101 = .ok (.iload 4, 2) := by decide +kernel
theorem dX3_place_103 : decode cX3_place 103 = .ok (.ifCond .ge 11, 3) := by decide +kernel
theorem dX3_place_106 : decode cX3_place 106 = .ok (.aload_n 0, 1) := by decide +kernel
theorem dX3_place_107 : decode cX3_place 107 = .ok (.iconst 3, 1) := by decide +kernel
theorem dX3_place_108 : decode cX3_place 108 = .ok (.invokevirtual 48, 3) := by decide +kernel
theorem dX3_place_111 : decode cX3_place 111 = .ok (.goto 5, 3) := by decide +kernel
theorem dX3_place_114 : decode cX3_place 114 = .ok (.iload 4, 2) := by decide +kernel
theorem dX3_place_116 : decode cX3_place 116 = .ok (.ireturn, 1) := by decide +kernel
theorem dX3_kind_0 : decode cX3_kind 0 = .ok (.aload_n 0, 1) := by decide +kernel
theorem dX3_kind_1 : decode cX3_kind 1 = .ok (.iload_n 1, 1) := by decide +kernel
theorem dX3_kind_2 : decode cX3_kind 2 = .ok (.invokevirtual 100, 3) := by decide +kernel
theorem dX3_kind_5 : decode cX3_kind 5 = .ok (.ifCond .eq 13, 3) := by decide +kernel
theorem dX3_kind_8 : decode cX3_kind 8 = .ok (.iload_n 2, 1) := by decide +kernel
theorem dX3_kind_9 : decode cX3_kind 9 = .ok (.iconst 1, 1) := by decide +kernel
theorem dX3_kind_10 : decode cX3_kind 10 = .ok (.bipush 100, 2) := by decide +kernel
theorem dX3_kind_12 : decode cX3_kind 12 = .ok (.invokestatic 44, 3) := by decide +kernel
theorem dX3_kind_15 : decode cX3_kind 15 = .ok (.ifCond .ne 9, 3) := by decide +kernel
theorem dX3_kind_18 : decode cX3_kind 18 = .ok (.aload_n 0, 1) := by decide +kernel
theorem dX3_kind_19 : decode cX3_kind 19 = .ok (.iconst 0, 1) := by decide +kernel
theorem dX3_kind_20 : decode cX3_kind 20 = .ok (.invokevirtual 48, 3) := by decide +kernel
theorem dX3_kind_23 : decode cX3_kind 23 = .ok (.ireturn, 1) := by decide +kernel
theorem dX3_kind_24 : decode cX3_kind 24 = .ok (.iconst (-1), 1) := by decide +kernel
theorem dX3_kind_25 : decode cX3_kind 25 = .ok (.istore_n 3, 1) := by decide +kernel
theorem dX3_kind_26 : decode cX3_kind 26 = .ok (.iconst 0, 1) := by decide +kernel
theorem dX3_kind_27 : decode cX3_kind 27 = .ok (.istore 4, 2) := by decide +kernel
theorem dX3_kind_29 : decode cX3_kind 29 = .ok (.iconst 0, 1) := by decide +kernel
theorem dX3_kind_30 : decode cX3_kind 30 = .ok (.istore 5, 2) := by decide +kernel
theorem dX3_kind_32 : decode cX3_kind 32 = .ok (.iload 5, 2) := by decide +kernel
theorem dX3_kind_34 : decode cX3_kind 34 = .ok (.bipush 6, 2) := by decide +kernel
theorem dX3_kind_36 : decode cX3_kind 36 = .ok (.if_icmp .ge 45, 3) := by decide +kernel
theorem dX3_kind_39 : decode cX3_kind 39 = .ok (.aload_n 0, 1) := by decide +kernel
theorem dX3_kind_40 : decode cX3_kind 40 = .ok (.invokevirtual 145, 3) := by decide +kernel
theorem dX3_kind_43 : decode cX3_kind 43 = .ok (.aload_n 0, 1) := by decide +kernel
theorem dX3_kind_44 : decode cX3_kind 44 = .ok (.getfield 16, 3) := by decide +kernel
theorem dX3_kind_47 : decode cX3_kind 47 = .ok (.getfield 103, 3) := by decide +kernel
theorem dX3_kind_50 : decode cX3_kind 50 = .ok (.iload_n 1, 1) := by decide +kernel
theorem dX3_kind_51 : decode cX3_kind 51 = .ok (.iload 5, 2) := by decide +kernel
theorem dX3_kind_53 : decode cX3_kind 53 = .ok (.iastore, 1) := by decide +kernel
theorem dX3_kind_54 : decode cX3_kind 54 = .ok (.aload_n 0, 1) := by decide +kernel
theorem dX3_kind_55 : decode cX3_kind 55 = .ok (.iload_n 1, 1) := by decide +kernel
theorem dX3_kind_56 : decode cX3_kind 56 = .ok (.iload_n 2, 1) := by decide +kernel
theorem dX3_kind_57 : decode cX3_kind 57 = .ok (.invokevirtual 155, 3) := by decide +kernel
theorem dX3_kind_60 : decode cX3_kind 60 = .ok (.istore 6, 2) := by decide +kernel
theorem dX3_kind_62 : decode cX3_kind 62 = .ok (.iload 6, 2) := by decide +kernel
theorem dX3_kind_64 : decode cX3_kind 64 = .ok (.iload_n 3, 1) := by decide +kernel
theorem dX3_kind_65 : decode cX3_kind 65 = .ok (.if_icmp .le 10, 3) := by decide +kernel
theorem dX3_kind_68 : decode cX3_kind 68 = .ok (.iload 6, 2) := by decide +kernel
theorem dX3_kind_70 : decode cX3_kind 70 = .ok (.istore_n 3, 1) := by decide +kernel
theorem dX3_kind_71 : decode cX3_kind 71 = .ok (.iload 5, 2) := by decide +kernel
theorem dX3_kind_73 : decode cX3_kind 73 = .ok (.istore 4, 2) := by decide +kernel
theorem dX3_kind_75 : decode cX3_kind 75 = .ok (.iinc 5 1, 3) := by decide +kernel
theorem dX3_kind_78 : decode cX3_kind 78 = .ok (.goto (-46), 3) := by decide +kernel
theorem dX3_kind_81 : decode cX3_kind 81 = .ok (.iload 4, 2) := by decide +kernel
theorem dX3_kind_83 : decode cX3_kind 83 = .ok (.ireturn, 1) := by decide +kernel
theorem dX3_marbles_0 : decode cX3_marbles 0 = .ok (.aload_n 0, 1) := by decide +kernel
theorem dX3_marbles_1 : decode cX3_marbles 1 = .ok (.iload_n 1, 1) := by decide +kernel
theorem dX3_marbles_2 : decode cX3_marbles 2 = .ok (.invokevirtual 100, 3) := by decide +kernel
theorem dX3_marbles_5 : decode cX3_marbles 5 = .ok (.ifCond .eq 24, 3) := by decide +kernel
theorem dX3_marbles_8 : decode cX3_marbles 8 = .ok (.iload_n 2, 1) := by decide +kernel
theorem dX3_marbles_9 : decode cX3_marbles 9 = .ok (.iconst 1, 1) := by decide +kernel
theorem dX3_marbles_10 : decode cX3_marbles 10 = .ok (.bipush 100, 2) := by decide +kernel
theorem dX3_marbles_12 : decode cX3_marbles 12 = .ok (.invokestatic 44, 3) := by decide +kernel
theorem dX3_marbles_15 : decode cX3_marbles 15 = .ok (.ifCond .eq 14, 3) := by decide +kernel
theorem dX3_marbles_18 : decode cX3_marbles 18 = .ok (.iload_n 3, 1) := by decide +kernel
theorem dX3_marbles_19 : decode cX3_marbles 19 = .ok (.iconst 0, 1) := by decide +kernel
theorem dX3_marbles_20 : decode cX3_marbles 20 = .ok (.sipush 200, 3) := by decide +kernel
theorem dX3_marbles_23 : decode cX3_marbles 23 = .ok (.invokestatic 44, 3) := by decide +kernel
theorem dX3_marbles_26 : decode cX3_marbles 26 = .ok (.ifCond .ne 9, 3) := by decide +kernel
theorem dX3_marbles_29 : decode cX3_marbles 29 = .ok (.aload_n 0, 1) := by decide +kernel
theorem dX3_marbles_30 : decode cX3_marbles 30 = .ok (.iconst 0, 1) := by decide +kernel
theorem dX3_marbles_31 : decode cX3_marbles 31 = .ok (.invokevirtual 48, 3) := by decide +kernel
theorem dX3_marbles_34 : decode cX3_marbles 34 = .ok (.ireturn, 1) := by decide +kernel
theorem dX3_marbles_35 : decode cX3_marbles 35 = .ok (.iconst 0, 1) := by decide +kernel
theorem dX3_marbles_36 : decode cX3_marbles 36 = .ok (.istore 4, 2) := by decide +kernel
theorem dX3_marbles_38 : decode cX3_marbles 38 = .ok (.iload 4, 2) := by decide +kernel
theorem dX3_marbles_40 : decode cX3_marbles 40 = .ok (.bipush 99, 2) := by decide +kernel
theorem dX3_marbles_42 : decode cX3_marbles 42 = .ok (.if_icmp .gt 37, 3) := by decide +kernel
theorem dX3_marbles_45 : decode cX3_marbles 45 = .ok (.aload_n 0, 1) := by decide +kernel
theorem dX3_marbles_46 : decode cX3_marbles 46 = .ok (.invokevirtual 145, 3) := by decide +kernel
theorem dX3_marbles_49 : decode cX3_marbles 49 = .ok (.aload_n 0, 1) := by decide +kernel
theorem dX3_marbles_50 : decode cX3_marbles 50 = .ok (.getfield 16, 3) := by decide +kernel
theorem dX3_marbles_53 : decode cX3_marbles 53 = .ok (.getfield 106, 3) := by decide +kernel
theorem dX3_marbles_56 : decode cX3_marbles 56 = .ok (.iload_n 1, 1) := by decide +kernel
theorem dX3_marbles_57 : decode cX3_marbles 57 = .ok (.iload 4, 2) := by decide +kernel
theorem dX3_marbles_59 : decode cX3_marbles 59 = .ok (.iastore, 1) := by decide +kernel
theorem dX3_marbles_60 : decode cX3_marbles 60 = .ok (.aload_n 0, 1) := by decide +kernel
theorem dX3_marbles_61 : decode cX3_marbles 61 = .ok (.iload_n 1, 1) := by decide +kernel
theorem dX3_marbles_62 : decode cX3_marbles 62 = .ok (.iload_n 2, 1) := by decide +kernel
theorem dX3_marbles_63 : decode cX3_marbles 63 = .ok (.invokevirtual 155, 3) := by decide +kernel
theorem dX3_marbles_66 : decode cX3_marbles 66 = .ok (.iload_n 3, 1) := by decide +kernel
theorem dX3_marbles_67 : decode cX3_marbles 67 = .ok (.if_icmp .lt 6, 3) := by decide +kernel
theorem dX3_marbles_70 : decode cX3_marbles 70 = .ok (.iload 4, 2) := by decide +kernel
theorem dX3_marbles_72 : decode cX3_marbles 72 = .ok (.ireturn, 1) := by decide +kernel
theorem dX3_marbles_73 : decode cX3_marbles 73 = .ok (.iinc 4 1, 3) := by decide +kernel
theorem dX3_marbles_76 : decode cX3_marbles 76 = .ok (.goto (-38), 3) := by decide +kernel
theorem dX3_marbles_79 : decode cX3_marbles 79 = .ok (.aload_n 0, 1) := by decide +kernel
theorem dX3_marbles_80 : decode cX3_marbles 80 = .ok (.iconst 3, 1) := by decide +kernel
theorem dX3_marbles_81 : decode cX3_marbles 81 = .ok (.invokevirtual 48, 3) := by decide +kernel
theorem dX3_marbles_84 : decode cX3_marbles 84 = .ok (.ireturn, 1) := by decide +kernel
theorem dX3_night_0 : decode cX3_night 0 = .ok (.iload_n 1, 1) := by decide +kernel
theorem dX3_night_1 : decode cX3_night 1 = .ok (.iconst 1, 1) := by decide +kernel
theorem dX3_night_2 : decode cX3_night 2 = .ok (.bipush 120, 2) := by decide +kernel
theorem dX3_night_4 : decode cX3_night 4 = .ok (.invokestatic 44, 3) := by decide +kernel
theorem dX3_night_7 : decode cX3_night 7 = .ok (.ifCond .ne 9, 3) := by decide +kernel
theorem dX3_night_10 : decode cX3_night 10 = .ok (.aload_n 0, 1) := by decide +kernel
theorem dX3_night_11 : decode cX3_night 11 = .ok (.iconst 0, 1) := by decide +kernel
theorem dX3_night_12 : decode cX3_night 12 = .ok (.invokevirtual 48, 3) := by decide +kernel
theorem dX3_night_15 : decode cX3_night 15 = .ok (.ireturn, 1) := by decide +kernel
theorem dX3_night_16 : decode cX3_night 16 = .ok (.sipush 201, 3) := by decide +kernel
theorem dX3_night_19 : decode cX3_night 19 = .ok (.istore_n 2, 1) := by decide +kernel
theorem dX3_night_20 : decode cX3_night 20 = .ok (.iconst 0, 1) := by decide +kernel
theorem dX3_night_21 : decode cX3_night 21 = .ok (.istore_n 3, 1) := by decide +kernel
theorem dX3_night_22 : decode cX3_night 22 = .ok (.iconst 0, 1) := by decide +kernel
theorem dX3_night_23 : decode cX3_night 23 = .ok (.istore 4, 2) := by decide +kernel
theorem dX3_night_25 : decode cX3_night 25 = .ok (.iload 4, 2) := by decide +kernel
theorem dX3_night_27 : decode cX3_night 27 = .ok (.bipush 59, 2) := by decide +kernel
theorem dX3_night_29 : decode cX3_night 29 = .ok (.if_icmp .gt 51, 3) := by decide +kernel
theorem dX3_night_32 : decode cX3_night 32 = .ok (.aload_n 0, 1) := by decide +kernel
theorem dX3_night_33 : decode cX3_night 33 = .ok (.invokevirtual 145, 3) := by decide +kernel
theorem dX3_night_36 : decode cX3_night 36 = .ok (.aload_n 0, 1) := by decide +kernel
theorem dX3_night_37 : decode cX3_night 37 = .ok (.getfield 16, 3) := by decide +kernel
theorem dX3_night_40 : decode cX3_night 40 = .ok (.iload 4, 2) := by decide +kernel
theorem dX3_night_42 : decode cX3_night 42 = .ok (.putfield 52, 3) := by decide +kernel
theorem dX3_night_45 : decode cX3_night 45 = .ok (.aload_n 0, 1) := by decide +kernel
theorem dX3_night_46 : decode cX3_night 46 = .ok (.getfield 16, 3) := by decide +kernel
theorem dX3_night_49 : decode cX3_night 49 = .ok (.iload_n 1, 1) := by decide +kernel
theorem dX3_night_50 : decode cX3_night 50 = .ok (.invokevirtual 141, 3) := by decide +kernel
theorem dX3_night_53 : decode cX3_night 53 = .ok (.aload_n 0, 1) := by decide +kernel
theorem dX3_night_54 : decode cX3_night 54 = .ok (.getfield 16, 3) := by decide +kernel
theorem dX3_night_57 : decode cX3_night 57 = .ok (.invokevirtual 162, 3) := by decide +kernel
theorem dX3_night_60 : decode cX3_night 60 = .ok (.istore 5, 2) := by decide +kernel
theorem dX3_night_62 : decode cX3_night 62 = .ok (.iload 5, 2) := by decide +kernel
theorem dX3_night_64 : decode cX3_night 64 = .ok (.iload_n 2, 1) := by decide +kernel
theorem dX3_night_65 : decode cX3_night 65 = .ok (.if_icmp .ge 9, 3) := by decide +kernel
theorem dX3_night_68 : decode cX3_night 68 = .ok (.iload 5, 2) := by decide +kernel
theorem dX3_night_70 : decode cX3_night 70 = .ok (.istore_n 2, 1) := by decide +kernel
theorem dX3_night_71 : decode cX3_night 71 = .ok (.iload 4, 2) := by decide +kernel
theorem dX3_night_73 : decode cX3_night 73 = .ok (.istore_n 3, 1) := by decide +kernel
theorem dX3_night_74 : decode cX3_night 74 = .ok (.iinc 4 1, 3) := by decide +kernel
theorem dX3_night_77 : decode cX3_night 77 = .ok (.goto (-52), 3) := by decide +kernel
theorem dX3_night_80 : decode cX3_night 80 = .ok (.iload_n 3, 1) := by decide +kernel
theorem dX3_night_81 : decode cX3_night 81 = .ok (.ireturn, 1) := by decide +kernel
theorem dX3_enough_0 : decode cX3_enough 0 = .ok (.aload_n 0, 1) := by decide +kernel
theorem dX3_enough_1 : decode cX3_enough 1 = .ok (.iload_n 1, 1) := by decide +kernel
theorem dX3_enough_2 : decode cX3_enough 2 = .ok (.invokevirtual 100, 3) := by decide +kernel
theorem dX3_enough_5 : decode cX3_enough 5 = .ok (.ifCond .eq 24, 3) := by decide +kernel
theorem dX3_enough_8 : decode cX3_enough 8 = .ok (.iload_n 2, 1) := by decide +kernel
theorem dX3_enough_9 : decode cX3_enough 9 = .ok (.iconst 0, 1) := by decide +kernel
theorem dX3_enough_10 : decode cX3_enough 10 = .ok (.bipush 100, 2) := by decide +kernel
theorem dX3_enough_12 : decode cX3_enough 12 = .ok (.invokestatic 44, 3) := by decide +kernel
theorem dX3_enough_15 : decode cX3_enough 15 = .ok (.ifCond .eq 14, 3) := by decide +kernel
theorem dX3_enough_18 : decode cX3_enough 18 = .ok (.iload_n 3, 1) := by decide +kernel
theorem dX3_enough_19 : decode cX3_enough 19 = .ok (.iconst 0, 1) := by decide +kernel
theorem dX3_enough_20 : decode cX3_enough 20 = .ok (.sipush 200, 3) := by decide +kernel
theorem dX3_enough_23 : decode cX3_enough 23 = .ok (.invokestatic 44, 3) := by decide +kernel
theorem dX3_enough_26 : decode cX3_enough 26 = .ok (.ifCond .ne 9, 3) := by decide +kernel
theorem dX3_enough_29 : decode cX3_enough 29 = .ok (.aload_n 0, 1) := by decide +kernel
theorem dX3_enough_30 : decode cX3_enough 30 = .ok (.iconst 0, 1) := by decide +kernel
theorem dX3_enough_31 : decode cX3_enough 31 = .ok (.invokevirtual 48, 3) := by decide +kernel
theorem dX3_enough_34 : decode cX3_enough 34 = .ok (.ireturn, 1) := by decide +kernel
theorem dX3_enough_35 : decode cX3_enough 35 = .ok (.iconst 0, 1) := by decide +kernel
theorem dX3_enough_36 : decode cX3_enough 36 = .ok (.istore 4, 2) := by decide +kernel
theorem dX3_enough_38 : decode cX3_enough 38 = .ok (.iload 4, 2) := by decide +kernel
theorem dX3_enough_40 : decode cX3_enough 40 = .ok (.bipush 99, 2) := by decide +kernel
theorem dX3_enough_42 : decode cX3_enough 42 = .ok (.if_icmp .gt 36, 3) := by decide +kernel
theorem dX3_enough_45 : decode cX3_enough 45 = .ok (.aload_n 0, 1) := by decide +kernel
theorem dX3_enough_46 : decode cX3_enough 46 = .ok (.invokevirtual 145, 3) := by decide +kernel
theorem dX3_enough_49 : decode cX3_enough 49 = .ok (.aload_n 0, 1) := by decide +kernel
theorem dX3_enough_50 : decode cX3_enough 50 = .ok (.getfield 16, 3) := by decide +kernel
theorem dX3_enough_53 : decode cX3_enough 53 = .ok (.iload_n 1, 1) := by decide +kernel
theorem dX3_enough_54 : decode cX3_enough 54 = .ok (.iload 4, 2) := by decide +kernel
theorem dX3_enough_56 : decode cX3_enough 56 = .ok (.invokevirtual 130, 3) := by decide +kernel
theorem dX3_enough_59 : decode cX3_enough 59 = .ok (.aload_n 0, 1) := by decide +kernel
theorem dX3_enough_60 : decode cX3_enough 60 = .ok (.iload_n 1, 1) := by decide +kernel
theorem dX3_enough_61 : decode cX3_enough 61 = .ok (.iload_n 2, 1) := by decide +kernel
theorem dX3_enough_62 : decode cX3_enough 62 = .ok (.invokevirtual 155, 3) := by decide +kernel
theorem dX3_enough_65 : decode cX3_enough 65 = .ok (.iload_n 3, 1) := by decide +kernel
theorem dX3_enough_66 : decode cX3_enough 66 = .ok (.if_icmp .lt 6, 3) := by decide +kernel
theorem dX3_enough_69 : decode cX3_enough 69 = .ok (.iload 4, 2) := by decide +kernel
theorem dX3_enough_71 : decode cX3_enough 71 = .ok (.ireturn, 1) := by decide +kernel
theorem dX3_enough_72 : decode cX3_enough 72 = .ok (.iinc 4 1, 3) := by decide +kernel
theorem dX3_enough_75 : decode cX3_enough 75 = .ok (.goto (-37), 3) := by decide +kernel
theorem dX3_enough_78 : decode cX3_enough 78 = .ok (.aload_n 0, 1) := by decide +kernel
theorem dX3_enough_79 : decode cX3_enough 79 = .ok (.iconst 3, 1) := by decide +kernel
theorem dX3_enough_80 : decode cX3_enough 80 = .ok (.invokevirtual 48, 3) := by decide +kernel
theorem dX3_enough_83 : decode cX3_enough 83 = .ok (.ireturn, 1) := by decide +kernel
theorem dX3_whom_0 : decode cX3_whom 0 = .ok (.iload_n 1, 1) := by decide +kernel
theorem dX3_whom_1 : decode cX3_whom 1 = .ok (.iconst 1, 1) := by decide +kernel
theorem dX3_whom_2 : decode cX3_whom 2 = .ok (.bipush 99, 2) := by decide +kernel
theorem dX3_whom_4 : decode cX3_whom 4 = .ok (.invokestatic 44, 3) := by decide +kernel
theorem dX3_whom_7 : decode cX3_whom 7 = .ok (.ifCond .eq 13, 3) := by decide +kernel
theorem dX3_whom_10 : decode cX3_whom 10 = .ok (.iload_n 2, 1) := by decide +kernel
theorem dX3_whom_11 : decode cX3_whom 11 = .ok (.iconst 0, 1) := by decide +kernel
theorem dX3_whom_12 : decode cX3_whom 12 = .ok (.bipush 100, 2) := by decide +kernel
theorem dX3_whom_14 : decode cX3_whom 14 = .ok (.invokestatic 44, 3) := by decide +kernel
theorem dX3_whom_17 : decode cX3_whom 17 = .ok (.ifCond .ne 9, 3) := by decide +kernel
theorem dX3_whom_20 : decode cX3_whom 20 = .ok (.aload_n 0, 1) := by decide +kernel
theorem dX3_whom_21 : decode cX3_whom 21 = .ok (.iconst 0, 1) := by decide +kernel
theorem dX3_whom_22 : decode cX3_whom 22 = .ok (.invokevirtual 48, 3) := by decide +kernel
theorem dX3_whom_25 : decode cX3_whom 25 = .ok (.ireturn, 1) := by decide +kernel
theorem dX3_whom_26 : decode cX3_whom 26 = .ok (.iconst (-1), 1) := by decide +kernel
theorem dX3_whom_27 : decode cX3_whom 27 = .ok (.istore_n 3, 1) := by decide +kernel
theorem dX3_whom_28 : decode cX3_whom 28 = .ok (.iconst (-1), 1) := by decide +kernel
theorem dX3_whom_29 : decode cX3_whom 29 = .ok (.istore 4, 2) := by decide +kernel
theorem dX3_whom_31 : decode cX3_whom 31 = .ok (.iconst 0, 1) := by decide +kernel
theorem dX3_whom_32 : decode cX3_whom 32 = .ok (.istore 5, 2) := by decide +kernel
theorem dX3_whom_34 : decode cX3_whom 34 = .ok (.iload 5, 2) := by decide +kernel
theorem dX3_whom_36 : decode cX3_whom 36 = .ok (.aload_n 0, 1) := by decide +kernel
theorem dX3_whom_37 : decode cX3_whom 37 = .ok (.getfield 10, 3) := by decide +kernel
theorem dX3_whom_40 : decode cX3_whom 40 = .ok (.getfield 159, 3) := by decide +kernel
theorem dX3_whom_43 : decode cX3_whom 43 = .ok (.if_icmp .ge 45, 3) := by decide +kernel
theorem dX3_whom_46 : decode cX3_whom 46 = .ok (.aload_n 0, 1) := by decide +kernel
theorem dX3_whom_47 : decode cX3_whom 47 = .ok (.invokevirtual 145, 3) := by decide +kernel
theorem dX3_whom_50 : decode cX3_whom 50 = .ok (.aload_n 0, 1) := by decide +kernel
theorem dX3_whom_51 : decode cX3_whom 51 = .ok (.getfield 16, 3) := by decide +kernel
theorem dX3_whom_54 : decode cX3_whom 54 = .ok (.iload 5, 2) := by decide +kernel
theorem dX3_whom_56 : decode cX3_whom 56 = .ok (.iload_n 1, 1) := by decide +kernel
theorem dX3_whom_57 : decode cX3_whom 57 = .ok (.invokevirtual 130, 3) := by decide +kernel
theorem dX3_whom_60 : decode cX3_whom 60 = .ok (.aload_n 0, 1) := by decide +kernel
theorem dX3_whom_61 : decode cX3_whom 61 = .ok (.iload 5, 2) := by decide +kernel
theorem dX3_whom_63 : decode cX3_whom 63 = .ok (.iload_n 2, 1) := by decide +kernel
theorem dX3_whom_64 : decode cX3_whom 64 = .ok (.invokevirtual 155, 3) := by decide +kernel
theorem dX3_whom_67 : decode cX3_whom 67 = .ok (.istore 6, 2) := by decide +kernel
theorem dX3_whom_69 : decode cX3_whom 69 = .ok (.iload 6, 2) := by decide +kernel
theorem dX3_whom_71 : decode cX3_whom 71 = .ok (.iload_n 3, 1) := by decide +kernel
theorem dX3_whom_72 : decode cX3_whom 72 = .ok (.if_icmp .le 10, 3) := by decide +kernel
theorem dX3_whom_75 : decode cX3_whom 75 = .ok (.iload 6, 2) := by decide +kernel
theorem dX3_whom_77 : decode cX3_whom 77 = .ok (.istore_n 3, 1) := by decide +kernel
theorem dX3_whom_78 : decode cX3_whom 78 = .ok (.iload 5, 2) := by decide +kernel
theorem dX3_whom_80 : decode cX3_whom 80 = .ok (.istore 4, 2) := by decide +kernel
theorem dX3_whom_82 : decode cX3_whom 82 = .ok (.iinc 5 1, 3) := by decide +kernel
theorem dX3_whom_85 : decode cX3_whom 85 = .ok (.goto (-51), 3) := by decide +kernel
theorem dX3_whom_88 : decode cX3_whom 88 = .ok (.iload 4, 2) := by decide +kernel
theorem dX3_whom_90 : decode cX3_whom 90 = .ok (.ifCond .ge 11, 3) := by decide +kernel
theorem dX3_whom_93 : decode cX3_whom 93 = .ok (.aload_n 0, 1) := by decide +kernel
theorem dX3_whom_94 : decode cX3_whom 94 = .ok (.iconst 3, 1) := by decide +kernel
theorem dX3_whom_95 : decode cX3_whom 95 = .ok (.invokevirtual 48, 3) := by decide +kernel
theorem dX3_whom_98 : decode cX3_whom 98 = .ok (.goto 5, 3) := by decide +kernel
theorem dX3_whom_101 : decode cX3_whom 101 = .ok (.iload 4, 2) := by decide +kernel
theorem dX3_whom_103 : decode cX3_whom 103 = .ok (.ireturn, 1) := by decide +kernel
theorem dX3_debtor_0 : decode cX3_debtor 0 = .ok (.iload_n 1, 1) := by decide +kernel
theorem dX3_debtor_1 : decode cX3_debtor 1 = .ok (.iconst 0, 1) := by decide +kernel
theorem dX3_debtor_2 : decode cX3_debtor 2 = .ok (.sipush 400, 3) := by decide +kernel
theorem dX3_debtor_5 : decode cX3_debtor 5 = .ok (.invokestatic 44, 3) := by decide +kernel
theorem dX3_debtor_8 : decode cX3_debtor 8 = .ok (.ifCond .ne 9, 3) := by decide +kernel
theorem dX3_debtor_11 : decode cX3_debtor 11 = .ok (.aload_n 0, 1) := by decide +kernel
theorem dX3_debtor_12 : decode cX3_debtor 12 = .ok (.iconst 0, 1) := by decide +kernel
theorem dX3_debtor_13 : decode cX3_debtor 13 = .ok (.invokevirtual 48, 3) := by decide +kernel
theorem dX3_debtor_16 : decode cX3_debtor 16 = .ok (.ireturn, 1) := by decide +kernel
theorem dX3_debtor_17 : decode cX3_debtor 17 = .ok (.aload_n 0, 1) := by decide +kernel
theorem dX3_debtor_18 : decode cX3_debtor 18 = .ok (.getfield 10, 3) := by decide +kernel
theorem dX3_debtor_21 : decode cX3_debtor 21 = .ok (.getfield 159, 3) := by decide +kernel
theorem dX3_debtor_24 : decode cX3_debtor 24 = .ok (.ifCond .ne 9, 3) := by decide +kernel
theorem dX3_debtor_27 : decode cX3_debtor 27 = .ok (.aload_n 0, 1) := by decide +kernel
theorem dX3_debtor_28 : decode cX3_debtor 28 = .ok (.iconst 3, 1) := by decide +kernel
theorem dX3_debtor_29 : decode cX3_debtor 29 = .ok (.invokevirtual 48, 3) := by decide +kernel
theorem dX3_debtor_32 : decode cX3_debtor 32 = .ok (.ireturn, 1) := by decide +kernel
theorem dX3_debtor_33 : decode cX3_debtor 33 = .ok (.aload_n 0, 1) := by decide +kernel
theorem dX3_debtor_34 : decode cX3_debtor 34 = .ok (.invokevirtual 145, 3) := by decide +kernel
theorem dX3_debtor_37 : decode cX3_debtor 37 = .ok (.aload_n 0, 1) := by decide +kernel
theorem dX3_debtor_38 : decode cX3_debtor 38 = .ok (.getfield 16, 3) := by decide +kernel
theorem dX3_debtor_41 : decode cX3_debtor 41 = .ok (.iload_n 1, 1) := by decide +kernel
theorem dX3_debtor_42 : decode cX3_debtor 42 = .ok (.invokevirtual 141, 3) := by decide +kernel
theorem dX3_debtor_45 : decode cX3_debtor 45 = .ok (.aload_n 0, 1) := by decide +kernel
theorem dX3_debtor_46 : decode cX3_debtor 46 = .ok (.getfield 16, 3) := by decide +kernel
theorem dX3_debtor_49 : decode cX3_debtor 49 = .ok (.aload_n 0, 1) := by decide +kernel
theorem dX3_debtor_50 : decode cX3_debtor 50 = .ok (.getfield 16, 3) := by decide +kernel
theorem dX3_debtor_53 : decode cX3_debtor 53 = .ok (.getfield 110, 3) := by decide +kernel
theorem dX3_debtor_56 : decode cX3_debtor 56 = .ok (.invokevirtual 165, 3) := by decide +kernel
theorem dX3_debtor_59 : decode cX3_debtor 59 = .ok (.ireturn, 1) := by decide +kernel
theorem dX3_feed_0 : decode cX3_feed 0 = .ok (.iload_n 2, 1) := by decide +kernel
theorem dX3_feed_1 : decode cX3_feed 1 = .ok (.iconst 1, 1) := by decide +kernel
theorem dX3_feed_2 : decode cX3_feed 2 = .ok (.iconst 4, 1) := by decide +kernel
theorem dX3_feed_3 : decode cX3_feed 3 = .ok (.invokestatic 44, 3) := by decide +kernel
theorem dX3_feed_6 : decode cX3_feed 6 = .ok (.ifCond .ne 9, 3) := by decide +kernel
theorem dX3_feed_9 : decode cX3_feed 9 = .ok (.aload_n 0, 1) := by decide +kernel
theorem dX3_feed_10 : decode cX3_feed 10 = .ok (.iconst 0, 1) := by decide +kernel
theorem dX3_feed_11 : decode cX3_feed 11 = .ok (.invokevirtual 48, 3) := by decide +kernel
theorem dX3_feed_14 : decode cX3_feed 14 = .ok (.ireturn, 1) := by decide +kernel
theorem dX3_feed_15 : decode cX3_feed 15 = .ok (.aload_n 0, 1) := by decide +kernel
theorem dX3_feed_16 : decode cX3_feed 16 = .ok (.getfield 29, 3) := by decide +kernel
theorem dX3_feed_19 : decode cX3_feed 19 = .ok (.iload_n 2, 1) := by decide +kernel
theorem dX3_feed_20 : decode cX3_feed 20 = .ok (.invokevirtual 168, 3) := by decide +kernel
theorem dX3_feed_23 : decode cX3_feed 23 = .ok (.ifCond .ne 9, 3) := by decide +kernel
theorem dX3_feed_26 : decode cX3_feed 26 = .ok (.aload_n 0, 1) := by decide +kernel
theorem dX3_feed_27 : decode cX3_feed 27 = .ok (.iconst 1, 1) := by decide +kernel
theorem dX3_feed_28 : decode cX3_feed 28 = .ok (.invokevirtual 48, 3) := by decide +kernel
theorem dX3_feed_31 : decode cX3_feed 31 = .ok (.ireturn, 1) := by decide +kernel
theorem dX3_feed_32 : decode cX3_feed 32 = .ok (.iload_n 2, 1) := by decide +kernel
theorem dX3_feed_33 : decode cX3_feed 33 = .ok (.iconst 1, 1) := by decide +kernel
theorem dX3_feed_34 : decode cX3_feed 34 = .ok (.isub, 1) := by decide +kernel
theorem dX3_feed_35 : decode cX3_feed 35 = .ok (.istore_n 3, 1) := by decide +kernel
theorem dX3_feed_36 : decode cX3_feed 36 = .ok (.iload_n 3, 1) := by decide +kernel
theorem dX3_feed_37 : decode cX3_feed 37 = .ok (.ifCond .lt 23, 3) := by decide +kernel
theorem dX3_feed_40 : decode cX3_feed 40 = .ok (.aload_n 0, 1) := by decide +kernel
theorem dX3_feed_41 : decode cX3_feed 41 = .ok (.getfield 29, 3) := by decide +kernel
theorem dX3_feed_44 : decode cX3_feed 44 = .ok (.iload_n 1, 1) := by decide +kernel
theorem dX3_feed_45 : decode cX3_feed 45 = .ok (.bipush 8, 2) := by decide +kernel
theorem dX3_feed_47 : decode cX3_feed 47 = .ok (.iload_n 3, 1) := by decide +kernel
theorem dX3_feed_48 : decode cX3_feed 48 = .ok (.imul, 1) := by decide +kernel
theorem dX3_feed_49 : decode cX3_feed 49 = .ok (.ishr, 1) := by decide +kernel
theorem dX3_feed_50 : decode cX3_feed 50 = .ok (.i2b, 1) := by decide +kernel
theorem dX3_feed_51 : decode cX3_feed 51 = .ok (.invokevirtual 171, 3) := by decide +kernel
theorem dX3_feed_54 : decode cX3_feed 54 = .ok (.iinc 3 (-1), 3) := by decide +kernel
theorem dX3_feed_57 : decode cX3_feed 57 = .ok (.goto (-21), 3) := by decide +kernel
theorem dX3_feed_60 : decode cX3_feed 60 = .ok (.aload_n 0, 1) := by decide +kernel
theorem dX3_feed_61 : decode cX3_feed 61 = .ok (.getfield 29, 3) := by decide +kernel
theorem dX3_feed_64 : decode cX3_feed 64 = .ok (.getfield 175, 3) := by decide +kernel
theorem dX3_feed_67 : decode cX3_feed 67 = .ok (.ireturn, 1) := by decide +kernel
theorem dX3_wipe_0 : decode cX3_wipe 0 = .ok (.aload_n 0, 1) := by decide +kernel
theorem dX3_wipe_1 : decode cX3_wipe 1 = .ok (.getfield 29, 3) := by decide +kernel
theorem dX3_wipe_4 : decode cX3_wipe 4 = .ok (.getfield 175, 3) := by decide +kernel
theorem dX3_wipe_7 : decode cX3_wipe 7 = .ok (.istore_n 1, 1) := by decide +kernel
theorem dX3_wipe_8 : decode cX3_wipe 8 = .ok (.aload_n 0, 1) := by decide +kernel
theorem dX3_wipe_9 : decode cX3_wipe 9 = .ok (.getfield 29, 3) := by decide +kernel
theorem dX3_wipe_12 : decode cX3_wipe 12 = .ok (.iconst 0, 1) := by decide +kernel
theorem dX3_wipe_13 : decode cX3_wipe 13 = .ok (.putfield 175, 3) := by decide +kernel
theorem dX3_wipe_16 : decode cX3_wipe 16 = .ok (.iload_n 1, 1) := by decide +kernel
theorem dX3_wipe_17 : decode cX3_wipe 17 = .ok (.ireturn, 1) := by decide +kernel
theorem dX3_ground_0 : decode cX3_ground 0 = .ok (.aload_n 0, 1) := by decide +kernel
theorem dX3_ground_1 : decode cX3_ground 1 = .ok (.invokevirtual 145, 3) := by decide +kernel
theorem dX3_ground_4 : decode cX3_ground 4 = .ok (.aload_n 0, 1) := by decide +kernel
theorem dX3_ground_5 : decode cX3_ground 5 = .ok (.getfield 29, 3) := by decide +kernel
theorem dX3_ground_8 : decode cX3_ground 8 = .ok (.aload_n 0, 1) := by decide +kernel
theorem dX3_ground_9 : decode cX3_ground 9 = .ok (.getfield 16, 3) := by decide +kernel
theorem dX3_ground_12 : decode cX3_ground 12 = .ok (.invokevirtual 178, 3) := by decide +kernel
theorem dX3_ground_15 : decode cX3_ground 15 = .ok (.istore_n 1, 1) := by decide +kernel
theorem dX3_ground_16 : decode cX3_ground 16 = .ok (.aload_n 0, 1) := by decide +kernel
theorem dX3_ground_17 : decode cX3_ground 17 = .ok (.getfield 29, 3) := by decide +kernel
theorem dX3_ground_20 : decode cX3_ground 20 = .ok (.iconst 0, 1) := by decide +kernel
theorem dX3_ground_21 : decode cX3_ground 21 = .ok (.putfield 175, 3) := by decide +kernel
theorem dX3_ground_24 : decode cX3_ground 24 = .ok (.iload_n 1, 1) := by decide +kernel
theorem dX3_ground_25 : decode cX3_ground 25 = .ok (.ifCond .lt 14, 3) := by decide +kernel
theorem dX3_ground_28 : decode cX3_ground 28 = .ok (.aload_n 0, 1) := by decide +kernel
theorem dX3_ground_29 : decode cX3_ground 29 = .ok (.getfield 10, 3) := by decide +kernel
theorem dX3_ground_32 : decode cX3_ground 32 = .ok (.aload_n 0, 1) := by decide +kernel
theorem dX3_ground_33 : decode cX3_ground 33 = .ok (.getfield 16, 3) := by decide +kernel
theorem dX3_ground_36 : decode cX3_ground 36 = .ok (.invokevirtual 182, 3) := by decide +kernel
theorem dX3_ground_39 : decode cX3_ground 39 = .ok (.iload_n 1, 1) := by decide +kernel
theorem dX3_ground_40 : decode cX3_ground 40 = .ok (.ireturn, 1) := by decide +kernel
theorem dX3_sheet_0 : decode cX3_sheet 0 = .ok (.iload_n 1, 1) := by decide +kernel
theorem dX3_sheet_1 : decode cX3_sheet 1 = .ok (.invokestatic 186, 3) := by decide +kernel
theorem dX3_sheet_4 : decode cX3_sheet 4 = .ok (.ifCond .eq 10, 3) := by decide +kernel
theorem dX3_sheet_7 : decode cX3_sheet 7 = .ok (.iload_n 2, 1) := by decide +kernel
theorem dX3_sheet_8 : decode cX3_sheet 8 = .ok (.invokestatic 189, 3) := by decide +kernel
theorem dX3_sheet_11 : decode cX3_sheet 11 = .ok (.ifCond .ne 9, 3) := by decide +kernel
theorem dX3_sheet_14 : decode cX3_sheet 14 = .ok (.aload_n 0, 1) := by decide +kernel
theorem dX3_sheet_15 : decode cX3_sheet 15 = .ok (.iconst 0, 1) := by decide +kernel
theorem dX3_sheet_16 : decode cX3_sheet 16 = .ok (.invokevirtual 48, 3) := by decide +kernel
theorem dX3_sheet_19 : decode cX3_sheet 19 = .ok (.ireturn, 1) := by decide +kernel
theorem dX3_sheet_20 : decode cX3_sheet 20 = .ok (.iload_n 3, 1) := by decide +kernel
theorem dX3_sheet_21 : decode cX3_sheet 21 = .ok (.ifCond .ge 10, 3) := by decide +kernel
theorem dX3_sheet_24 : decode cX3_sheet 24 = .ok (.aload_n 0, 1) := by decide +kernel
theorem dX3_sheet_25 : decode cX3_sheet 25 = .ok (.bipush 6, 2) := by decide +kernel
theorem dX3_sheet_27 : decode cX3_sheet 27 = .ok (.invokevirtual 48, 3) := by decide +kernel
theorem dX3_sheet_30 : decode cX3_sheet 30 = .ok (.ireturn, 1) := by decide +kernel
theorem dX3_sheet_31 : decode cX3_sheet 31 = .ok (.iload_n 3, 1) := by decide +kernel
theorem dX3_sheet_32 : decode cX3_sheet 32 = .ok (.bipush 40, 2) := by decide +kernel
theorem dX3_sheet_34 : decode cX3_sheet 34 = .ok (.if_icmp .le 9, 3) := by decide +kernel
theorem dX3_sheet_37 : decode cX3_sheet 37 = .ok (.aload_n 0, 1) := by decide +kernel
theorem dX3_sheet_38 : decode cX3_sheet 38 = .ok (.iconst 0, 1) := by decide +kernel
theorem dX3_sheet_39 : decode cX3_sheet 39 = .ok (.invokevirtual 48, 3) := by decide +kernel
theorem dX3_sheet_42 : decode cX3_sheet 42 = .ok (.ireturn, 1) := by decide +kernel
theorem dX3_sheet_43 : decode cX3_sheet 43 = .ok (.aload_n 0, 1) := by decide +kernel
theorem dX3_sheet_44 : decode cX3_sheet 44 = .ok (.getfield 35, 3) := by decide +kernel
theorem dX3_sheet_47 : decode cX3_sheet 47 = .ok (.iload_n 1, 1) := by decide +kernel
theorem dX3_sheet_48 : decode cX3_sheet 48 = .ok (.aaload, 1) := by decide +kernel
theorem dX3_sheet_49 : decode cX3_sheet 49 = .ok (.iload_n 2, 1) := by decide +kernel
theorem dX3_sheet_50 : decode cX3_sheet 50 = .ok (.iload_n 3, 1) := by decide +kernel
theorem dX3_sheet_51 : decode cX3_sheet 51 = .ok (.invokevirtual 192, 3) := by decide +kernel
theorem dX3_sheet_54 : decode cX3_sheet 54 = .ok (.aload_n 0, 1) := by decide +kernel
theorem dX3_sheet_55 : decode cX3_sheet 55 = .ok (.getfield 35, 3) := by decide +kernel
theorem dX3_sheet_58 : decode cX3_sheet 58 = .ok (.iload_n 1, 1) := by decide +kernel
theorem dX3_sheet_59 : decode cX3_sheet 59 = .ok (.aaload, 1) := by decide +kernel
theorem dX3_sheet_60 : decode cX3_sheet 60 = .ok (.getfield 195, 3) := by decide +kernel
theorem dX3_sheet_63 : decode cX3_sheet 63 = .ok (.ireturn, 1) := by decide +kernel
theorem dX3_write_0 : decode cX3_write 0 = .ok (.iload_n 1, 1) := by decide +kernel
theorem dX3_write_1 : decode cX3_write 1 = .ok (.invokestatic 186, 3) := by decide +kernel
theorem dX3_write_4 : decode cX3_write 4 = .ok (.ifCond .ne 10, 3) := by decide +kernel
theorem dX3_write_7 : decode cX3_write 7 = .ok (.aload_n 0, 1) := by decide +kernel
theorem dX3_write_8 : decode cX3_write 8 = .ok (.iconst 0, 1) := by decide +kernel
theorem dX3_write_9 : decode cX3_write 9 = .ok (.invokevirtual 48, 3) := by decide +kernel
theorem dX3_write_12 : decode cX3_write 12 = .ok (.i2l, 1) := by decide +kernel
theorem dX3_write_13 : decode cX3_write 13 = .ok (.lreturn, 1) := by decide +kernel
theorem dX3_write_14 : decode cX3_write 14 = .ok (.aload_n 0, 1) := by decide +kernel
theorem dX3_write_15 : decode cX3_write 15 = .ok (.getfield 35, 3) := by decide +kernel
theorem dX3_write_18 : decode cX3_write 18 = .ok (.iload_n 1, 1) := by decide +kernel
theorem dX3_write_19 : decode cX3_write 19 = .ok (.aaload, 1) := by decide +kernel
theorem dX3_write_20 : decode cX3_write 20 = .ok (.astore 5, 2) := by decide +kernel
theorem dX3_write_22 : decode cX3_write 22 = .ok (.aload 5, 2) := by decide +kernel
theorem dX3_write_24 : decode cX3_write 24 = .ok (.invokevirtual 196, 3) := by decide +kernel
theorem dX3_write_27 : decode cX3_write 27 = .ok (.ifCond .eq 10, 3) := by decide +kernel
theorem dX3_write_30 : decode cX3_write 30 = .ok (.aload_n 0, 1) := by decide +kernel
theorem dX3_write_31 : decode cX3_write 31 = .ok (.iconst 5, 1) := by decide +kernel
theorem dX3_write_32 : decode cX3_write 32 = .ok (.invokevirtual 48, 3) := by decide +kernel
theorem dX3_write_35 : decode cX3_write 35 = .ok (.i2l, 1) := by decide +kernel
theorem dX3_write_36 : decode cX3_write 36 = .ok (.lreturn, 1) := by decide +kernel
theorem dX3_write_37 : decode cX3_write 37 = .ok (.aload 5, 2) := by decide +kernel
theorem dX3_write_39 : decode cX3_write 39 = .ok (.iload_n 2, 1) := by decide +kernel
theorem dX3_write_40 : decode cX3_write 40 = .ok (.iconst 1, 1) := by decide +kernel
theorem dX3_write_41 : decode cX3_write 41 = .ok (.invokevirtual 199, 3) := by decide +kernel
theorem dX3_write_44 : decode cX3_write 44 = .ok (.ifCond .ne 10, 3) := by decide +kernel
theorem dX3_write_47 : decode cX3_write 47 = .ok (.aload_n 0, 1) := by decide +kernel
theorem dX3_write_48 : decode cX3_write 48 = .ok (.iconst 0, 1) := by decide +kernel
theorem dX3_write_49 : decode cX3_write 49 = .ok (.invokevirtual 48, 3) := by decide +kernel
theorem dX3_write_52 : decode cX3_write 52 = .ok (.i2l, 1) := by decide +kernel
theorem dX3_write_53 : decode cX3_write 53 = .ok (.lreturn, 1) := by decide +kernel
theorem dX3_write_54 : decode cX3_write 54 = .ok (.aload 5, 2) := by decide +kernel
theorem dX3_write_56 : decode cX3_write 56 = .ok (.getfield 202, 3) := by decide +kernel
theorem dX3_write_59 : decode cX3_write 59 = .ok (.iload_n 2, 1) := by decide +kernel
theorem dX3_write_60 : decode cX3_write 60 = .ok (.laload, 1) := by decide +kernel
theorem dX3_write_61 : decode cX3_write 61 = .ok (.lstore 6, 2) := by decide +kernel
theorem dX3_write_63 : decode cX3_write 63 = .ok (.aload 5, 2) := by decide +kernel
theorem dX3_write_65 : decode cX3_write 65 = .ok (.iload_n 2, 1) := by decide +kernel
theorem dX3_write_66 : decode cX3_write 66 = .ok (.lload_n 3, 1) := by decide +kernel
theorem dX3_write_67 : decode cX3_write 67 = .ok (.invokevirtual 206, 3) := by decide +kernel
theorem dX3_write_70 : decode cX3_write 70 = .ok (.lload 6, 2) := by decide +kernel
theorem dX3_write_72 : decode cX3_write 72 = .ok (.lreturn, 1) := by decide +kernel
theorem dX3_copy_0 : decode cX3_copy 0 = .ok (.iload_n 1, 1) := by decide +kernel
theorem dX3_copy_1 : decode cX3_copy 1 = .ok (.invokestatic 186, 3) := by decide +kernel
theorem dX3_copy_4 : decode cX3_copy 4 = .ok (.ifCond .eq 10, 3) := by decide +kernel
theorem dX3_copy_7 : decode cX3_copy 7 = .ok (.iload_n 3, 1) := by decide +kernel
theorem dX3_copy_8 : decode cX3_copy 8 = .ok (.invokestatic 186, 3) := by decide +kernel
theorem dX3_copy_11 : decode cX3_copy 11 = .ok (.ifCond .ne 9, 3) := by decide +kernel
theorem dX3_copy_14 : decode cX3_copy 14 = .ok (.aload_n 0, 1) := by decide +kernel
theorem dX3_copy_15 : decode cX3_copy 15 = .ok (.iconst 0, 1) := by decide +kernel
theorem dX3_copy_16 : decode cX3_copy 16 = .ok (.invokevirtual 48, 3) := by decide +kernel
theorem dX3_copy_19 : decode cX3_copy 19 = .ok (.ireturn, 1) := by decide +kernel
theorem dX3_copy_20 : decode cX3_copy 20 = .ok (.aload_n 0, 1) := by decide +kernel
theorem dX3_copy_21 : decode cX3_copy 21 = .ok (.getfield 35, 3) := by decide +kernel
theorem dX3_copy_24 : decode cX3_copy 24 = .ok (.iload_n 1, 1) := by decide +kernel
theorem dX3_copy_25 : decode cX3_copy 25 = .ok (.aaload, 1) := by decide +kernel
theorem dX3_copy_26 : decode cX3_copy 26 = .ok (.astore 6, 2) := by decide +kernel
theorem dX3_copy_28 : decode cX3_copy 28 = .ok (.aload_n 0, 1) := by decide +kernel
theorem dX3_copy_29 : decode cX3_copy 29 = .ok (.getfield 35, 3) := by decide +kernel
theorem dX3_copy_32 : decode cX3_copy 32 = .ok (.iload_n 3, 1) := by decide +kernel
theorem dX3_copy_33 : decode cX3_copy 33 = .ok (.aaload, 1) := by decide +kernel
theorem dX3_copy_34 : decode cX3_copy 34 = .ok (.astore 7, 2) := by decide +kernel
theorem dX3_copy_36 : decode cX3_copy 36 = .ok (.aload 6, 2) := by decide +kernel
theorem dX3_copy_38 : decode cX3_copy 38 = .ok (.invokevirtual 196, 3) := by decide +kernel
theorem dX3_copy_41 : decode cX3_copy 41 = .ok (.ifCond .ne 11, 3) := by decide +kernel
theorem dX3_copy_44 : decode cX3_copy 44 = .ok (.aload 7, 2) := by decide +kernel
theorem dX3_copy_46 : decode cX3_copy 46 = .ok (.invokevirtual 196, 3) := by decide +kernel
theorem dX3_copy_49 : decode cX3_copy 49 = .ok (.ifCond .eq 9, 3) := by decide +kernel
theorem dX3_copy_52 : decode cX3_copy 52 = .ok (.aload_n 0, 1) := by decide +kernel
theorem dX3_copy_53 : decode cX3_copy 53 = .ok (.iconst 5, 1) := by decide +kernel
theorem dX3_copy_54 : decode cX3_copy 54 = .ok (.invokevirtual 48, 3) := by decide +kernel
theorem dX3_copy_57 : decode cX3_copy 57 = .ok (.ireturn, 1) := by decide +kernel
theorem dX3_copy_58 : decode cX3_copy 58 = .ok (.aload 6, 2) := by decide +kernel
theorem dX3_copy_60 : decode cX3_copy 60 = .ok (.getfield 210, 3) := by decide +kernel
theorem dX3_copy_63 : decode cX3_copy 63 = .ok (.aload 7, 2) := by decide +kernel
theorem dX3_copy_65 : decode cX3_copy 65 = .ok (.getfield 210, 3) := by decide +kernel
theorem dX3_copy_68 : decode cX3_copy 68 = .ok (.if_icmp .eq 9, 3) := by decide +kernel
theorem dX3_copy_71 : decode cX3_copy 71 = .ok (.aload_n 0, 1) := by decide +kernel
theorem dX3_copy_72 : decode cX3_copy 72 = .ok (.iconst 2, 1) := by decide +kernel
theorem dX3_copy_73 : decode cX3_copy 73 = .ok (.invokevirtual 48, 3) := by decide +kernel
theorem dX3_copy_76 : decode cX3_copy 76 = .ok (.ireturn, 1) := by decide +kernel
theorem dX3_copy_77 : decode cX3_copy 77 = .ok (.aload 6, 2) := by decide +kernel
theorem dX3_copy_79 : decode cX3_copy 79 = .ok (.iload_n 2, 1) := by decide +kernel
theorem dX3_copy_80 : decode cX3_copy 80 = .ok (.iload 5, 2) := by decide +kernel
theorem dX3_copy_82 : decode cX3_copy 82 = .ok (.invokevirtual 199, 3) := by decide +kernel
theorem dX3_copy_85 : decode cX3_copy 85 = .ok (.ifCond .eq 15, 3) := by decide +kernel
theorem dX3_copy_88 : decode cX3_copy 88 = .ok (.aload 7, 2) := by decide +kernel
theorem dX3_copy_90 : decode cX3_copy 90 = .ok (.iload 4, 2) := by decide +kernel
theorem dX3_copy_92 : decode cX3_copy 92 = .ok (.iload 5, 2) := by decide +kernel
theorem dX3_copy_94 : decode cX3_copy 94 = .ok (.invokevirtual 199, 3) := by decide +kernel
theorem dX3_copy_97 : decode cX3_copy 97 = .ok (.ifCond .ne 9, 3) := by decide +kernel
theorem dX3_copy_100 : decode cX3_copy 100 = .ok (.aload_n 0, 1) := by decide +kernel
theorem dX3_copy_101 : decode cX3_copy 101 = .ok (.iconst 0, 1) := by decide +kernel
theorem dX3_copy_102 : decode cX3_copy 102 = .ok (.invokevirtual 48, 3) := by decide +kernel
theorem dX3_copy_105 : decode cX3_copy 105 = .ok (.ireturn, 1) := by decide +kernel
theorem dX3_copy_106 : decode cX3_copy 106 = .ok (.aload 6, 2) := by decide +kernel
theorem dX3_copy_108 : decode cX3_copy 108 = .ok (.getfield 202, 3) := by decide +kernel
theorem dX3_copy_111 : decode cX3_copy 111 = .ok (.iload_n 2, 1) := by decide +kernel
theorem dX3_copy_112 : decode cX3_copy 112 = .ok (.aload 7, 2) := by decide +kernel
theorem dX3_copy_114 : decode cX3_copy 114 = .ok (.getfield 202, 3) := by decide +kernel
theorem dX3_copy_117 : decode cX3_copy 117 = .ok (.iload 4, 2) := by decide +kernel
theorem dX3_copy_119 : decode cX3_copy 119 = .ok (.iload 5, 2) := by decide +kernel
theorem dX3_copy_121 : decode cX3_copy 121 = .ok (.invokestatic 213, 3) := by decide +kernel
theorem dX3_copy_124 : decode cX3_copy 124 = .ok (.iload 5, 2) := by decide +kernel
theorem dX3_copy_126 : decode cX3_copy 126 = .ok (.ireturn, 1) := by decide +kernel
theorem dX3_lays_0 : decode cX3_lays 0 = .ok (.iload_n 1, 1) := by decide +kernel
theorem dX3_lays_1 : decode cX3_lays 1 = .ok (.invokestatic 186, 3) := by decide +kernel
theorem dX3_lays_4 : decode cX3_lays 4 = .ok (.ifCond .ne 9, 3) := by decide +kernel
theorem dX3_lays_7 : decode cX3_lays 7 = .ok (.aload_n 0, 1) := by decide +kernel
theorem dX3_lays_8 : decode cX3_lays 8 = .ok (.iconst 0, 1) := by decide +kernel
theorem dX3_lays_9 : decode cX3_lays 9 = .ok (.invokevirtual 48, 3) := by decide +kernel
theorem dX3_lays_12 : decode cX3_lays 12 = .ok (.ireturn, 1) := by decide +kernel
theorem dX3_lays_13 : decode cX3_lays 13 = .ok (.aload_n 0, 1) := by decide +kernel
theorem dX3_lays_14 : decode cX3_lays 14 = .ok (.getfield 35, 3) := by decide +kernel
theorem dX3_lays_17 : decode cX3_lays 17 = .ok (.iload_n 1, 1) := by decide +kernel
theorem dX3_lays_18 : decode cX3_lays 18 = .ok (.aaload, 1) := by decide +kernel
theorem dX3_lays_19 : decode cX3_lays 19 = .ok (.astore_n 2, 1) := by decide +kernel
theorem dX3_lays_20 : decode cX3_lays 20 = .ok (.aload_n 2, 1) := by decide +kernel
theorem dX3_lays_21 : decode cX3_lays 21 = .ok (.invokevirtual 196, 3) := by decide +kernel
theorem dX3_lays_24 : decode cX3_lays 24 = .ok (.ifCond .eq 9, 3) := by decide +kernel
theorem dX3_lays_27 : decode cX3_lays 27 = .ok (.aload_n 0, 1) := by decide +kernel
theorem dX3_lays_28 : decode cX3_lays 28 = .ok (.iconst 5, 1) := by decide +kernel
theorem dX3_lays_29 : decode cX3_lays 29 = .ok (.invokevirtual 48, 3) := by decide +kernel
theorem dX3_lays_32 : decode cX3_lays 32 = .ok (.ireturn, 1) := by decide +kernel
theorem dX3_lays_33 : decode cX3_lays 33 = .ok (.iconst 0, 1) := by decide +kernel
theorem dX3_lays_34 : decode cX3_lays 34 = .ok (.istore_n 3, 1) := by decide +kernel
theorem dX3_lays_35 : decode cX3_lays 35 = .ok (.aload_n 2, 1) := by decide +kernel
theorem dX3_lays_36 : decode cX3_lays 36 = .ok (.getfield 195, 3) := by decide +kernel
theorem dX3_lays_39 : decode cX3_lays 39 = .ok (.aload_n 0, 1) := by decide +kernel
theorem dX3_lays_40 : decode cX3_lays 40 = .ok (.getfield 10, 3) := by decide +kernel
theorem dX3_lays_43 : decode cX3_lays 43 = .ok (.getfield 159, 3) := by decide +kernel
theorem dX3_lays_46 : decode cX3_lays 46 = .ok (.invokestatic 219, 3) := by decide +kernel
theorem dX3_lays_49 : decode cX3_lays 49 = .ok (.istore 4, 2) := by decide +kernel
theorem dX3_lays_51 : decode cX3_lays 51 = .ok (.iconst 0, 1) := by decide +kernel
theorem dX3_lays_52 : decode cX3_lays 52 = .ok (.istore 5, 2) := by decide +kernel
theorem dX3_lays_54 : decode cX3_lays 54 = .ok (.iload 5, 2) := by decide +kernel
theorem dX3_lays_56 : decode cX3_lays 56 = .ok (.iload 4, 2) := by decide +kernel
theorem dX3_lays_58 : decode cX3_lays 58 = .ok (.if_icmp .ge 50, 3) := by decide +kernel
theorem dX3_lays_61 : decode cX3_lays 61 = .ok (.aload_n 2, 1) := by decide +kernel
theorem dX3_lays_62 : decode cX3_lays 62 = .ok (.getfield 202, 3) := by decide +kernel
theorem dX3_lays_65 : decode cX3_lays 65 = .ok (.iload 5, 2) := by decide +kernel
theorem dX3_lays_67 : decode cX3_lays 67 = .ok (.laload, 1) := by decide +kernel
theorem dX3_lays_68 : decode cX3_lays 68 = .ok (.lstore 6, 2) := by decide +kernel
theorem dX3_lays_70 : decode cX3_lays 70 = .ok (.lload 6, 2) := by decide +kernel
theorem dX3_lays_72 : decode cX3_lays 72 = .ok (.lconst 0, 1) := by decide +kernel
theorem dX3_lays_73 : decode cX3_lays 73 = .ok (.lcmp, 1) := by decide +kernel
theorem dX3_lays_74 : decode cX3_lays 74 = .ok (.ifCond .lt 28, 3) := by decide +kernel
theorem dX3_lays_77 : decode cX3_lays 77 = .ok (.lload 6, 2) := by decide +kernel
theorem dX3_lays_79 : decode cX3_lays 79 = .ok (.ldc2_w 224, 3) := by decide +kernel
theorem dX3_lays_82 : decode cX3_lays 82 = .ok (.lcmp, 1) := by decide +kernel
theorem dX3_lays_83 : decode cX3_lays 83 = .ok (.ifCond .gt 19, 3) := by decide +kernel
theorem dX3_lays_86 : decode cX3_lays 86 = .ok (.aload_n 0, 1) := by decide +kernel
theorem dX3_lays_87 : decode cX3_lays 87 = .ok (.getfield 10, 3) := by decide +kernel
theorem dX3_lays_90 : decode cX3_lays 90 = .ok (.getfield 74, 3) := by decide +kernel
theorem dX3_lays_93 : decode cX3_lays 93 = .ok (.iload 5, 2) := by decide +kernel
theorem dX3_lays_95 : decode cX3_lays 95 = .ok (.lload 6, 2) := by decide +kernel
theorem dX3_lays_97 : decode cX3_lays 97 = .ok (.l2i, 1) := by decide +kernel
theorem dX3_lays_98 : decode cX3_lays 98 = .ok (.iastore, 1) := by decide +kernel
theorem dX3_lays_99 : decode cX3_lays 99 = .ok (.iinc 3 1, 3) := by decide +kernel
theorem dX3_lays_102 : decode cX3_lays 102 = .ok (.iinc 5 1, 3) := by decide +kernel
theorem dX3_lays_105 : decode cX3_lays 105 = .ok (.goto (-51), 3) := by decide +kernel
theorem dX3_lays_108 : decode cX3_lays 108 = .ok (.iload_n 3, 1) := by decide +kernel
theorem dX3_lays_109 : decode cX3_lays 109 = .ok (.ireturn, 1) := by decide +kernel
theorem dX3_book_0 : decode cX3_book 0 = .ok (.iload_n 1, 1) := by decide +kernel
theorem dX3_book_1 : decode cX3_book 1 = .ok (.invokestatic 186, 3) := by decide +kernel
theorem dX3_book_4 : decode cX3_book 4 = .ok (.ifCond .ne 9, 3) := by decide +kernel
theorem dX3_book_7 : decode cX3_book 7 = .ok (.aload_n 0, 1) := by decide +kernel
theorem dX3_book_8 : decode cX3_book 8 = .ok (.iconst 0, 1) := by decide +kernel
theorem dX3_book_9 : decode cX3_book 9 = .ok (.invokevirtual 48, 3) := by decide +kernel
theorem dX3_book_12 : decode cX3_book 12 = .ok (.ireturn, 1) := by decide +kernel
theorem dX3_book_13 : decode cX3_book 13 = .ok (.aload_n 0, 1) := by decide +kernel
theorem dX3_book_14 : decode cX3_book 14 = .ok (.getfield 35, 3) := by decide +kernel
theorem dX3_book_17 : decode cX3_book 17 = .ok (.iload_n 1, 1) := by decide +kernel
theorem dX3_book_18 : decode cX3_book 18 = .ok (.aaload, 1) := by decide +kernel
theorem dX3_book_19 : decode cX3_book 19 = .ok (.astore_n 3, 1) := by decide +kernel
theorem dX3_book_20 : decode cX3_book 20 = .ok (.aload_n 3, 1) := by decide +kernel
theorem dX3_book_21 : decode cX3_book 21 = .ok (.invokevirtual 196, 3) := by decide +kernel
theorem dX3_book_24 : decode cX3_book 24 = .ok (.ifCond .eq 9, 3) := by decide +kernel
theorem dX3_book_27 : decode cX3_book 27 = .ok (.aload_n 0, 1) := by decide +kernel
theorem dX3_book_28 : decode cX3_book 28 = .ok (.iconst 5, 1) := by decide +kernel
theorem dX3_book_29 : decode cX3_book 29 = .ok (.invokevirtual 48, 3) := by decide +kernel
theorem dX3_book_32 : decode cX3_book 32 = .ok (.ireturn, 1) := by decide +kernel
theorem dX3_book_33 : decode cX3_book 33 = .ok (.aload_n 0, 1) := by decide +kernel
theorem dX3_book_34 : decode cX3_book 34 = .ok (.iload_n 2, 1) := by decide +kernel
theorem dX3_book_35 : decode cX3_book 35 = .ok (.invokevirtual 100, 3) := by decide +kernel
theorem dX3_book_38 : decode cX3_book 38 = .ok (.ifCond .ne 9, 3) := by decide +kernel
theorem dX3_book_41 : decode cX3_book 41 = .ok (.aload_n 0, 1) := by decide +kernel
theorem dX3_book_42 : decode cX3_book 42 = .ok (.iconst 0, 1) := by decide +kernel
theorem dX3_book_43 : decode cX3_book 43 = .ok (.invokevirtual 48, 3) := by decide +kernel
theorem dX3_book_46 : decode cX3_book 46 = .ok (.ireturn, 1) := by decide +kernel
theorem dX3_book_47 : decode cX3_book 47 = .ok (.aload_n 0, 1) := by decide +kernel
theorem dX3_book_48 : decode cX3_book 48 = .ok (.invokevirtual 145, 3) := by decide +kernel
theorem dX3_book_51 : decode cX3_book 51 = .ok (.iconst 0, 1) := by decide +kernel
theorem dX3_book_52 : decode cX3_book 52 = .ok (.istore 4, 2) := by decide +kernel
theorem dX3_book_54 : decode cX3_book 54 = .ok (.iload 4, 2) := by decide +kernel
theorem dX3_book_56 : decode cX3_book 56 = .ok (.aload_n 3, 1) := by decide +kernel
theorem dX3_book_57 : decode cX3_book 57 = .ok (.getfield 195, 3) := by decide +kernel
theorem dX3_book_60 : decode cX3_book 60 = .ok (.if_icmp .ge 32, 3) := by decide +kernel
theorem dX3_book_63 : decode cX3_book 63 = .ok (.aload_n 3, 1) := by decide +kernel
theorem dX3_book_64 : decode cX3_book 64 = .ok (.iload 4, 2) := by decide +kernel
theorem dX3_book_66 : decode cX3_book 66 = .ok (.aload_n 0, 1) := by decide +kernel
theorem dX3_book_67 : decode cX3_book 67 = .ok (.getfield 16, 3) := by decide +kernel
theorem dX3_book_70 : decode cX3_book 70 = .ok (.getfield 74, 3) := by decide +kernel
theorem dX3_book_73 : decode cX3_book 73 = .ok (.iload_n 2, 1) := by decide +kernel
theorem dX3_book_74 : decode cX3_book 74 = .ok (.iaload, 1) := by decide +kernel
theorem dX3_book_75 : decode cX3_book 75 = .ok (.i2l, 1) := by decide +kernel
theorem dX3_book_76 : decode cX3_book 76 = .ok (.invokevirtual 206, 3) := by decide +kernel
theorem dX3_book_79 : decode cX3_book 79 = .ok (.aload_n 0, 1) := by decide +kernel
theorem dX3_book_80 : decode cX3_book 80 = .ok (.getfield 16, 3) := by decide +kernel
theorem dX3_book_83 : decode cX3_book 83 = .ok (.invokevirtual 148, 3) := by decide +kernel
theorem dX3_book_86 : decode cX3_book 86 = .ok (.iinc 4 1, 3) := by decide +kernel
theorem dX3_book_89 : decode cX3_book 89 = .ok (.goto (-35), 3) := by decide +kernel
theorem dX3_book_92 : decode cX3_book 92 = .ok (.aload_n 3, 1) := by decide +kernel
theorem dX3_book_93 : decode cX3_book 93 = .ok (.getfield 195, 3) := by decide +kernel
theorem dX3_book_96 : decode cX3_book 96 = .ok (.ireturn, 1) := by decide +kernel
theorem dX3_read_0 : decode cX3_read 0 = .ok (.iload_n 1, 1) := by decide +kernel
theorem dX3_read_1 : decode cX3_read 1 = .ok (.invokestatic 186, 3) := by decide +kernel
theorem dX3_read_4 : decode cX3_read 4 = .ok (.ifCond .ne 9, 3) := by decide +kernel
theorem dX3_read_7 : decode cX3_read 7 = .ok (.aload_n 0, 1) := by decide +kernel
theorem dX3_read_8 : decode cX3_read 8 = .ok (.iconst 0, 1) := by decide +kernel
theorem dX3_read_9 : decode cX3_read 9 = .ok (.invokevirtual 48, 3) := by decide +kernel
theorem dX3_read_12 : decode cX3_read 12 = .ok (.ireturn, 1) := by decide +kernel
theorem dX3_read_13 : decode cX3_read 13 = .ok (.aload_n 0, 1) := by decide +kernel
theorem dX3_read_14 : decode cX3_read 14 = .ok (.getfield 35, 3) := by decide +kernel
theorem dX3_read_17 : decode cX3_read 17 = .ok (.iload_n 1, 1) := by decide +kernel
theorem dX3_read_18 : decode cX3_read 18 = .ok (.aaload, 1) := by decide +kernel
theorem dX3_read_19 : decode cX3_read 19 = .ok (.astore 4, 2) := by decide +kernel
theorem dX3_read_21 : decode cX3_read 21 = .ok (.aload 4, 2) := by decide +kernel
theorem dX3_read_23 : decode cX3_read 23 = .ok (.invokevirtual 196, 3) := by decide +kernel
theorem dX3_read_26 : decode cX3_read 26 = .ok (.ifCond .eq 9, 3) := by decide +kernel
theorem dX3_read_29 : decode cX3_read 29 = .ok (.aload_n 0, 1) := by decide +kernel
theorem dX3_read_30 : decode cX3_read 30 = .ok (.iconst 5, 1) := by decide +kernel
theorem dX3_read_31 : decode cX3_read 31 = .ok (.invokevirtual 48, 3) := by decide +kernel
theorem dX3_read_34 : decode cX3_read 34 = .ok (.ireturn, 1) := by decide +kernel
theorem dX3_read_35 : decode cX3_read 35 = .ok (.aload_n 0, 1) := by decide +kernel
theorem dX3_read_36 : decode cX3_read 36 = .ok (.iload_n 2, 1) := by decide +kernel
theorem dX3_read_37 : decode cX3_read 37 = .ok (.iload_n 3, 1) := by decide +kernel
theorem dX3_read_38 : decode cX3_read 38 = .ok (.invokevirtual 134, 3) := by decide +kernel
theorem dX3_read_41 : decode cX3_read 41 = .ok (.ifCond .ne 9, 3) := by decide +kernel
theorem dX3_read_44 : decode cX3_read 44 = .ok (.aload_n 0, 1) := by decide +kernel
theorem dX3_read_45 : decode cX3_read 45 = .ok (.iconst 0, 1) := by decide +kernel
theorem dX3_read_46 : decode cX3_read 46 = .ok (.invokevirtual 48, 3) := by decide +kernel
theorem dX3_read_49 : decode cX3_read 49 = .ok (.ireturn, 1) := by decide +kernel
theorem dX3_read_50 : decode cX3_read 50 = .ok (.iconst 0, 1) := by decide +kernel
theorem dX3_read_51 : decode cX3_read 51 = .ok (.istore 5, 2) := by decide +kernel
theorem dX3_read_53 : decode cX3_read 53 = .ok (.iconst 0, 1) := by decide +kernel
theorem dX3_read_54 : decode cX3_read 54 = .ok (.istore 6, 2) := by decide +kernel
theorem dX3_read_56 : decode cX3_read 56 = .ok (.iload 6, 2) := by decide +kernel
theorem dX3_read_58 : decode cX3_read 58 = .ok (.bipush 6, 2) := by decide +kernel
theorem dX3_read_60 : decode cX3_read 60 = .ok (.if_icmp .ge 64, 3) := by decide +kernel
theorem dX3_read_63 : decode cX3_read 63 = .ok (.iconst 0, 1) := by decide +kernel
theorem dX3_read_64 : decode cX3_read 64 = .ok (.istore 7, 2) := by decide +kernel
theorem dX3_read_66 : decode cX3_read 66 = .ok (.iload 7, 2) := by decide +kernel
theorem dX3_read_68 : decode cX3_read 68 = .ok (.bipush 6, 2) := by decide +kernel
theorem dX3_read_70 : decode cX3_read 70 = .ok (.if_icmp .ge 48, 3) := by decide +kernel
theorem dX3_read_73 : decode cX3_read 73 = .ok (.aload_n 0, 1) := by decide +kernel
theorem dX3_read_74 : decode cX3_read 74 = .ok (.invokevirtual 145, 3) := by decide +kernel
theorem dX3_read_77 : decode cX3_read 77 = .ok (.aload_n 0, 1) := by decide +kernel
theorem dX3_read_78 : decode cX3_read 78 = .ok (.getfield 16, 3) := by decide +kernel
theorem dX3_read_81 : decode cX3_read 81 = .ok (.getfield 103, 3) := by decide +kernel
theorem dX3_read_84 : decode cX3_read 84 = .ok (.iload_n 2, 1) := by decide +kernel
theorem dX3_read_85 : decode cX3_read 85 = .ok (.iload 6, 2) := by decide +kernel
theorem dX3_read_87 : decode cX3_read 87 = .ok (.iastore, 1) := by decide +kernel
theorem dX3_read_88 : decode cX3_read 88 = .ok (.aload_n 0, 1) := by decide +kernel
theorem dX3_read_89 : decode cX3_read 89 = .ok (.getfield 16, 3) := by decide +kernel
theorem dX3_read_92 : decode cX3_read 92 = .ok (.getfield 103, 3) := by decide +kernel
theorem dX3_read_95 : decode cX3_read 95 = .ok (.iload_n 3, 1) := by decide +kernel
theorem dX3_read_96 : decode cX3_read 96 = .ok (.iload 7, 2) := by decide +kernel
theorem dX3_read_98 : decode cX3_read 98 = .ok (.iastore, 1) := by decide +kernel
theorem dX3_read_99 : decode cX3_read 99 = .ok (.aload_n 0, 1) := by decide +kernel
theorem dX3_read_100 : decode cX3_read 100 = .ok (.aload 4, 2) := by decide +kernel
theorem dX3_read_102 : decode cX3_read 102 = .ok (.iload_n 2, 1) := by decide +kernel
theorem dX3_read_103 : decode cX3_read 103 = .ok (.invokevirtual 226, 3) := by decide +kernel
theorem dX3_read_106 : decode cX3_read 106 = .ok (.ifCond .eq 6, 3) := by decide +kernel
theorem dX3_read_109 : decode cX3_read 109 = .ok (.iinc 5 1, 3) := by decide +kernel
theorem dX3_read_112 : decode cX3_read 112 = .ok (.iinc 7 1, 3) := by decide +kernel
theorem dX3_read_115 : decode cX3_read 115 = .ok (.goto (-49), 3) := by decide +kernel
theorem dX3_read_118 : decode cX3_read 118 = .ok (.iinc 6 1, 3) := by decide +kernel
theorem dX3_read_121 : decode cX3_read 121 = .ok (.goto (-65), 3) := by decide +kernel
theorem dX3_read_124 : decode cX3_read 124 = .ok (.iload 5, 2) := by decide +kernel
theorem dX3_read_126 : decode cX3_read 126 = .ok (.ireturn, 1) := by decide +kernel
theorem dX3_image_0 : decode cX3_image 0 = .ok (.aload_n 0, 1) := by decide +kernel
theorem dX3_image_1 : decode cX3_image 1 = .ok (.getfield 19, 3) := by decide +kernel
theorem dX3_image_4 : decode cX3_image 4 = .ok (.aload_n 0, 1) := by decide +kernel
theorem dX3_image_5 : decode cX3_image 5 = .ok (.getfield 10, 3) := by decide +kernel
theorem dX3_image_8 : decode cX3_image 8 = .ok (.invokevirtual 182, 3) := by decide +kernel
theorem dX3_image_11 : decode cX3_image 11 = .ok (.aload_n 0, 1) := by decide +kernel
theorem dX3_image_12 : decode cX3_image 12 = .ok (.iconst 1, 1) := by decide +kernel
theorem dX3_image_13 : decode cX3_image 13 = .ok (.putfield 22, 3) := by decide +kernel
theorem dX3_image_16 : decode cX3_image 16 = .ok (.iconst 1, 1) := by decide +kernel
theorem dX3_image_17 : decode cX3_image 17 = .ok (.ireturn, 1) := by decide +kernel
theorem dX3_undo_0 : decode cX3_undo 0 = .ok (.aload_n 0, 1) := by decide +kernel
theorem dX3_undo_1 : decode cX3_undo 1 = .ok (.getfield 22, 3) := by decide +kernel
theorem dX3_undo_4 : decode cX3_undo 4 = .ok (.ifCond .ne 9, 3) := by decide +kernel
theorem dX3_undo_7 : decode cX3_undo 7 = .ok (.aload_n 0, 1) := by decide +kernel
theorem dX3_undo_8 : decode cX3_undo 8 = .ok (.iconst 3, 1) := by decide +kernel
theorem dX3_undo_9 : decode cX3_undo 9 = .ok (.invokevirtual 48, 3) := by decide +kernel
theorem dX3_undo_12 : decode cX3_undo 12 = .ok (.ireturn, 1) := by decide +kernel
theorem dX3_undo_13 : decode cX3_undo 13 = .ok (.aload_n 0, 1) := by decide +kernel
theorem dX3_undo_14 : decode cX3_undo 14 = .ok (.getfield 10, 3) := by decide +kernel
theorem dX3_undo_17 : decode cX3_undo 17 = .ok (.aload_n 0, 1) := by decide +kernel
theorem dX3_undo_18 : decode cX3_undo 18 = .ok (.getfield 19, 3) := by decide +kernel
theorem dX3_undo_21 : decode cX3_undo 21 = .ok (.invokevirtual 182, 3) := by decide +kernel
theorem dX3_undo_24 : decode cX3_undo 24 = .ok (.aload_n 0, 1) := by decide +kernel
theorem dX3_undo_25 : decode cX3_undo 25 = .ok (.getfield 10, 3) := by decide +kernel
theorem dX3_undo_28 : decode cX3_undo 28 = .ok (.getfield 159, 3) := by decide +kernel
theorem dX3_undo_31 : decode cX3_undo 31 = .ok (.ireturn, 1) := by decide +kernel
theorem dX3_tear_0 : decode cX3_tear 0 = .ok (.aload_n 0, 1) := by decide +kernel
theorem dX3_tear_1 : decode cX3_tear 1 = .ok (.getfield 22, 3) := by decide +kernel
theorem dX3_tear_4 : decode cX3_tear 4 = .ok (.invokestatic 67, 3) := by decide +kernel
theorem dX3_tear_7 : decode cX3_tear 7 = .ok (.istore_n 1, 1) := by decide +kernel
theorem dX3_tear_8 : decode cX3_tear 8 = .ok (.aload_n 0, 1) := by decide +kernel
theorem dX3_tear_9 : decode cX3_tear 9 = .ok (.iconst 0, 1) := by decide +kernel
theorem dX3_tear_10 : decode cX3_tear 10 = .ok (.putfield 22, 3) := by decide +kernel
theorem dX3_tear_13 : decode cX3_tear 13 = .ok (.iload_n 1, 1) := by decide +kernel
theorem dX3_tear_14 : decode cX3_tear 14 = .ok (.ireturn, 1) := by decide +kernel
theorem dX3_count_0 : decode cX3_count 0 = .ok (.iload_n 1, 1) := by decide +kernel
theorem dX3_count_1 : decode cX3_count 1 = .ok (.tableswitch 74 0 3 #[31, 39, 47, 59], 31) := by decide +kernel
theorem dX3_count_32 : decode cX3_count 32 = .ok (.aload_n 0, 1) := by decide +kernel
theorem dX3_count_33 : decode cX3_count 33 = .ok (.getfield 10, 3) := by decide +kernel
theorem dX3_count_36 : decode cX3_count 36 = .ok (.getfield 159, 3) := by decide +kernel
theorem dX3_count_39 : decode cX3_count 39 = .ok (.ireturn, 1) := by decide +kernel
theorem dX3_count_40 : decode cX3_count 40 = .ok (.aload_n 0, 1) := by decide +kernel
theorem dX3_count_41 : decode cX3_count 41 = .ok (.getfield 29, 3) := by decide +kernel
theorem dX3_count_44 : decode cX3_count 44 = .ok (.getfield 175, 3) := by decide +kernel
theorem dX3_count_47 : decode cX3_count 47 = .ok (.ireturn, 1) := by decide +kernel
theorem dX3_count_48 : decode cX3_count 48 = .ok (.aload_n 0, 1) := by decide +kernel
theorem dX3_count_49 : decode cX3_count 49 = .ok (.aload_n 0, 1) := by decide +kernel
theorem dX3_count_50 : decode cX3_count 50 = .ok (.getfield 10, 3) := by decide +kernel
theorem dX3_count_53 : decode cX3_count 53 = .ok (.getfield 106, 3) := by decide +kernel
theorem dX3_count_56 : decode cX3_count 56 = .ok (.invokevirtual 77, 3) := by decide +kernel
theorem dX3_count_59 : decode cX3_count 59 = .ok (.ireturn, 1) := by decide +kernel
theorem dX3_count_60 : decode cX3_count 60 = .ok (.ldc 109, 2) := by decide +kernel
theorem dX3_count_62 : decode cX3_count 62 = .ok (.aload_n 0, 1) := by decide +kernel
theorem dX3_count_63 : decode cX3_count 63 = .ok (.aload_n 0, 1) := by decide +kernel
theorem dX3_count_64 : decode cX3_count 64 = .ok (.getfield 10, 3) := by decide +kernel
theorem dX3_count_67 : decode cX3_count 67 = .ok (.getfield 110, 3) := by decide +kernel
theorem dX3_count_70 : decode cX3_count 70 = .ok (.invokevirtual 77, 3) := by decide +kernel
theorem dX3_count_73 : decode cX3_count 73 = .ok (.iadd, 1) := by decide +kernel
theorem dX3_count_74 : decode cX3_count 74 = .ok (.ireturn, 1) := by decide +kernel
theorem dX3_count_75 : decode cX3_count 75 = .ok (.aload_n 0, 1) := by decide +kernel
theorem dX3_count_76 : decode cX3_count 76 = .ok (.iconst 0, 1) := by decide +kernel
theorem dX3_count_77 : decode cX3_count 77 = .ok (.invokevirtual 48, 3) := by decide +kernel
theorem dX3_count_80 : decode cX3_count 80 = .ok (.ireturn, 1) := by decide +kernel
theorem dX3_status_0 : decode cX3_status 0 = .ok (.iload_n 1, 1) := by decide +kernel
theorem dX3_status_1 : decode cX3_status 1 = .ok (.iconst (-1), 1) := by decide +kernel
theorem dX3_status_2 : decode cX3_status 2 = .ok (.if_icmp .ne 43, 3) := by decide +kernel
theorem dX3_status_5 : decode cX3_status 5 = .ok (.iconst 0, 1) := by decide +kernel
theorem dX3_status_6 : decode cX3_status 6 = .ok (.istore_n 2, 1) := by decide +kernel
theorem dX3_status_7 : decode cX3_status 7 = .ok (.aload_n 0, 1) := by decide +kernel
theorem dX3_status_8 : decode cX3_status 8 = .ok (.getfield 40, 3) := by decide +kernel
theorem dX3_status_11 : decode cX3_status 11 = .ok (.astore_n 3, 1) := by decide +kernel
theorem dX3_status_12 : decode cX3_status 12 = .ok (.aload_n 3, 1) := by decide +kernel
theorem dX3_status_13 : decode cX3_status 13 = .ok (.arraylength, 1) := by decide +kernel
theorem dX3_status_14 : decode cX3_status 14 = .ok (.istore 4, 2) := by decide +kernel
theorem dX3_status_16 : decode cX3_status 16 = .ok (.iconst 0, 1) := by decide +kernel
theorem dX3_status_17 : decode cX3_status 17 = .ok (.istore 5, 2) := by decide +kernel
theorem dX3_status_19 : decode cX3_status 19 = .ok (.iload 5, 2) := by decide +kernel
theorem dX3_status_21 : decode cX3_status 21 = .ok (.iload 4, 2) := by decide +kernel
theorem dX3_status_23 : decode cX3_status 23 = .ok (.if_icmp .ge 20, 3) := by decide +kernel
theorem dX3_status_26 : decode cX3_status 26 = .ok (.aload_n 3, 1) := by decide +kernel
theorem dX3_status_27 : decode cX3_status 27 = .ok (.iload 5, 2) := by decide +kernel
theorem dX3_status_29 : decode cX3_status 29 = .ok (.iaload, 1) := by decide +kernel
theorem dX3_status_30 : decode cX3_status 30 = .ok (.istore 6, 2) := by decide +kernel
theorem dX3_status_32 : decode cX3_status 32 = .ok (.iload_n 2, 1) := by decide +kernel
theorem dX3_status_33 : decode cX3_status 33 = .ok (.iload 6, 2) := by decide +kernel
theorem dX3_status_35 : decode cX3_status 35 = .ok (.iadd, 1) := by decide +kernel
theorem dX3_status_36 : decode cX3_status 36 = .ok (.istore_n 2, 1) := by decide +kernel
theorem dX3_status_37 : decode cX3_status 37 = .ok (.iinc 5 1, 3) := by decide +kernel
theorem dX3_status_40 : decode cX3_status 40 = .ok (.goto (-21), 3) := by decide +kernel
theorem dX3_status_43 : decode cX3_status 43 = .ok (.iload_n 2, 1) := by decide +kernel
theorem dX3_status_44 : decode cX3_status 44 = .ok (.ireturn, 1) := by decide +kernel
theorem dX3_status_45 : decode cX3_status 45 = .ok (.iload_n 1, 1) := by decide +kernel
theorem dX3_status_46 : decode cX3_status 46 = .ok (.iconst 0, 1) := by decide +kernel
theorem dX3_status_47 : decode cX3_status 47 = .ok (.bipush 6, 2) := by decide +kernel
theorem dX3_status_49 : decode cX3_status 49 = .ok (.invokestatic 44, 3) := by decide +kernel
theorem dX3_status_52 : decode cX3_status 52 = .ok (.ifCond .ne 9, 3) := by decide +kernel
theorem dX3_status_55 : decode cX3_status 55 = .ok (.aload_n 0, 1) := by decide +kernel
theorem dX3_status_56 : decode cX3_status 56 = .ok (.iconst 0, 1) := by decide +kernel
theorem dX3_status_57 : decode cX3_status 57 = .ok (.invokevirtual 48, 3) := by decide +kernel
theorem dX3_status_60 : decode cX3_status 60 = .ok (.ireturn, 1) := by decide +kernel
theorem dX3_status_61 : decode cX3_status 61 = .ok (.aload_n 0, 1) := by decide +kernel
theorem dX3_status_62 : decode cX3_status 62 = .ok (.getfield 40, 3) := by decide +kernel
theorem dX3_status_65 : decode cX3_status 65 = .ok (.iload_n 1, 1) := by decide +kernel
theorem dX3_status_66 : decode cX3_status 66 = .ok (.iaload, 1) := by decide +kernel
theorem dX3_status_67 : decode cX3_status 67 = .ok (.ireturn, 1) := by decide +kernel
theorem dX3_found_0 : decode cX3_found 0 = .ok (.aload_n 0, 1) := by decide +kernel
theorem dX3_found_1 : decode cX3_found 1 = .ok (.getfield 40, 3) := by decide +kernel
theorem dX3_found_4 : decode cX3_found 4 = .ok (.iload_n 1, 1) := by decide +kernel
theorem dX3_found_5 : decode cX3_found 5 = .ok (.dup2, 1) := by decide +kernel
theorem dX3_found_6 : decode cX3_found 6 = .ok (.iaload, 1) := by decide +kernel
theorem dX3_found_7 : decode cX3_found 7 = .ok (.iconst 1, 1) := by decide +kernel
theorem dX3_found_8 : decode cX3_found 8 = .ok (.iadd, 1) := by decide +kernel
theorem dX3_found_9 : decode cX3_found 9 = .ok (.iastore, 1) := by decide +kernel
theorem dX3_found_10 : decode cX3_found 10 = .ok (.ldc 230, 2) := by decide +kernel
theorem dX3_found_12 : decode cX3_found 12 = .ok (.iload_n 1, 1) := by decide +kernel
theorem dX3_found_13 : decode cX3_found 13 = .ok (.isub, 1) := by decide +kernel
theorem dX3_found_14 : decode cX3_found 14 = .ok (.ireturn, 1) := by decide +kernel
theorem dX3_within_0 : decode cX3_within 0 = .ok (.iload_n 0, 1) := by decide +kernel
theorem dX3_within_1 : decode cX3_within 1 = .ok (.iload_n 1, 1) := by decide +kernel
theorem dX3_within_2 : decode cX3_within 2 = .ok (.if_icmp .lt 12, 3) := by decide +kernel
theorem dX3_within_5 : decode cX3_within 5 = .ok (.iload_n 0, 1) := by decide +kernel
theorem dX3_within_6 : decode cX3_within 6 = .ok (.iload_n 2, 1) := by decide +kernel
theorem dX3_within_7 : decode cX3_within 7 = .ok (.if_icmp .gt 7, 3) := by decide +kernel
theorem dX3_within_10 : decode cX3_within 10 = .ok (.iconst 1, 1) := by decide +kernel
theorem dX3_within_11 : decode cX3_within 11 = .ok (.goto 4, 3) := by decide +kernel
theorem dX3_within_14 : decode cX3_within 14 = .ok (.iconst 0, 1) := by decide +kernel
theorem dX3_within_15 : decode cX3_within 15 = .ok (.ireturn, 1) := by decide +kernel
theorem dX3_asNumber_0 : decode cX3_asNumber 0 = .ok (.iload_n 0, 1) := by decide +kernel
theorem dX3_asNumber_1 : decode cX3_asNumber 1 = .ok (.ifCond .eq 7, 3) := by decide +kernel
theorem dX3_asNumber_4 : decode cX3_asNumber 4 = .ok (.iconst 1, 1) := by decide +kernel
theorem dX3_asNumber_5 : decode cX3_asNumber 5 = .ok (.goto 4, 3) := by decide +kernel
theorem dX3_asNumber_8 : decode cX3_asNumber 8 = .ok (.iconst 0, 1) := by decide +kernel
theorem dX3_asNumber_9 : decode cX3_asNumber 9 = .ok (.ireturn, 1) := by decide +kernel
theorem dX3_isKind_0 : decode cX3_isKind 0 = .ok (.iload_n 0, 1) := by decide +kernel
theorem dX3_isKind_1 : decode cX3_isKind 1 = .ok (.iconst 0, 1) := by decide +kernel
theorem dX3_isKind_2 : decode cX3_isKind 2 = .ok (.iconst 5, 1) := by decide +kernel
theorem dX3_isKind_3 : decode cX3_isKind 3 = .ok (.invokestatic 44, 3) := by decide +kernel
theorem dX3_isKind_6 : decode cX3_isKind 6 = .ok (.ireturn, 1) := by decide +kernel
theorem dX3_isSheet_0 : decode cX3_isSheet 0 = .ok (.iload_n 0, 1) := by decide +kernel
theorem dX3_isSheet_1 : decode cX3_isSheet 1 = .ok (.iconst 0, 1) := by decide +kernel
theorem dX3_isSheet_2 : decode cX3_isSheet 2 = .ok (.iconst 3, 1) := by decide +kernel
theorem dX3_isSheet_3 : decode cX3_isSheet 3 = .ok (.invokestatic 44, 3) := by decide +kernel
theorem dX3_isSheet_6 : decode cX3_isSheet 6 = .ok (.ireturn, 1) := by decide +kernel
theorem dX3_isChild_0 : decode cX3_isChild 0 = .ok (.iload_n 1, 1) := by decide +kernel
theorem dX3_isChild_1 : decode cX3_isChild 1 = .ok (.iconst 0, 1) := by decide +kernel
theorem dX3_isChild_2 : decode cX3_isChild 2 = .ok (.aload_n 0, 1) := by decide +kernel
theorem dX3_isChild_3 : decode cX3_isChild 3 = .ok (.getfield 10, 3) := by decide +kernel
theorem dX3_isChild_6 : decode cX3_isChild 6 = .ok (.getfield 159, 3) := by decide +kernel
theorem dX3_isChild_9 : decode cX3_isChild 9 = .ok (.iconst 1, 1) := by decide +kernel
theorem dX3_isChild_10 : decode cX3_isChild 10 = .ok (.isub, 1) := by decide +kernel
theorem dX3_isChild_11 : decode cX3_isChild 11 = .ok (.invokestatic 44, 3) := by decide +kernel
theorem dX3_isChild_14 : decode cX3_isChild 14 = .ok (.ireturn, 1) := by decide +kernel
theorem dX3_areTwo_0 : decode cX3_areTwo 0 = .ok (.aload_n 0, 1) := by decide +kernel
theorem dX3_areTwo_1 : decode cX3_areTwo 1 = .ok (.iload_n 1, 1) := by decide +kernel
theorem dX3_areTwo_2 : decode cX3_areTwo 2 = .ok (.invokevirtual 100, 3) := by decide +kernel
theorem dX3_areTwo_5 : decode cX3_areTwo 5 = .ok (.ifCond .eq 20, 3) := by decide +kernel
theorem dX3_areTwo_8 : decode cX3_areTwo 8 = .ok (.aload_n 0, 1) := by decide +kernel
theorem dX3_areTwo_9 : decode cX3_areTwo 9 = .ok (.iload_n 2, 1) := by decide +kernel
theorem dX3_areTwo_10 : decode cX3_areTwo 10 = .ok (.invokevirtual 100, 3) := by decide +kernel
theorem dX3_areTwo_13 : decode cX3_areTwo 13 = .ok (.ifCond .eq 12, 3) := by decide +kernel
theorem dX3_areTwo_16 : decode cX3_areTwo 16 = .ok (.iload_n 1, 1) := by decide +kernel
theorem dX3_areTwo_17 : decode cX3_areTwo 17 = .ok (.iload_n 2, 1) := by decide +kernel
theorem dX3_areTwo_18 : decode cX3_areTwo 18 = .ok (.if_icmp .eq 7, 3) := by decide +kernel
theorem dX3_areTwo_21 : decode cX3_areTwo 21 = .ok (.iconst 1, 1) := by decide +kernel
theorem dX3_areTwo_22 : decode cX3_areTwo 22 = .ok (.goto 4, 3) := by decide +kernel
theorem dX3_areTwo_25 : decode cX3_areTwo 25 = .ok (.iconst 0, 1) := by decide +kernel
theorem dX3_areTwo_26 : decode cX3_areTwo 26 = .ok (.ireturn, 1) := by decide +kernel
theorem dX3_sumOf_0 : decode cX3_sumOf 0 = .ok (.iconst 0, 1) := by decide +kernel
theorem dX3_sumOf_1 : decode cX3_sumOf 1 = .ok (.istore_n 2, 1) := by decide +kernel
theorem dX3_sumOf_2 : decode cX3_sumOf 2 = .ok (.iconst 0, 1) := by decide +kernel
theorem dX3_sumOf_3 : decode cX3_sumOf 3 = .ok (.istore_n 3, 1) := by decide +kernel
theorem dX3_sumOf_4 : decode cX3_sumOf 4 = .ok (.iload_n 3, 1) := by decide +kernel
theorem dX3_sumOf_5 : decode cX3_sumOf 5 = .ok (.aload_n 0, 1) := by decide +kernel
theorem dX3_sumOf_6 : decode cX3_sumOf 6 = .ok (.getfield 10, 3) := by decide +kernel
theorem dX3_sumOf_9 : decode cX3_sumOf 9 = .ok (.getfield 159, 3) := by decide +kernel
theorem dX3_sumOf_12 : decode cX3_sumOf 12 = .ok (.if_icmp .ge 15, 3) := by decide +kernel
theorem dX3_sumOf_15 : decode cX3_sumOf 15 = .ok (.iload_n 2, 1) := by decide +kernel
theorem dX3_sumOf_16 : decode cX3_sumOf 16 = .ok (.aload_n 1, 1) := by decide +kernel
theorem dX3_sumOf_17 : decode cX3_sumOf 17 = .ok (.iload_n 3, 1) := by decide +kernel
theorem dX3_sumOf_18 : decode cX3_sumOf 18 = .ok (.iaload, 1) := by decide +kernel
theorem dX3_sumOf_19 : decode cX3_sumOf 19 = .ok (.iadd, 1) := by decide +kernel
theorem dX3_sumOf_20 : decode cX3_sumOf 20 = .ok (.istore_n 2, 1) := by decide +kernel
theorem dX3_sumOf_21 : decode cX3_sumOf 21 = .ok (.iinc 3 1, 3) := by decide +kernel
theorem dX3_sumOf_24 : decode cX3_sumOf 24 = .ok (.goto (-20), 3) := by decide +kernel
theorem dX3_sumOf_27 : decode cX3_sumOf 27 = .ok (.iload_n 2, 1) := by decide +kernel
theorem dX3_sumOf_28 : decode cX3_sumOf 28 = .ok (.ireturn, 1) := by decide +kernel
theorem dX3_put_0 : decode cX3_put 0 = .ok (.iload_n 3, 1) := by decide +kernel
theorem dX3_put_1 : decode cX3_put 1 = .ok (.iload 4, 2) := by decide +kernel
theorem dX3_put_3 : decode cX3_put 3 = .ok (.iload 5, 2) := by decide +kernel
theorem dX3_put_5 : decode cX3_put 5 = .ok (.invokestatic 44, 3) := by decide +kernel
theorem dX3_put_8 : decode cX3_put 8 = .ok (.ifCond .ne 9, 3) := by decide +kernel
theorem dX3_put_11 : decode cX3_put 11 = .ok (.aload_n 0, 1) := by decide +kernel
theorem dX3_put_12 : decode cX3_put 12 = .ok (.iconst 0, 1) := by decide +kernel
theorem dX3_put_13 : decode cX3_put 13 = .ok (.invokevirtual 48, 3) := by decide +kernel
theorem dX3_put_16 : decode cX3_put 16 = .ok (.ireturn, 1) := by decide +kernel
theorem dX3_put_17 : decode cX3_put 17 = .ok (.aload_n 1, 1) := by decide +kernel
theorem dX3_put_18 : decode cX3_put 18 = .ok (.iload_n 2, 1) := by decide +kernel
theorem dX3_put_19 : decode cX3_put 19 = .ok (.iaload, 1) := by decide +kernel
theorem dX3_put_20 : decode cX3_put 20 = .ok (.istore 6, 2) := by decide +kernel
theorem dX3_put_22 : decode cX3_put 22 = .ok (.aload_n 1, 1) := by decide +kernel
theorem dX3_put_23 : decode cX3_put 23 = .ok (.iload_n 2, 1) := by decide +kernel
theorem dX3_put_24 : decode cX3_put 24 = .ok (.iload_n 3, 1) := by decide +kernel
theorem dX3_put_25 : decode cX3_put 25 = .ok (.iastore, 1) := by decide +kernel
theorem dX3_put_26 : decode cX3_put 26 = .ok (.iload 6, 2) := by decide +kernel
theorem dX3_put_28 : decode cX3_put 28 = .ok (.ireturn, 1) := by decide +kernel
theorem dX3_tryAsItIs_0 : decode cX3_tryAsItIs 0 = .ok (.aload_n 0, 1) := by decide +kernel
theorem dX3_tryAsItIs_1 : decode cX3_tryAsItIs 1 = .ok (.getfield 16, 3) := by decide +kernel
theorem dX3_tryAsItIs_4 : decode cX3_tryAsItIs 4 = .ok (.aload_n 0, 1) := by decide +kernel
theorem dX3_tryAsItIs_5 : decode cX3_tryAsItIs 5 = .ok (.getfield 10, 3) := by decide +kernel
theorem dX3_tryAsItIs_8 : decode cX3_tryAsItIs 8 = .ok (.invokevirtual 182, 3) := by decide +kernel
theorem dX3_tryAsItIs_11 : decode cX3_tryAsItIs 11 = .ok (.return_, 1) := by decide +kernel
theorem dX3_heightLater_0 : decode cX3_heightLater 0 = .ok (.aload_n 0, 1) := by decide +kernel
theorem dX3_heightLater_1 : decode cX3_heightLater 1 = .ok (.getfield 16, 3) := by decide +kernel
theorem dX3_heightLater_4 : decode cX3_heightLater 4 = .ok (.iload_n 2, 1) := by decide +kernel
theorem dX3_heightLater_5 : decode cX3_heightLater 5 = .ok (.invokevirtual 141, 3) := by decide +kernel
theorem dX3_heightLater_8 : decode cX3_heightLater 8 = .ok (.aload_n 0, 1) := by decide +kernel
theorem dX3_heightLater_9 : decode cX3_heightLater 9 = .ok (.getfield 16, 3) := by decide +kernel
theorem dX3_heightLater_12 : decode cX3_heightLater 12 = .ok (.getfield 74, 3) := by decide +kernel
theorem dX3_heightLater_15 : decode cX3_heightLater 15 = .ok (.iload_n 1, 1) := by decide +kernel
theorem dX3_heightLater_16 : decode cX3_heightLater 16 = .ok (.iaload, 1) := by decide +kernel
theorem dX3_heightLater_17 : decode cX3_heightLater 17 = .ok (.ireturn, 1) := by decide +kernel
theorem dX3_firstMinuteWithin_0 : decode cX3_firstMinuteWithin 0 = .ok (.aload_n 0, 1) := by decide +kernel
theorem dX3_firstMinuteWithin_1 : decode cX3_firstMinuteWithin 1 = .ok (.invokevirtual 145, 3) := by decide +kernel
theorem dX3_firstMinuteWithin_4 : decode cX3_firstMinuteWithin 4 = .ok (.iconst 0, 1) := by decide +kernel
theorem dX3_firstMinuteWithin_5 : decode cX3_firstMinuteWithin 5 = .ok (.istore 4, 2) := by decide +kernel
theorem dX3_firstMinuteWithin_7 : decode cX3_firstMinuteWithin 7 = .ok (.iload 4, 2) := by decide +kernel
theorem dX3_firstMinuteWithin_9 : decode cX3_firstMinuteWithin 9 = .ok (.sipush 400, 3) := by decide +kernel
theorem dX3_firstMinuteWithin_12 : decode cX3_firstMinuteWithin 12 = .ok (.if_icmp .gt 36, 3) := by decide +kernel
theorem dX3_firstMinuteWithin_15 : decode cX3_firstMinuteWithin 15 = .ok (.aload_n 0, 1) := by decide +kernel
theorem dX3_firstMinuteWithin_16 : decode cX3_firstMinuteWithin 16 = .ok (.getfield 16, 3) := by decide +kernel
theorem dX3_firstMinuteWithin_19 : decode cX3_firstMinuteWithin 19 = .ok (.getfield 74, 3) := by decide +kernel
theorem dX3_firstMinuteWithin_22 : decode cX3_firstMinuteWithin 22 = .ok (.iload_n 1, 1) := by decide +kernel
theorem dX3_firstMinuteWithin_23 : decode cX3_firstMinuteWithin 23 = .ok (.iaload, 1) := by decide +kernel
theorem dX3_firstMinuteWithin_24 : decode cX3_firstMinuteWithin 24 = .ok (.iload_n 2, 1) := by decide +kernel
theorem dX3_firstMinuteWithin_25 : decode cX3_firstMinuteWithin 25 = .ok (.iload_n 3, 1) := by decide +kernel
theorem dX3_firstMinuteWithin_26 : decode cX3_firstMinuteWithin 26 = .ok (.invokestatic 44, 3) := by decide +kernel
theorem dX3_firstMinuteWithin_29 : decode cX3_firstMinuteWithin 29 = .ok (.ifCond .eq 6, 3) := by decide +kernel
theorem dX3_firstMinuteWithin_32 : decode cX3_firstMinuteWithin 32 = .ok (.iload 4, 2) := by decide +kernel
theorem dX3_firstMinuteWithin_34 : decode cX3_firstMinuteWithin 34 = .ok (.ireturn, 1) := by decide +kernel
theorem dX3_firstMinuteWithin_35 : decode cX3_firstMinuteWithin 35 = .ok (.aload_n 0, 1) := by decide +kernel
theorem dX3_firstMinuteWithin_36 : decode cX3_firstMinuteWithin 36 = .ok (.getfield 16, 3) := by decide +kernel
theorem dX3_firstMinuteWithin_39 : decode cX3_firstMinuteWithin 39 = .ok (.invokevirtual 148, 3) := by decide +kernel
theorem dX3_firstMinuteWithin_42 : decode cX3_firstMinuteWithin 42 = .ok (.iinc 4 1, 3) := by decide +kernel
theorem dX3_firstMinuteWithin_45 : decode cX3_firstMinuteWithin 45 = .ok (.goto (-38), 3) := by decide +kernel
theorem dX3_firstMinuteWithin_48 : decode cX3_firstMinuteWithin 48 = .ok (.aload_n 0, 1) := by decide +kernel
theorem dX3_firstMinuteWithin_49 : decode cX3_firstMinuteWithin 49 = .ok (.iconst 3, 1) := by decide +kernel
theorem dX3_firstMinuteWithin_50 : decode cX3_firstMinuteWithin 50 = .ok (.invokevirtual 48, 3) := by decide +kernel
theorem dX3_firstMinuteWithin_53 : decode cX3_firstMinuteWithin 53 = .ok (.ireturn, 1) := by decide +kernel
theorem dX3_wentAsBooked_0 : decode cX3_wentAsBooked 0 = .ok (.iconst 0, 1) := by decide +kernel
theorem dX3_wentAsBooked_1 : decode cX3_wentAsBooked 1 = .ok (.istore_n 3, 1) := by decide +kernel
theorem dX3_wentAsBooked_2 : decode cX3_wentAsBooked 2 = .ok (.iload_n 3, 1) := by decide +kernel
theorem dX3_wentAsBooked_3 : decode cX3_wentAsBooked 3 = .ok (.aload_n 1, 1) := by decide +kernel
theorem dX3_wentAsBooked_4 : decode cX3_wentAsBooked 4 = .ok (.getfield 195, 3) := by decide +kernel
theorem dX3_wentAsBooked_7 : decode cX3_wentAsBooked 7 = .ok (.if_icmp .ge 38, 3) := by decide +kernel
theorem dX3_wentAsBooked_10 : decode cX3_wentAsBooked 10 = .ok (.aload_n 1, 1) := by decide +kernel
theorem dX3_wentAsBooked_11 : decode cX3_wentAsBooked 11 = .ok (.getfield 202, 3) := by decide +kernel
theorem dX3_wentAsBooked_14 : decode cX3_wentAsBooked 14 = .ok (.iload_n 3, 1) := by decide +kernel
theorem dX3_wentAsBooked_15 : decode cX3_wentAsBooked 15 = .ok (.laload, 1) := by decide +kernel
theorem dX3_wentAsBooked_16 : decode cX3_wentAsBooked 16 = .ok (.aload_n 0, 1) := by decide +kernel
theorem dX3_wentAsBooked_17 : decode cX3_wentAsBooked 17 = .ok (.getfield 16, 3) := by decide +kernel
theorem dX3_wentAsBooked_20 : decode cX3_wentAsBooked 20 = .ok (.getfield 74, 3) := by decide +kernel
theorem dX3_wentAsBooked_23 : decode cX3_wentAsBooked 23 = .ok (.iload_n 2, 1) := by decide +kernel
theorem dX3_wentAsBooked_24 : decode cX3_wentAsBooked 24 = .ok (.iaload, 1) := by decide +kernel
theorem dX3_wentAsBooked_25 : decode cX3_wentAsBooked 25 = .ok (.i2l, 1) := by decide +kernel
theorem dX3_wentAsBooked_26 : decode cX3_wentAsBooked 26 = .ok (.lcmp, 1) := by decide +kernel
theorem dX3_wentAsBooked_27 : decode cX3_wentAsBooked 27 = .ok (.ifCond .eq 5, 3) := by decide +kernel
theorem dX3_wentAsBooked_30 : decode cX3_wentAsBooked 30 = .ok (.iconst 0, 1) := by decide +kernel
theorem dX3_wentAsBooked_31 : decode cX3_wentAsBooked 31 = .ok (.ireturn, 1) := by decide +kernel
theorem dX3_wentAsBooked_32 : decode cX3_wentAsBooked 32 = .ok (.aload_n 0, 1) := by decide +kernel
theorem dX3_wentAsBooked_33 : decode cX3_wentAsBooked 33 = .ok (.getfield 16, 3) := by decide +kernel
theorem dX3_wentAsBooked_36 : decode cX3_wentAsBooked 36 = .ok (.invokevirtual 148, 3) := by decide +kernel
theorem dX3_wentAsBooked_39 : decode cX3_wentAsBooked 39 = .ok (.iinc 3 1, 3) := by decide +kernel
theorem dX3_wentAsBooked_42 : decode cX3_wentAsBooked 42 = .ok (.goto (-40), 3) := by decide +kernel
theorem dX3_wentAsBooked_45 : decode cX3_wentAsBooked 45 = .ok (.iconst 1, 1) := by decide +kernel
theorem dX3_wentAsBooked_46 : decode cX3_wentAsBooked 46 = .ok (.ireturn, 1) := by decide +kernel
theorem dX4_init_0 : decode cX4_init 0 = .ok (.aload_n 0, 1) := by decide +kernel
theorem dX4_init_1 : decode cX4_init 1 = .ok (.invokespecial 1, 3) := by decide +kernel
theorem dX4_init_4 : decode cX4_init 4 = .ok (.aload_n 0, 1) := by decide +kernel
theorem dX4_init_5 : decode cX4_init 5 = .ok (.bipush 35, 2) := by decide +kernel
theorem dX4_init_7 : decode cX4_init 7 = .ok (.newarray .int, 2) := by decide +kernel
theorem dX4_init_9 : decode cX4_init 9 = .ok (.putfield 7, 3) := by decide +kernel
theorem dX4_init_12 : decode cX4_init 12 = .ok (.aload_n 0, 1) := by decide +kernel
theorem dX4_init_13 : decode cX4_init 13 = .ok (.bipush 7, 2) := by decide +kernel
theorem dX4_init_15 : decode cX4_init 15 = .ok (.newarray .int, 2) := by decide +kernel
theorem dX4_init_17 : decode cX4_init 17 = .ok (.putfield 13, 3) := by decide +kernel
theorem dX4_init_20 : decode cX4_init 20 = .ok (.aload_n 0, 1) := by decide +kernel
theorem dX4_init_21 : decode cX4_init 21 = .ok (.bipush 35, 2) := by decide +kernel
theorem dX4_init_23 : decode cX4_init 23 = .ok (.newarray .int, 2) := by decide +kernel
theorem dX4_init_25 : decode cX4_init 25 = .ok (.putfield 16, 3) := by decide +kernel
theorem dX4_init_28 : decode cX4_init 28 = .ok (.aload_n 0, 1) := by decide +kernel
theorem dX4_init_29 : decode cX4_init 29 = .ok (.bipush 35, 2) := by decide +kernel
theorem dX4_init_31 : decode cX4_init 31 = .ok (.newarray .int, 2) := by decide +kernel
theorem dX4_init_33 : decode cX4_init 33 = .ok (.putfield 19, 3) := by decide +kernel
theorem dX4_init_36 : decode cX4_init 36 = .ok (.aload_n 0, 1) := by decide +kernel
theorem dX4_init_37 : decode cX4_init 37 = .ok (.bipush 120, 2) := by decide +kernel
theorem dX4_init_39 : decode cX4_init 39 = .ok (.newarray .int, 2) := by decide +kernel
theorem dX4_init_41 : decode cX4_init 41 = .ok (.putfield 22, 3) := by decide +kernel
theorem dX4_init_44 : decode cX4_init 44 = .ok (.aload_n 0, 1) := by decide +kernel
theorem dX4_init_45 : decode cX4_init 45 = .ok (.iconst 4, 1) := by decide +kernel
theorem dX4_init_46 : decode cX4_init 46 = .ok (.newarray .int, 2) := by decide +kernel
theorem dX4_init_48 : decode cX4_init 48 = .ok (.putfield 25, 3) := by decide +kernel
theorem dX4_init_51 : decode cX4_init 51 = .ok (.aload_n 0, 1) := by decide +kernel
theorem dX4_init_52 : decode cX4_init 52 = .ok (.iconst 4, 1) := by decide +kernel
theorem dX4_init_53 : decode cX4_init 53 = .ok (.newarray .int, 2) := by decide +kernel
theorem dX4_init_55 : decode cX4_init 55 = .ok (.putfield 28, 3) := by decide +kernel
theorem dX4_init_58 : decode cX4_init 58 = .ok (.aload_n 0, 1) := by decide +kernel
theorem dX4_init_59 : decode cX4_init 59 = .ok (.sipush 160, 3) := by decide +kernel
theorem dX4_init_62 : decode cX4_init 62 = .ok (.newarray .long, 2) := by decide +kernel
theorem dX4_init_64 : decode cX4_init 64 = .ok (.putfield 31, 3) := by decide +kernel
theorem dX4_init_67 : decode cX4_init 67 = .ok (.aload_n 0, 1) := by decide +kernel
theorem dX4_init_68 : decode cX4_init 68 = .ok (.bipush 40, 2) := by decide +kernel
theorem dX4_init_70 : decode cX4_init 70 = .ok (.newarray .long, 2) := by decide +kernel
theorem dX4_init_72 : decode cX4_init 72 = .ok (.putfield 35, 3) := by decide +kernel
theorem dX4_init_75 : decode cX4_init 75 = .ok (.aload_n 0, 1) := by decide +kernel
theorem dX4_init_76 : decode cX4_init 76 = .ok (.bipush 35, 2) := by decide +kernel
theorem dX4_init_78 : decode cX4_init 78 = .ok (.newarray .int, 2) := by decide +kernel
theorem dX4_init_80 : decode cX4_init 80 = .ok (.putfield 38, 3) := by decide +kernel
theorem dX4_init_83 : decode cX4_init 83 = .ok (.aload_n 0, 1) := by decide +kernel
theorem dX4_init_84 : decode cX4_init 84 = .ok (.bipush 35, 2) := by decide +kernel
theorem dX4_init_86 : decode cX4_init 86 = .ok (.newarray .int, 2) := by decide +kernel
theorem dX4_init_88 : decode cX4_init 88 = .ok (.putfield 41, 3) := by decide +kernel
theorem dX4_init_91 : decode cX4_init 91 = .ok (.aload_n 0, 1) := by decide +kernel
theorem dX4_init_92 : decode cX4_init 92 = .ok (.getfield 7, 3) := by decide +kernel
theorem dX4_init_95 : decode cX4_init 95 = .ok (.iconst 1, 1) := by decide +kernel
theorem dX4_init_96 : decode cX4_init 96 = .ok (.bipush 50, 2) := by decide +kernel
theorem dX4_init_98 : decode cX4_init 98 = .ok (.iastore, 1) := by decide +kernel
theorem dX4_init_99 : decode cX4_init 99 = .ok (.return_, 1) := by decide +kernel
theorem dX4_in_0 : decode cX4_in 0 = .ok (.iload_n 0, 1) := by decide +kernel
theorem dX4_in_1 : decode cX4_in 1 = .ok (.iload_n 1, 1) := by decide +kernel
theorem dX4_in_2 : decode cX4_in 2 = .ok (.if_icmp .lt 12, 3) := by decide +kernel
theorem dX4_in_5 : decode cX4_in 5 = .ok (.iload_n 0, 1) := by decide +kernel
theorem dX4_in_6 : decode cX4_in 6 = .ok (.iload_n 2, 1) := by decide +kernel
theorem dX4_in_7 : decode cX4_in 7 = .ok (.if_icmp .gt 7, 3) := by decide +kernel
theorem dX4_in_10 : decode cX4_in 10 = .ok (.iconst 1, 1) := by decide +kernel
theorem dX4_in_11 : decode cX4_in 11 = .ok (.goto 4, 3) := by decide +kernel
theorem dX4_in_14 : decode cX4_in 14 = .ok (.iconst 0, 1) := by decide +kernel
theorem dX4_in_15 : decode cX4_in 15 = .ok (.ireturn, 1) := by decide +kernel
theorem dX4_finds_0 : decode cX4_finds 0 = .ok (.aload_n 0, 1) := by decide +kernel
theorem dX4_finds_1 : decode cX4_finds 1 = .ok (.getfield 13, 3) := by decide +kernel
theorem dX4_finds_4 : decode cX4_finds 4 = .ok (.ldc 44, 2) := by decide +kernel
theorem dX4_finds_6 : decode cX4_finds 6 = .ok (.iload_n 1, 1) := by decide +kernel
theorem dX4_finds_7 : decode cX4_finds 7 = .ok (.isub, 1) := by decide +kernel
theorem dX4_finds_8 : decode cX4_finds 8 = .ok (.dup2, 1) := by decide +kernel
theorem dX4_finds_9 : decode cX4_finds 9 = .ok (.iaload, 1) := by decide +kernel
theorem dX4_finds_10 : decode cX4_finds 10 = .ok (.iconst 1, 1) := by decide +kernel
theorem dX4_finds_11 : decode cX4_finds 11 = .ok (.iadd, 1) := by decide +kernel
theorem dX4_finds_12 : decode cX4_finds 12 = .ok (.iastore, 1) := by decide +kernel
theorem dX4_finds_13 : decode cX4_finds 13 = .ok (.iload_n 1, 1) := by decide +kernel
theorem dX4_finds_14 : decode cX4_finds 14 = .ok (.ireturn, 1) := by decide +kernel
theorem dX4_held_0 : decode cX4_held 0 = .ok (.iload_n 0, 1) := by decide +kernel
theorem dX4_held_1 : decode cX4_held 1 = .ok (.iload_n 1, 1) := by decide +kernel
theorem dX4_held_2 : decode cX4_held 2 = .ok (.if_icmp .ge 7, 3) := by decide +kernel
theorem dX4_held_5 : decode cX4_held 5 = .ok (.iload_n 1, 1) := by decide +kernel
theorem dX4_held_6 : decode cX4_held 6 = .ok (.goto 13, 3) := by decide +kernel
theorem dX4_held_9 : decode cX4_held 9 = .ok (.iload_n 0, 1) := by decide +kernel
theorem dX4_held_10 : decode cX4_held 10 = .ok (.iload_n 2, 1) := by decide +kernel
theorem dX4_held_11 : decode cX4_held 11 = .ok (.if_icmp .le 7, 3) := by decide +kernel
theorem dX4_held_14 : decode cX4_held 14 = .ok (.iload_n 2, 1) := by decide +kernel
theorem dX4_held_15 : decode cX4_held 15 = .ok (.goto 4, 3) := by decide +kernel
theorem dX4_held_18 : decode cX4_held 18 = .ok (.iload_n 0, 1) := by decide +kernel
theorem dX4_held_19 : decode cX4_held 19 = .ok (.ireturn, 1) := by decide +kernel
theorem dX4_lesser_0 : decode cX4_lesser 0 = .ok (.iload_n 0, 1) := by decide +kernel
theorem dX4_lesser_1 : decode cX4_lesser 1 = .ok (.iload_n 1, 1) := by decide +kernel
theorem dX4_lesser_2 : decode cX4_lesser 2 = .ok (.if_icmp .ge 7, 3) := by decide +kernel
theorem dX4_lesser_5 : decode cX4_lesser 5 = .ok (.iload_n 0, 1) := by decide +kernel
theorem dX4_lesser_6 : decode cX4_lesser 6 = .ok (.goto 4, 3) := by decide +kernel
theorem dX4_lesser_9 : decode cX4_lesser 9 = .ok (.iload_n 1, 1) := by decide +kernel
theorem dX4_lesser_10 : decode cX4_lesser 10 = .ok (.ireturn, 1) := by decide +kernel
theorem dX4_its_0 : decode cX4_its 0 = .ok (.aload_n 0, 1) := by decide +kernel
theorem dX4_its_1 : decode cX4_its 1 = .ok (.getfield 7, 3) := by decide +kernel
theorem dX4_its_4 : decode cX4_its 4 = .ok (.iconst 3, 1) := by decide +kernel
theorem dX4_its_5 : decode cX4_its 5 = .ok (.iconst 4, 1) := by decide +kernel
theorem dX4_its_6 : decode cX4_its 6 = .ok (.iload_n 1, 1) := by decide +kernel
theorem dX4_its_7 : decode cX4_its 7 = .ok (.imul, 1) := by decide +kernel
theorem dX4_its_8 : decode cX4_its 8 = .ok (.iadd, 1) := by decide +kernel
theorem dX4_its_9 : decode cX4_its 9 = .ok (.iload_n 2, 1) := by decide +kernel
theorem dX4_its_10 : decode cX4_its 10 = .ok (.iadd, 1) := by decide +kernel
theorem dX4_its_11 : decode cX4_its 11 = .ok (.iaload, 1) := by decide +kernel
theorem dX4_its_12 : decode cX4_its 12 = .ok (.ireturn, 1) := by decide +kernel
theorem dX4_puts_0 : decode cX4_puts 0 = .ok (.aload_n 0, 1) := by decide +kernel
theorem dX4_puts_1 : decode cX4_puts 1 = .ok (.getfield 7, 3) := by decide +kernel
theorem dX4_puts_4 : decode cX4_puts 4 = .ok (.iconst 3, 1) := by decide +kernel
theorem dX4_puts_5 : decode cX4_puts 5 = .ok (.iconst 4, 1) := by decide +kernel
theorem dX4_puts_6 : decode cX4_puts 6 = .ok (.iload_n 1, 1) := by decide +kernel
theorem dX4_puts_7 : decode cX4_puts 7 = .ok (.imul, 1) := by decide +kernel
theorem dX4_puts_8 : decode cX4_puts 8 = .ok (.iadd, 1) := by decide +kernel
theorem dX4_puts_9 : decode cX4_puts 9 = .ok (.iload_n 2, 1) := by decide +kernel
theorem dX4_puts_10 : decode cX4_puts 10 = .ok (.iadd, 1) := by decide +kernel
theorem dX4_puts_11 : decode cX4_puts 11 = .ok (.iload_n 3, 1) := by decide +kernel
theorem dX4_puts_12 : decode cX4_puts 12 = .ok (.iastore, 1) := by decide +kernel
theorem dX4_puts_13 : decode cX4_puts 13 = .ok (.return_, 1) := by decide +kernel
theorem dX4_becomes_0 : decode cX4_becomes 0 = .ok (.aload_n 0, 1) := by decide +kernel
theorem dX4_becomes_1 : decode cX4_becomes 1 = .ok (.getfield 7, 3) := by decide +kernel
theorem dX4_becomes_4 : decode cX4_becomes 4 = .ok (.iload_n 1, 1) := by decide +kernel
theorem dX4_becomes_5 : decode cX4_becomes 5 = .ok (.iaload, 1) := by decide +kernel
theorem dX4_becomes_6 : decode cX4_becomes 6 = .ok (.istore_n 3, 1) := by decide +kernel
theorem dX4_becomes_7 : decode cX4_becomes 7 = .ok (.aload_n 0, 1) := by decide +kernel
theorem dX4_becomes_8 : decode cX4_becomes 8 = .ok (.getfield 7, 3) := by decide +kernel
theorem dX4_becomes_11 : decode cX4_becomes 11 = .ok (.iload_n 1, 1) := by decide +kernel
theorem dX4_becomes_12 : decode cX4_becomes 12 = .ok (.iload_n 2, 1) := by decide +kernel
theorem dX4_becomes_13 : decode cX4_becomes 13 = .ok (.iastore, 1) := by decide +kernel
theorem dX4_becomes_14 : decode cX4_becomes 14 = .ok (.iload_n 3, 1) := by decide +kernel
theorem dX4_becomes_15 : decode cX4_becomes 15 = .ok (.ireturn, 1) := by decide +kernel
theorem dX4_isOne_0 : decode cX4_isOne 0 = .ok (.iload_n 1, 1) := by decide +kernel
theorem dX4_isOne_1 : decode cX4_isOne 1 = .ok (.iconst 0, 1) := by decide +kernel
theorem dX4_isOne_2 : decode cX4_isOne 2 = .ok (.aload_n 0, 1) := by decide +kernel
theorem dX4_isOne_3 : decode cX4_isOne 3 = .ok (.getfield 7, 3) := by decide +kernel
theorem dX4_isOne_6 : decode cX4_isOne 6 = .ok (.iconst 2, 1) := by decide +kernel
theorem dX4_isOne_7 : decode cX4_isOne 7 = .ok (.iaload, 1) := by decide +kernel
theorem dX4_isOne_8 : decode cX4_isOne 8 = .ok (.iconst 1, 1) := by decide +kernel
theorem dX4_isOne_9 : decode cX4_isOne 9 = .ok (.isub, 1) := by decide +kernel
theorem dX4_isOne_10 : decode cX4_isOne 10 = .ok (.invokestatic 45, 3) := by decide +kernel
theorem dX4_isOne_13 : decode cX4_isOne 13 = .ok (.ireturn, 1) := by decide +kernel
theorem dX4_isKind_0 : decode cX4_isKind 0 = .ok (.iload_n 0, 1) := by decide +kernel
theorem dX4_isKind_1 : decode cX4_isKind 1 = .ok (.iconst 0, 1) := by decide +kernel
theorem dX4_isKind_2 : decode cX4_isKind 2 = .ok (.iconst 5, 1) := by decide +kernel
theorem dX4_isKind_3 : decode cX4_isKind 3 = .ok (.invokestatic 45, 3) := by decide +kernel
theorem dX4_isKind_6 : decode cX4_isKind 6 = .ok (.ireturn, 1) := by decide +kernel
theorem dX4_next_0 : decode cX4_next 0 = .ok (.iload_n 1, 1) := by decide +kernel
theorem dX4_next_1 : decode cX4_next 1 = .ok (.iconst 1, 1) := by decide +kernel
theorem dX4_next_2 : decode cX4_next 2 = .ok (.iadd, 1) := by decide +kernel
theorem dX4_next_3 : decode cX4_next 3 = .ok (.aload_n 0, 1) := by decide +kernel
theorem dX4_next_4 : decode cX4_next 4 = .ok (.getfield 7, 3) := by decide +kernel
theorem dX4_next_7 : decode cX4_next 7 = .ok (.iconst 2, 1) := by decide +kernel
theorem dX4_next_8 : decode cX4_next 8 = .ok (.iaload, 1) := by decide +kernel
theorem dX4_next_9 : decode cX4_next 9 = .ok (.irem, 1) := by decide +kernel
theorem dX4_next_10 : decode cX4_next 10 = .ok (.ireturn, 1) := by decide +kernel
theorem dX4_isDusk_0 : decode cX4_isDusk 0 = .ok (.aload_n 0, 1) := by decide +kernel
theorem dX4_isDusk_1 : decode cX4_isDusk 1 = .ok (.getfield 7, 3) := by decide +kernel
theorem dX4_isDusk_4 : decode cX4_isDusk 4 = .ok (.iconst 0, 1) := by decide +kernel
theorem dX4_isDusk_5 : decode cX4_isDusk 5 = .ok (.iaload, 1) := by decide +kernel
theorem dX4_isDusk_6 : decode cX4_isDusk 6 = .ok (.bipush 60, 2) := by decide +kernel
theorem dX4_isDusk_8 : decode cX4_isDusk 8 = .ok (.irem, 1) := by decide +kernel
theorem dX4_isDusk_9 : decode cX4_isDusk 9 = .ok (.aload_n 0, 1) := by decide +kernel
theorem dX4_isDusk_10 : decode cX4_isDusk 10 = .ok (.getfield 7, 3) := by decide +kernel
theorem dX4_isDusk_13 : decode cX4_isDusk 13 = .ok (.iconst 1, 1) := by decide +kernel
theorem dX4_isDusk_14 : decode cX4_isDusk 14 = .ok (.iaload, 1) := by decide +kernel
theorem dX4_isDusk_15 : decode cX4_isDusk 15 = .ok (.if_icmp .lt 7, 3) := by decide +kernel
theorem dX4_isDusk_18 : decode cX4_isDusk 18 = .ok (.iconst 1, 1) := by decide +kernel
theorem dX4_isDusk_19 : decode cX4_isDusk 19 = .ok (.goto 4, 3) := by decide +kernel
theorem dX4_isDusk_22 : decode cX4_isDusk 22 = .ok (.iconst 0, 1) := by decide +kernel
theorem dX4_isDusk_23 : decode cX4_isDusk 23 = .ok (.ireturn, 1) := by decide +kernel
theorem dX4_isSaturday_0 : decode cX4_isSaturday 0 = .ok (.aload_n 0, 1) := by decide +kernel
theorem dX4_isSaturday_1 : decode cX4_isSaturday 1 = .ok (.getfield 7, 3) := by decide +kernel
theorem dX4_isSaturday_4 : decode cX4_isSaturday 4 = .ok (.iconst 0, 1) := by decide +kernel
theorem dX4_isSaturday_5 : decode cX4_isSaturday 5 = .ok (.iaload, 1) := by decide +kernel
theorem dX4_isSaturday_6 : decode cX4_isSaturday 6 = .ok (.bipush 60, 2) := by decide +kernel
theorem dX4_isSaturday_8 : decode cX4_isSaturday 8 = .ok (.idiv, 1) := by decide +kernel
theorem dX4_isSaturday_9 : decode cX4_isSaturday 9 = .ok (.bipush 7, 2) := by decide +kernel
theorem dX4_isSaturday_11 : decode cX4_isSaturday 11 = .ok (.irem, 1) := by decide +kernel
theorem dX4_isSaturday_12 : decode cX4_isSaturday 12 = .ok (.iconst 5, 1) := by decide +kernel
theorem dX4_isSaturday_13 : decode cX4_isSaturday 13 = .ok (.if_icmp .ne 7, 3) := by decide +kernel
theorem dX4_isSaturday_16 : decode cX4_isSaturday 16 = .ok (.iconst 1, 1) := by decide +kernel
theorem dX4_isSaturday_17 : decode cX4_isSaturday 17 = .ok (.goto 4, 3) := by decide +kernel
theorem dX4_isSaturday_20 : decode cX4_isSaturday 20 = .ok (.iconst 0, 1) := by decide +kernel
theorem dX4_isSaturday_21 : decode cX4_isSaturday 21 = .ok (.ireturn, 1) := by decide +kernel
theorem dX4_dark_0 : decode cX4_dark 0 = .ok (.iload_n 1, 1) := by decide +kernel
theorem dX4_dark_1 : decode cX4_dark 1 = .ok (.iconst 0, 1) := by decide +kernel
theorem dX4_dark_2 : decode cX4_dark 2 = .ok (.bipush 59, 2) := by decide +kernel
theorem dX4_dark_4 : decode cX4_dark 4 = .ok (.invokestatic 45, 3) := by decide +kernel
theorem dX4_dark_7 : decode cX4_dark 7 = .ok (.ifCond .eq 12, 3) := by decide +kernel
theorem dX4_dark_10 : decode cX4_dark 10 = .ok (.aload_n 0, 1) := by decide +kernel
theorem dX4_dark_11 : decode cX4_dark 11 = .ok (.iconst 1, 1) := by decide +kernel
theorem dX4_dark_12 : decode cX4_dark 12 = .ok (.iload_n 1, 1) := by decide +kernel
theorem dX4_dark_13 : decode cX4_dark 13 = .ok (.invokevirtual 49, 3) := by decide +kernel
theorem dX4_dark_16 : decode cX4_dark 16 = .ok (.goto 9, 3) := by decide +kernel
theorem dX4_dark_19 : decode cX4_dark 19 = .ok (.aload_n 0, 1) := by decide +kernel
theorem dX4_dark_20 : decode cX4_dark 20 = .ok (.ldc 44, 2) := by decide +kernel
theorem dX4_dark_22 : decode cX4_dark 22 = .ok (.invokevirtual 53, 3) := by decide +kernel
theorem dX4_dark_25 : decode cX4_dark 25 = .ok (.ireturn, 1) := by decide +kernel
theorem dX4_sumOf_0 : decode cX4_sumOf 0 = .ok (.iconst 0, 1) := by decide +kernel
theorem dX4_sumOf_1 : decode cX4_sumOf 1 = .ok (.istore_n 2, 1) := by decide +kernel
theorem dX4_sumOf_2 : decode cX4_sumOf 2 = .ok (.iconst 0, 1) := by decide +kernel
theorem dX4_sumOf_3 : decode cX4_sumOf 3 = .ok (.istore_n 3, 1) := by decide +kernel
theorem dX4_sumOf_4 : decode cX4_sumOf 4 = .ok (.iload_n 3, 1) := by decide +kernel
theorem dX4_sumOf_5 : decode cX4_sumOf 5 = .ok (.aload_n 0, 1) := by decide +kernel
theorem dX4_sumOf_6 : decode cX4_sumOf 6 = .ok (.getfield 7, 3) := by decide +kernel
theorem dX4_sumOf_9 : decode cX4_sumOf 9 = .ok (.iconst 2, 1) := by decide +kernel
theorem dX4_sumOf_10 : decode cX4_sumOf 10 = .ok (.iaload, 1) := by decide +kernel
theorem dX4_sumOf_11 : decode cX4_sumOf 11 = .ok (.if_icmp .ge 18, 3) := by decide +kernel
theorem dX4_sumOf_14 : decode cX4_sumOf 14 = .ok (.iload_n 2, 1) := by decide +kernel
theorem dX4_sumOf_15 : decode cX4_sumOf 15 = .ok (.aload_n 0, 1) := by decide +kernel
theorem dX4_sumOf_16 : decode cX4_sumOf 16 = .ok (.iload_n 3, 1) := by decide +kernel
theorem dX4_sumOf_17 : decode cX4_sumOf 17 = .ok (.iload_n 1, 1) := by decide +kernel
theorem dX4_sumOf_18 : decode cX4_sumOf 18 = .ok (.invokevirtual 57, 3) := by decide +kernel
theorem dX4_sumOf_21 : decode cX4_sumOf 21 = .ok (.iadd, 1) := by decide +kernel
theorem dX4_sumOf_22 : decode cX4_sumOf 22 = .ok (.istore_n 2, 1) := by decide +kernel
theorem dX4_sumOf_23 : decode cX4_sumOf 23 = .ok (.iinc 3 1, 3) := by decide +kernel
theorem dX4_sumOf_26 : decode cX4_sumOf 26 = .ok (.goto (-22), 3) := by decide +kernel
theorem dX4_sumOf_29 : decode cX4_sumOf 29 = .ok (.iload_n 2, 1) := by decide +kernel
theorem dX4_sumOf_30 : decode cX4_sumOf 30 = .ok (.ireturn, 1) := by decide +kernel
theorem dX4_mostOf_0 : decode cX4_mostOf 0 = .ok (.iconst (-1), 1) := by decide +kernel
theorem dX4_mostOf_1 : decode cX4_mostOf 1 = .ok (.istore_n 2, 1) := by decide +kernel
theorem dX4_mostOf_2 : decode cX4_mostOf 2 = .ok (.iconst 0, 1) := by decide +kernel
theorem dX4_mostOf_3 : decode cX4_mostOf 3 = .ok (.istore_n 3, 1) := by decide +kernel
theorem dX4_mostOf_4 : decode cX4_mostOf 4 = .ok (.iload_n 3, 1) := by decide +kernel
theorem dX4_mostOf_5 : decode cX4_mostOf 5 = .ok (.aload_n 0, 1) := by decide +kernel
theorem dX4_mostOf_6 : decode cX4_mostOf 6 = .ok (.getfield 7, 3) := by decide +kernel
theorem dX4_mostOf_9 : decode cX4_mostOf 9 = .ok (.iconst 2, 1) := by decide +kernel
theorem dX4_mostOf_10 : decode cX4_mostOf 10 = .ok (.iaload, 1) := by decide +kernel
theorem dX4_mostOf_11 : decode cX4_mostOf 11 = .ok (.if_icmp .ge 34, 3) := by decide +kernel
theorem dX4_mostOf_14 : decode cX4_mostOf 14 = .ok (.iload_n 2, 1) := by decide +kernel
theorem dX4_mostOf_15 : decode cX4_mostOf 15 = .ok (.ifCond .lt 18, 3) := by decide +kernel
theorem dX4_mostOf_18 : decode cX4_mostOf 18 = .ok (.aload_n 0, 1) := by decide +kernel
theorem dX4_mostOf_19 : decode cX4_mostOf 19 = .ok (.iload_n 3, 1) := by decide +kernel
theorem dX4_mostOf_20 : decode cX4_mostOf 20 = .ok (.iload_n 1, 1) := by decide +kernel
theorem dX4_mostOf_21 : decode cX4_mostOf 21 = .ok (.invokevirtual 57, 3) := by decide +kernel
theorem dX4_mostOf_24 : decode cX4_mostOf 24 = .ok (.aload_n 0, 1) := by decide +kernel
theorem dX4_mostOf_25 : decode cX4_mostOf 25 = .ok (.iload_n 2, 1) := by decide +kernel
theorem dX4_mostOf_26 : decode cX4_mostOf 26 = .ok (.iload_n 1, 1) := by decide +kernel
theorem dX4_mostOf_27 : decode cX4_mostOf 27 = .ok (.invokevirtual 57, 3) := by decide +kernel
theorem dX4_mostOf_30 : decode cX4_mostOf 30 = .ok (.if_icmp .le 7, 3) := by decide +kernel
theorem dX4_mostOf_33 : decode cX4_mostOf 33 = .ok (.iload_n 3, 1) := by decide +kernel
theorem dX4_mostOf_34 : decode cX4_mostOf 34 = .ok (.goto 4, 3) := by decide +kernel
theorem dX4_mostOf_37 : decode cX4_mostOf 37 = .ok (.iload_n 2, 1) := by decide +kernel
theorem dX4_mostOf_38 : decode cX4_mostOf 38 = .ok (.istore_n 2, 1) := by decide +kernel
theorem dX4_mostOf_39 : decode cX4_mostOf 39 = .ok (.iinc 3 1, 3) := by decide +kernel
theorem dX4_mostOf_42 : decode cX4_mostOf 42 = .ok (.goto (-38), 3) := by decide +kernel
theorem dX4_mostOf_45 : decode cX4_mostOf 45 = .ok (.iload_n 2, 1) := by decide +kernel
theorem dX4_mostOf_46 : decode cX4_mostOf 46 = .ok (.ireturn, 1) := by decide +kernel
theorem dX4_lowest_0 : decode cX4_lowest 0 = .ok (.iconst (-1), 1) := by decide +kernel
theorem dX4_lowest_1 : decode cX4_lowest 1 = .ok (.istore_n 1, 1) := by decide +kernel
theorem dX4_lowest_2 : decode cX4_lowest 2 = .ok (.iconst 0, 1) := by decide +kernel
theorem dX4_lowest_3 : decode cX4_lowest 3 = .ok (.istore_n 2, 1) := by decide +kernel
theorem dX4_lowest_4 : decode cX4_lowest 4 = .ok (.iload_n 2, 1) := by decide +kernel
theorem dX4_lowest_5 : decode cX4_lowest 5 = .ok (.aload_n 0, 1) := by decide +kernel
theorem dX4_lowest_6 : decode cX4_lowest 6 = .ok (.getfield 7, 3) := by decide +kernel
theorem dX4_lowest_9 : decode cX4_lowest 9 = .ok (.iconst 2, 1) := by decide +kernel
theorem dX4_lowest_10 : decode cX4_lowest 10 = .ok (.iaload, 1) := by decide +kernel
theorem dX4_lowest_11 : decode cX4_lowest 11 = .ok (.if_icmp .ge 34, 3) := by decide +kernel
theorem dX4_lowest_14 : decode cX4_lowest 14 = .ok (.iload_n 1, 1) := by decide +kernel
theorem dX4_lowest_15 : decode cX4_lowest 15 = .ok (.ifCond .lt 18, 3) := by decide +kernel
theorem dX4_lowest_18 : decode cX4_lowest 18 = .ok (.aload_n 0, 1) := by decide +kernel
theorem dX4_lowest_19 : decode cX4_lowest 19 = .ok (.iload_n 2, 1) := by decide +kernel
theorem dX4_lowest_20 : decode cX4_lowest 20 = .ok (.iconst 1, 1) := by decide +kernel
theorem dX4_lowest_21 : decode cX4_lowest 21 = .ok (.invokevirtual 57, 3) := by decide +kernel
theorem dX4_lowest_24 : decode cX4_lowest 24 = .ok (.aload_n 0, 1) := by decide +kernel
theorem dX4_lowest_25 : decode cX4_lowest 25 = .ok (.iload_n 1, 1) := by decide +kernel
theorem dX4_lowest_26 : decode cX4_lowest 26 = .ok (.iconst 1, 1) := by decide +kernel
theorem dX4_lowest_27 : decode cX4_lowest 27 = .ok (.invokevirtual 57, 3) := by decide +kernel
theorem dX4_lowest_30 : decode cX4_lowest 30 = .ok (.if_icmp .ge 7, 3) := by decide +kernel
theorem dX4_lowest_33 : decode cX4_lowest 33 = .ok (.iload_n 2, 1) := by decide +kernel
theorem dX4_lowest_34 : decode cX4_lowest 34 = .ok (.goto 4, 3) := by decide +kernel
theorem dX4_lowest_37 : decode cX4_lowest 37 = .ok (.iload_n 1, 1) := by decide +kernel
theorem dX4_lowest_38 : decode cX4_lowest 38 = .ok (.istore_n 1, 1) := by decide +kernel
theorem dX4_lowest_39 : decode cX4_lowest 39 = .ok (.iinc 2 1, 3) := by decide +kernel
theorem dX4_lowest_42 : decode cX4_lowest 42 = .ok (.goto (-38), 3) := by decide +kernel
theorem dX4_lowest_45 : decode cX4_lowest 45 = .ok (.iload_n 1, 1) := by decide +kernel
theorem dX4_lowest_46 : decode cX4_lowest 46 = .ok (.ireturn, 1) := by decide +kernel
theorem dX4_difference_0 : decode cX4_difference 0 = .ok (.aload_n 0, 1) := by decide +kernel
theorem dX4_difference_1 : decode cX4_difference 1 = .ok (.getfield 7, 3) := by decide +kernel
theorem dX4_difference_4 : decode cX4_difference 4 = .ok (.iconst 2, 1) := by decide +kernel
theorem dX4_difference_5 : decode cX4_difference 5 = .ok (.iaload, 1) := by decide +kernel
theorem dX4_difference_6 : decode cX4_difference 6 = .ok (.ifCond .ne 7, 3) := by decide +kernel
theorem dX4_difference_9 : decode cX4_difference 9 = .ok (.iconst 0, 1) := by decide +kernel
theorem dX4_difference_10 : decode cX4_difference 10 = .ok (.goto 23, 3) := by decide +kernel
theorem dX4_difference_13 : decode cX4_difference 13 = .ok (.aload_n 0, 1) := by decide +kernel
theorem dX4_difference_14 : decode cX4_difference 14 = .ok (.aload_n 0, 1) := by decide +kernel
theorem dX4_difference_15 : decode cX4_difference 15 = .ok (.iconst 1, 1) := by decide +kernel
theorem dX4_difference_16 : decode cX4_difference 16 = .ok (.invokevirtual 60, 3) := by decide +kernel
theorem dX4_difference_19 : decode cX4_difference 19 = .ok (.iconst 1, 1) := by decide +kernel
theorem dX4_difference_20 : decode cX4_difference 20 = .ok (.invokevirtual 57, 3) := by decide +kernel
theorem dX4_difference_23 : decode cX4_difference 23 = .ok (.aload_n 0, 1) := by decide +kernel
theorem dX4_difference_24 : decode cX4_difference 24 = .ok (.aload_n 0, 1) := by decide +kernel
theorem dX4_difference_25 : decode cX4_difference 25 = .ok (.invokevirtual 63, 3) := by decide +kernel
theorem dX4_difference_28 : decode cX4_difference 28 = .ok (.iconst 1, 1) := by decide +kernel
theorem dX4_difference_29 : decode cX4_difference 29 = .ok (.invokevirtual 57, 3) := by decide +kernel
theorem dX4_difference_32 : decode cX4_difference 32 = .ok (.isub, 1) := by decide +kernel
theorem dX4_difference_33 : decode cX4_difference 33 = .ok (.ireturn, 1) := by decide +kernel
theorem dX4_dustSet_0 : decode cX4_dustSet 0 = .ok (.iconst 0, 1) := by decide +kernel
theorem dX4_dustSet_1 : decode cX4_dustSet 1 = .ok (.istore_n 1, 1) := by decide +kernel
theorem dX4_dustSet_2 : decode cX4_dustSet 2 = .ok (.iconst 0, 1) := by decide +kernel
theorem dX4_dustSet_3 : decode cX4_dustSet 3 = .ok (.istore_n 2, 1) := by decide +kernel
theorem dX4_dustSet_4 : decode cX4_dustSet 4 = .ok (.iload_n 2, 1) := by decide +kernel
theorem dX4_dustSet_5 : decode cX4_dustSet 5 = .ok (.aload_n 0, 1) := by decide +kernel
theorem dX4_dustSet_6 : decode cX4_dustSet 6 = .ok (.getfield 7, 3) := by decide +kernel
theorem dX4_dustSet_9 : decode cX4_dustSet 9 = .ok (.iconst 2, 1) := by decide +kernel
theorem dX4_dustSet_10 : decode cX4_dustSet 10 = .ok (.iaload, 1) := by decide +kernel
theorem dX4_dustSet_11 : decode cX4_dustSet 11 = .ok (.if_icmp .ge 28, 3) := by decide +kernel
theorem dX4_dustSet_14 : decode cX4_dustSet 14 = .ok (.iload_n 1, 1) := by decide +kernel
theorem dX4_dustSet_15 : decode cX4_dustSet 15 = .ok (.aload_n 0, 1) := by decide +kernel
theorem dX4_dustSet_16 : decode cX4_dustSet 16 = .ok (.iload_n 2, 1) := by decide +kernel
theorem dX4_dustSet_17 : decode cX4_dustSet 17 = .ok (.iconst 1, 1) := by decide +kernel
theorem dX4_dustSet_18 : decode cX4_dustSet 18 = .ok (.invokevirtual 57, 3) := by decide +kernel
theorem dX4_dustSet_21 : decode cX4_dustSet 21 = .ok (.ifCond .ne 9, 3) := by decide +kernel
theorem dX4_dustSet_24 : decode cX4_dustSet 24 = .ok (.iconst 1, 1) := by decide +kernel
theorem dX4_dustSet_25 : decode cX4_dustSet 25 = .ok (.iload_n 2, 1) := by decide +kernel
theorem dX4_dustSet_26 : decode cX4_dustSet 26 = .ok (.ishl, 1) := by decide +kernel
theorem dX4_dustSet_27 : decode cX4_dustSet 27 = .ok (.goto 4, 3) := by decide +kernel
theorem dX4_dustSet_30 : decode cX4_dustSet 30 = .ok (.iconst 0, 1) := by decide +kernel
theorem dX4_dustSet_31 : decode cX4_dustSet 31 = .ok (.ior, 1) := by decide +kernel
theorem dX4_dustSet_32 : decode cX4_dustSet 32 = .ok (.istore_n 1, 1) := by decide +kernel
theorem dX4_dustSet_33 : decode cX4_dustSet 33 = .ok (.iinc 2 1, 3) := by decide +kernel
theorem dX4_dustSet_36 : decode cX4_dustSet 36 = .ok (.goto (-32), 3) := by decide +kernel
theorem dX4_dustSet_39 : decode cX4_dustSet 39 = .ok (.iload_n 1, 1) := by decide +kernel
theorem dX4_dustSet_40 : decode cX4_dustSet 40 = .ok (.ireturn, 1) := by decide +kernel
theorem dX4_now_0 : decode cX4_now 0 = .ok (.iload_n 1, 1) := by decide +kernel
theorem dX4_now_1 : decode cX4_now 1 = .ok (.tableswitch 121 0 7 #[47, 54, 64, 77, 90, 96, 110, 115], 47) := by decide +kernel
theorem dX4_now_48 : decode cX4_now 48 = .ok (.aload_n 0, 1) := by decide +kernel
theorem dX4_now_49 : decode cX4_now 49 = .ok (.getfield 7, 3) := by decide +kernel
theorem dX4_now_52 : decode cX4_now 52 = .ok (.iconst 0, 1) := by decide +kernel
theorem dX4_now_53 : decode cX4_now 53 = .ok (.iaload, 1) := by decide +kernel
theorem dX4_now_54 : decode cX4_now 54 = .ok (.ireturn, 1) := by decide +kernel
theorem dX4_now_55 : decode cX4_now 55 = .ok (.aload_n 0, 1) := by decide +kernel
theorem dX4_now_56 : decode cX4_now 56 = .ok (.getfield 7, 3) := by decide +kernel
theorem dX4_now_59 : decode cX4_now 59 = .ok (.iconst 0, 1) := by decide +kernel
theorem dX4_now_60 : decode cX4_now 60 = .ok (.iaload, 1) := by decide +kernel
theorem dX4_now_61 : decode cX4_now 61 = .ok (.bipush 60, 2) := by decide +kernel
theorem dX4_now_63 : decode cX4_now 63 = .ok (.irem, 1) := by decide +kernel
theorem dX4_now_64 : decode cX4_now 64 = .ok (.ireturn, 1) := by decide +kernel
theorem dX4_now_65 : decode cX4_now 65 = .ok (.aload_n 0, 1) := by decide +kernel
theorem dX4_now_66 : decode cX4_now 66 = .ok (.invokevirtual 67, 3) := by decide +kernel
theorem dX4_now_69 : decode cX4_now 69 = .ok (.ifCond .eq 7, 3) := by decide +kernel
theorem dX4_now_72 : decode cX4_now 72 = .ok (.iconst 1, 1) := by decide +kernel
theorem dX4_now_73 : decode cX4_now 73 = .ok (.goto 4, 3) := by decide +kernel
theorem dX4_now_76 : decode cX4_now 76 = .ok (.iconst 0, 1) := by decide +kernel
theorem dX4_now_77 : decode cX4_now 77 = .ok (.ireturn, 1) := by decide +kernel
theorem dX4_now_78 : decode cX4_now 78 = .ok (.aload_n 0, 1) := by decide +kernel
theorem dX4_now_79 : decode cX4_now 79 = .ok (.invokevirtual 71, 3) := by decide +kernel
theorem dX4_now_82 : decode cX4_now 82 = .ok (.ifCond .eq 7, 3) := by decide +kernel
theorem dX4_now_85 : decode cX4_now 85 = .ok (.iconst 1, 1) := by decide +kernel
theorem dX4_now_86 : decode cX4_now 86 = .ok (.goto 4, 3) := by decide +kernel
theorem dX4_now_89 : decode cX4_now 89 = .ok (.iconst 0, 1) := by decide +kernel
theorem dX4_now_90 : decode cX4_now 90 = .ok (.ireturn, 1) := by decide +kernel
theorem dX4_now_91 : decode cX4_now 91 = .ok (.aload_n 0, 1) := by decide +kernel
theorem dX4_now_92 : decode cX4_now 92 = .ok (.iconst 1, 1) := by decide +kernel
theorem dX4_now_93 : decode cX4_now 93 = .ok (.invokevirtual 74, 3) := by decide +kernel
theorem dX4_now_96 : decode cX4_now 96 = .ok (.ireturn, 1) := by decide +kernel
theorem dX4_now_97 : decode cX4_now 97 = .ok (.aload_n 0, 1) := by decide +kernel
theorem dX4_now_98 : decode cX4_now 98 = .ok (.invokevirtual 77, 3) := by decide +kernel
theorem dX4_now_101 : decode cX4_now 101 = .ok (.iconst 2, 1) := by decide +kernel
theorem dX4_now_102 : decode cX4_now 102 = .ok (.if_icmp .ge 7, 3) := by decide +kernel
theorem dX4_now_105 : decode cX4_now 105 = .ok (.iconst 1, 1) := by decide +kernel
theorem dX4_now_106 : decode cX4_now 106 = .ok (.goto 4, 3) := by decide +kernel
theorem dX4_now_109 : decode cX4_now 109 = .ok (.iconst 0, 1) := by decide +kernel
theorem dX4_now_110 : decode cX4_now 110 = .ok (.ireturn, 1) := by decide +kernel
theorem dX4_now_111 : decode cX4_now 111 = .ok (.aload_n 0, 1) := by decide +kernel
theorem dX4_now_112 : decode cX4_now 112 = .ok (.invokevirtual 80, 3) := by decide +kernel
theorem dX4_now_115 : decode cX4_now 115 = .ok (.ireturn, 1) := by decide +kernel
theorem dX4_now_116 : decode cX4_now 116 = .ok (.aload_n 0, 1) := by decide +kernel
theorem dX4_now_117 : decode cX4_now 117 = .ok (.iconst 1, 1) := by decide +kernel
theorem dX4_now_118 : decode cX4_now 118 = .ok (.invokevirtual 60, 3) := by decide +kernel
theorem dX4_now_121 : decode cX4_now 121 = .ok (.ireturn, 1) := by decide +kernel
theorem dX4_now_122 : decode cX4_now 122 = .ok (.aload_n 0, 1) := by decide +kernel
theorem dX4_now_123 : decode cX4_now 123 = .ok (.ldc 44, 2) := by decide +kernel
theorem dX4_now_125 : decode cX4_now 125 = .ok (.invokevirtual 53, 3) := by decide +kernel
theorem dX4_now_128 : decode cX4_now 128 = .ok (.ireturn, 1) := by decide +kernel
theorem dX4_wants_0 : decode cX4_wants 0 = .ok (.aload_n 0, 1) := by decide +kernel
theorem dX4_wants_1 : decode cX4_wants 1 = .ok (.getfield 7, 3) := by decide +kernel
theorem dX4_wants_4 : decode cX4_wants 4 = .ok (.iconst 2, 1) := by decide +kernel
theorem dX4_wants_5 : decode cX4_wants 5 = .ok (.iaload, 1) := by decide +kernel
theorem dX4_wants_6 : decode cX4_wants 6 = .ok (.iconst 1, 1) := by decide +kernel
theorem dX4_wants_7 : decode cX4_wants 7 = .ok (.if_icmp .ne 5, 3) := by decide +kernel
theorem dX4_wants_10 : decode cX4_wants 10 = .ok (.iconst 0, 1) := by decide +kernel
theorem dX4_wants_11 : decode cX4_wants 11 = .ok (.ireturn, 1) := by decide +kernel
theorem dX4_wants_12 : decode cX4_wants 12 = .ok (.aload_n 0, 1) := by decide +kernel
theorem dX4_wants_13 : decode cX4_wants 13 = .ok (.iload_n 1, 1) := by decide +kernel
theorem dX4_wants_14 : decode cX4_wants 14 = .ok (.iconst 0, 1) := by decide +kernel
theorem dX4_wants_15 : decode cX4_wants 15 = .ok (.invokevirtual 57, 3) := by decide +kernel
theorem dX4_wants_18 : decode cX4_wants 18 = .ok (.tableswitch 95 1 5 #[34, 36, 38, 64, 78], 34) := by decide +kernel
theorem dX4_wants_52 : decode cX4_wants 52 = .ok (.iconst 5, 1) := by decide +kernel
theorem dX4_wants_53 : decode cX4_wants 53 = .ok (.ireturn, 1) := by decide +kernel
theorem dX4_wants_54 : decode cX4_wants 54 = .ok (.iconst 1, 1) := by decide +kernel
theorem dX4_wants_55 : decode cX4_wants 55 = .ok (.ireturn, 1) := by decide +kernel
theorem dX4_wants_56 : decode cX4_wants 56 = .ok (.aload_n 0, 1) := by decide +kernel
theorem dX4_wants_57 : decode cX4_wants 57 = .ok (.aload_n 0, 1) := by decide +kernel
theorem dX4_wants_58 : decode cX4_wants 58 = .ok (.iload_n 1, 1) := by decide +kernel
theorem dX4_wants_59 : decode cX4_wants 59 = .ok (.invokevirtual 83, 3) := by decide +kernel
theorem dX4_wants_62 : decode cX4_wants 62 = .ok (.iconst 1, 1) := by decide +kernel
theorem dX4_wants_63 : decode cX4_wants 63 = .ok (.invokevirtual 57, 3) := by decide +kernel
theorem dX4_wants_66 : decode cX4_wants 66 = .ok (.aload_n 0, 1) := by decide +kernel
theorem dX4_wants_67 : decode cX4_wants 67 = .ok (.iload_n 1, 1) := by decide +kernel
theorem dX4_wants_68 : decode cX4_wants 68 = .ok (.iconst 1, 1) := by decide +kernel
theorem dX4_wants_69 : decode cX4_wants 69 = .ok (.invokevirtual 57, 3) := by decide +kernel
theorem dX4_wants_72 : decode cX4_wants 72 = .ok (.if_icmp .ge 8, 3) := by decide +kernel
theorem dX4_wants_75 : decode cX4_wants 75 = .ok (.bipush (-3), 2) := by decide +kernel
theorem dX4_wants_77 : decode cX4_wants 77 = .ok (.goto 4, 3) := by decide +kernel
theorem dX4_wants_80 : decode cX4_wants 80 = .ok (.iconst 0, 1) := by decide +kernel
theorem dX4_wants_81 : decode cX4_wants 81 = .ok (.ireturn, 1) := by decide +kernel
theorem dX4_wants_82 : decode cX4_wants 82 = .ok (.aload_n 0, 1) := by decide +kernel
theorem dX4_wants_83 : decode cX4_wants 83 = .ok (.invokevirtual 71, 3) := by decide +kernel
theorem dX4_wants_86 : decode cX4_wants 86 = .ok (.ifCond .eq 8, 3) := by decide +kernel
theorem dX4_wants_89 : decode cX4_wants 89 = .ok (.bipush 10, 2) := by decide +kernel
theorem dX4_wants_91 : decode cX4_wants 91 = .ok (.goto 4, 3) := by decide +kernel
theorem dX4_wants_94 : decode cX4_wants 94 = .ok (.iconst 5, 1) := by decide +kernel
theorem dX4_wants_95 : decode cX4_wants 95 = .ok (.ireturn, 1) := by decide +kernel
theorem dX4_wants_96 : decode cX4_wants 96 = .ok (.aload_n 0, 1) := by decide +kernel
theorem dX4_wants_97 : decode cX4_wants 97 = .ok (.iload_n 1, 1) := by decide +kernel
theorem dX4_wants_98 : decode cX4_wants 98 = .ok (.iconst 1, 1) := by decide +kernel
theorem dX4_wants_99 : decode cX4_wants 99 = .ok (.invokevirtual 57, 3) := by decide +kernel
theorem dX4_wants_102 : decode cX4_wants 102 = .ok (.bipush 60, 2) := by decide +kernel
theorem dX4_wants_104 : decode cX4_wants 104 = .ok (.if_icmp .le 7, 3) := by decide +kernel
theorem dX4_wants_107 : decode cX4_wants 107 = .ok (.iconst 0, 1) := by decide +kernel
theorem dX4_wants_108 : decode cX4_wants 108 = .ok (.goto 4, 3) := by decide +kernel
theorem dX4_wants_111 : decode cX4_wants 111 = .ok (.iconst 1, 1) := by decide +kernel
theorem dX4_wants_112 : decode cX4_wants 112 = .ok (.ireturn, 1) := by decide +kernel
theorem dX4_wants_113 : decode cX4_wants 113 = .ok (.iconst 2, 1) := by decide +kernel
theorem dX4_wants_114 : decode cX4_wants 114 = .ok (.ireturn, 1) := by decide +kernel
theorem dX4_pays_0 : decode cX4_pays 0 = .ok (.aload_n 0, 1) := by decide +kernel
theorem dX4_pays_1 : decode cX4_pays 1 = .ok (.iload_n 1, 1) := by decide +kernel
theorem dX4_pays_2 : decode cX4_pays 2 = .ok (.iconst 0, 1) := by decide +kernel
theorem dX4_pays_3 : decode cX4_pays 3 = .ok (.invokevirtual 57, 3) := by decide +kernel
theorem dX4_pays_6 : decode cX4_pays 6 = .ok (.iconst 2, 1) := by decide +kernel
theorem dX4_pays_7 : decode cX4_pays 7 = .ok (.if_icmp .ne 7, 3) := by decide +kernel
theorem dX4_pays_10 : decode cX4_pays 10 = .ok (.iconst 1, 1) := by decide +kernel
theorem dX4_pays_11 : decode cX4_pays 11 = .ok (.goto 4, 3) := by decide +kernel
theorem dX4_pays_14 : decode cX4_pays 14 = .ok (.iconst 0, 1) := by decide +kernel
theorem dX4_pays_15 : decode cX4_pays 15 = .ok (.ireturn, 1) := by decide +kernel
theorem dX4_yields_0 : decode cX4_yields 0 = .ok (.aload_n 0, 1) := by decide +kernel
theorem dX4_yields_1 : decode cX4_yields 1 = .ok (.iload_n 1, 1) := by decide +kernel
theorem dX4_yields_2 : decode cX4_yields 2 = .ok (.iconst 0, 1) := by decide +kernel
theorem dX4_yields_3 : decode cX4_yields 3 = .ok (.invokevirtual 57, 3) := by decide +kernel
theorem dX4_yields_6 : decode cX4_yields 6 = .ok (.tableswitch 59 1 5 #[34, 36, 39, 46, 36], 34) := by decide +kernel
theorem dX4_yields_40 : decode cX4_yields 40 = .ok (.iconst 2, 1) := by decide +kernel
theorem dX4_yields_41 : decode cX4_yields 41 = .ok (.ireturn, 1) := by decide +kernel
theorem dX4_yields_42 : decode cX4_yields 42 = .ok (.bipush 8, 2) := by decide +kernel
theorem dX4_yields_44 : decode cX4_yields 44 = .ok (.ireturn, 1) := by decide +kernel
theorem dX4_yields_45 : decode cX4_yields 45 = .ok (.aload_n 0, 1) := by decide +kernel
theorem dX4_yields_46 : decode cX4_yields 46 = .ok (.iload_n 1, 1) := by decide +kernel
theorem dX4_yields_47 : decode cX4_yields 47 = .ok (.iconst 1, 1) := by decide +kernel
theorem dX4_yields_48 : decode cX4_yields 48 = .ok (.invokevirtual 57, 3) := by decide +kernel
theorem dX4_yields_51 : decode cX4_yields 51 = .ok (.ireturn, 1) := by decide +kernel
theorem dX4_yields_52 : decode cX4_yields 52 = .ok (.aload_n 0, 1) := by decide +kernel
theorem dX4_yields_53 : decode cX4_yields 53 = .ok (.invokevirtual 71, 3) := by decide +kernel
theorem dX4_yields_56 : decode cX4_yields 56 = .ok (.ifCond .eq 7, 3) := by decide +kernel
theorem dX4_yields_59 : decode cX4_yields 59 = .ok (.iconst 0, 1) := by decide +kernel
theorem dX4_yields_60 : decode cX4_yields 60 = .ok (.goto 4, 3) := by decide +kernel
theorem dX4_yields_63 : decode cX4_yields 63 = .ok (.iconst 2, 1) := by decide +kernel
theorem dX4_yields_64 : decode cX4_yields 64 = .ok (.ireturn, 1) := by decide +kernel
theorem dX4_yields_65 : decode cX4_yields 65 = .ok (.iconst 4, 1) := by decide +kernel
theorem dX4_yields_66 : decode cX4_yields 66 = .ok (.ireturn, 1) := by decide +kernel
theorem dX4_adds_0 : decode cX4_adds 0 = .ok (.aload_n 0, 1) := by decide +kernel
theorem dX4_adds_1 : decode cX4_adds 1 = .ok (.getfield 7, 3) := by decide +kernel
theorem dX4_adds_4 : decode cX4_adds 4 = .ok (.iconst 2, 1) := by decide +kernel
theorem dX4_adds_5 : decode cX4_adds 5 = .ok (.iaload, 1) := by decide +kernel
theorem dX4_adds_6 : decode cX4_adds 6 = .ok (.istore 4, 2) := by decide +kernel
theorem dX4_adds_8 : decode cX4_adds 8 = .ok (.aload_n 0, 1) := by decide +kernel
theorem dX4_adds_9 : decode cX4_adds 9 = .ok (.iload 4, 2) := by decide +kernel
theorem dX4_adds_11 : decode cX4_adds 11 = .ok (.iconst 0, 1) := by decide +kernel
theorem dX4_adds_12 : decode cX4_adds 12 = .ok (.iload_n 1, 1) := by decide +kernel
theorem dX4_adds_13 : decode cX4_adds 13 = .ok (.invokevirtual 86, 3) := by decide +kernel
theorem dX4_adds_16 : decode cX4_adds 16 = .ok (.aload_n 0, 1) := by decide +kernel
theorem dX4_adds_17 : decode cX4_adds 17 = .ok (.iload 4, 2) := by decide +kernel
theorem dX4_adds_19 : decode cX4_adds 19 = .ok (.iconst 1, 1) := by decide +kernel
theorem dX4_adds_20 : decode cX4_adds 20 = .ok (.iload_n 2, 1) := by decide +kernel
theorem dX4_adds_21 : decode cX4_adds 21 = .ok (.invokevirtual 86, 3) := by decide +kernel
theorem dX4_adds_24 : decode cX4_adds 24 = .ok (.aload_n 0, 1) := by decide +kernel
theorem dX4_adds_25 : decode cX4_adds 25 = .ok (.iload 4, 2) := by decide +kernel
theorem dX4_adds_27 : decode cX4_adds 27 = .ok (.iconst 2, 1) := by decide +kernel
theorem dX4_adds_28 : decode cX4_adds 28 = .ok (.iload_n 3, 1) := by decide +kernel
theorem dX4_adds_29 : decode cX4_adds 29 = .ok (.invokevirtual 86, 3) := by decide +kernel
theorem dX4_adds_32 : decode cX4_adds 32 = .ok (.aload_n 0, 1) := by decide +kernel
theorem dX4_adds_33 : decode cX4_adds 33 = .ok (.iload 4, 2) := by decide +kernel
theorem dX4_adds_35 : decode cX4_adds 35 = .ok (.iconst 3, 1) := by decide +kernel
theorem dX4_adds_36 : decode cX4_adds 36 = .ok (.iconst 0, 1) := by decide +kernel
theorem dX4_adds_37 : decode cX4_adds 37 = .ok (.invokevirtual 86, 3) := by decide +kernel
theorem dX4_adds_40 : decode cX4_adds 40 = .ok (.aload_n 0, 1) := by decide +kernel
theorem dX4_adds_41 : decode cX4_adds 41 = .ok (.getfield 7, 3) := by decide +kernel
theorem dX4_adds_44 : decode cX4_adds 44 = .ok (.iconst 2, 1) := by decide +kernel
theorem dX4_adds_45 : decode cX4_adds 45 = .ok (.dup2, 1) := by decide +kernel
theorem dX4_adds_46 : decode cX4_adds 46 = .ok (.iaload, 1) := by decide +kernel
theorem dX4_adds_47 : decode cX4_adds 47 = .ok (.iconst 1, 1) := by decide +kernel
theorem dX4_adds_48 : decode cX4_adds 48 = .ok (.iadd, 1) := by decide +kernel
theorem dX4_adds_49 : decode cX4_adds 49 = .ok (.iastore, 1) := by decide +kernel
theorem dX4_adds_50 : decode cX4_adds 50 = .ok (.return_, 1) := by decide +kernel
theorem dX4_child_0 : decode cX4_child 0 = .ok (.iload_n 1, 1) := by decide +kernel
theorem dX4_child_1 : decode cX4_child 1 = .ok (.invokestatic 90, 3) := by decide +kernel
theorem dX4_child_4 : decode cX4_child 4 = .ok (.ifCond .ne 10, 3) := by decide +kernel
theorem dX4_child_7 : decode cX4_child 7 = .ok (.aload_n 0, 1) := by decide +kernel
theorem dX4_child_8 : decode cX4_child 8 = .ok (.ldc 44, 2) := by decide +kernel
theorem dX4_child_10 : decode cX4_child 10 = .ok (.invokevirtual 53, 3) := by decide +kernel
theorem dX4_child_13 : decode cX4_child 13 = .ok (.ireturn, 1) := by decide +kernel
theorem dX4_child_14 : decode cX4_child 14 = .ok (.aload_n 0, 1) := by decide +kernel
theorem dX4_child_15 : decode cX4_child 15 = .ok (.getfield 7, 3) := by decide +kernel
theorem dX4_child_18 : decode cX4_child 18 = .ok (.iconst 2, 1) := by decide +kernel
theorem dX4_child_19 : decode cX4_child 19 = .ok (.iaload, 1) := by decide +kernel
theorem dX4_child_20 : decode cX4_child 20 = .ok (.bipush 8, 2) := by decide +kernel
theorem dX4_child_22 : decode cX4_child 22 = .ok (.if_icmp .ne 10, 3) := by decide +kernel
theorem dX4_child_25 : decode cX4_child 25 = .ok (.aload_n 0, 1) := by decide +kernel
theorem dX4_child_26 : decode cX4_child 26 = .ok (.ldc 94, 2) := by decide +kernel
theorem dX4_child_28 : decode cX4_child 28 = .ok (.invokevirtual 53, 3) := by decide +kernel
theorem dX4_child_31 : decode cX4_child 31 = .ok (.ireturn, 1) := by decide +kernel
theorem dX4_child_32 : decode cX4_child 32 = .ok (.aload_n 0, 1) := by decide +kernel
theorem dX4_child_33 : decode cX4_child 33 = .ok (.iload_n 1, 1) := by decide +kernel
theorem dX4_child_34 : decode cX4_child 34 = .ok (.bipush 50, 2) := by decide +kernel
theorem dX4_child_36 : decode cX4_child 36 = .ok (.iconst 5, 1) := by decide +kernel
theorem dX4_child_37 : decode cX4_child 37 = .ok (.invokevirtual 95, 3) := by decide +kernel
theorem dX4_child_40 : decode cX4_child 40 = .ok (.aload_n 0, 1) := by decide +kernel
theorem dX4_child_41 : decode cX4_child 41 = .ok (.getfield 7, 3) := by decide +kernel
theorem dX4_child_44 : decode cX4_child 44 = .ok (.iconst 2, 1) := by decide +kernel
theorem dX4_child_45 : decode cX4_child 45 = .ok (.iaload, 1) := by decide +kernel
theorem dX4_child_46 : decode cX4_child 46 = .ok (.iconst 1, 1) := by decide +kernel
theorem dX4_child_47 : decode cX4_child 47 = .ok (.isub, 1) := by decide +kernel
theorem dX4_child_48 : decode cX4_child 48 = .ok (.ireturn, 1) := by decide +kernel
theorem dX4_of_0 : decode cX4_of 0 = .ok (.aload_n 0, 1) := by decide +kernel
theorem dX4_of_1 : decode cX4_of 1 = .ok (.iload_n 1, 1) := by decide +kernel
theorem dX4_of_2 : decode cX4_of 2 = .ok (.invokevirtual 98, 3) := by decide +kernel
theorem dX4_of_5 : decode cX4_of 5 = .ok (.ifCond .eq 13, 3) := by decide +kernel
theorem dX4_of_8 : decode cX4_of 8 = .ok (.iload_n 2, 1) := by decide +kernel
theorem dX4_of_9 : decode cX4_of 9 = .ok (.iconst 0, 1) := by decide +kernel
theorem dX4_of_10 : decode cX4_of 10 = .ok (.bipush 6, 2) := by decide +kernel
theorem dX4_of_12 : decode cX4_of 12 = .ok (.invokestatic 45, 3) := by decide +kernel
theorem dX4_of_15 : decode cX4_of 15 = .ok (.ifCond .ne 10, 3) := by decide +kernel
theorem dX4_of_18 : decode cX4_of 18 = .ok (.aload_n 0, 1) := by decide +kernel
theorem dX4_of_19 : decode cX4_of 19 = .ok (.ldc 44, 2) := by decide +kernel
theorem dX4_of_21 : decode cX4_of 21 = .ok (.invokevirtual 53, 3) := by decide +kernel
theorem dX4_of_24 : decode cX4_of 24 = .ok (.ireturn, 1) := by decide +kernel
theorem dX4_of_25 : decode cX4_of 25 = .ok (.iload_n 2, 1) := by decide +kernel
theorem dX4_of_26 : decode cX4_of 26 = .ok (.tableswitch 61 3 6 #[30, 40, 49, 55], 30) := by decide +kernel
theorem dX4_of_56 : decode cX4_of 56 = .ok (.ldc 101, 2) := by decide +kernel
theorem dX4_of_58 : decode cX4_of 58 = .ok (.aload_n 0, 1) := by decide +kernel
theorem dX4_of_59 : decode cX4_of 59 = .ok (.iload_n 1, 1) := by decide +kernel
theorem dX4_of_60 : decode cX4_of 60 = .ok (.iconst 3, 1) := by decide +kernel
theorem dX4_of_61 : decode cX4_of 61 = .ok (.invokevirtual 57, 3) := by decide +kernel
theorem dX4_of_64 : decode cX4_of 64 = .ok (.iadd, 1) := by decide +kernel
theorem dX4_of_65 : decode cX4_of 65 = .ok (.ireturn, 1) := by decide +kernel
theorem dX4_of_66 : decode cX4_of 66 = .ok (.bipush 100, 2) := by decide +kernel
theorem dX4_of_68 : decode cX4_of 68 = .ok (.aload_n 0, 1) := by decide +kernel
theorem dX4_of_69 : decode cX4_of 69 = .ok (.iload_n 1, 1) := by decide +kernel
theorem dX4_of_70 : decode cX4_of 70 = .ok (.invokevirtual 102, 3) := by decide +kernel
theorem dX4_of_73 : decode cX4_of 73 = .ok (.iadd, 1) := by decide +kernel
theorem dX4_of_74 : decode cX4_of 74 = .ok (.ireturn, 1) := by decide +kernel
theorem dX4_of_75 : decode cX4_of 75 = .ok (.aload_n 0, 1) := by decide +kernel
theorem dX4_of_76 : decode cX4_of 76 = .ok (.iload_n 1, 1) := by decide +kernel
theorem dX4_of_77 : decode cX4_of 77 = .ok (.invokevirtual 105, 3) := by decide +kernel
theorem dX4_of_80 : decode cX4_of 80 = .ok (.ireturn, 1) := by decide +kernel
theorem dX4_of_81 : decode cX4_of 81 = .ok (.aload_n 0, 1) := by decide +kernel
theorem dX4_of_82 : decode cX4_of 82 = .ok (.iload_n 1, 1) := by decide +kernel
theorem dX4_of_83 : decode cX4_of 83 = .ok (.invokevirtual 108, 3) := by decide +kernel
theorem dX4_of_86 : decode cX4_of 86 = .ok (.ireturn, 1) := by decide +kernel
theorem dX4_of_87 : decode cX4_of 87 = .ok (.aload_n 0, 1) := by decide +kernel
theorem dX4_of_88 : decode cX4_of 88 = .ok (.iload_n 1, 1) := by decide +kernel
theorem dX4_of_89 : decode cX4_of 89 = .ok (.iload_n 2, 1) := by decide +kernel
theorem dX4_of_90 : decode cX4_of 90 = .ok (.invokevirtual 57, 3) := by decide +kernel
theorem dX4_of_93 : decode cX4_of 93 = .ok (.ireturn, 1) := by decide +kernel
theorem dX4_isPart_0 : decode cX4_isPart 0 = .ok (.iload_n 0, 1) := by decide +kernel
theorem dX4_isPart_1 : decode cX4_isPart 1 = .ok (.lookupswitch 44 #[(1, 27), (2, 36)], 27) := by decide +kernel
theorem dX4_isPart_28 : decode cX4_isPart 28 = .ok (.iload_n 1, 1) := by decide +kernel
theorem dX4_isPart_29 : decode cX4_isPart 29 = .ok (.iconst 0, 1) := by decide +kernel
theorem dX4_isPart_30 : decode cX4_isPart 30 = .ok (.sipush 200, 3) := by decide +kernel
theorem dX4_isPart_33 : decode cX4_isPart 33 = .ok (.invokestatic 45, 3) := by decide +kernel
theorem dX4_isPart_36 : decode cX4_isPart 36 = .ok (.ireturn, 1) := by decide +kernel
theorem dX4_isPart_37 : decode cX4_isPart 37 = .ok (.iload_n 1, 1) := by decide +kernel
theorem dX4_isPart_38 : decode cX4_isPart 38 = .ok (.iconst 0, 1) := by decide +kernel
theorem dX4_isPart_39 : decode cX4_isPart 39 = .ok (.bipush 99, 2) := by decide +kernel
theorem dX4_isPart_41 : decode cX4_isPart 41 = .ok (.invokestatic 45, 3) := by decide +kernel
theorem dX4_isPart_44 : decode cX4_isPart 44 = .ok (.ireturn, 1) := by decide +kernel
theorem dX4_isPart_45 : decode cX4_isPart 45 = .ok (.iload_n 0, 1) := by decide +kernel
theorem dX4_isPart_46 : decode cX4_isPart 46 = .ok (.iconst 3, 1) := by decide +kernel
theorem dX4_isPart_47 : decode cX4_isPart 47 = .ok (.if_icmp .ne 20, 3) := by decide +kernel
theorem dX4_isPart_50 : decode cX4_isPart 50 = .ok (.iload_n 1, 1) := by decide +kernel
theorem dX4_isPart_51 : decode cX4_isPart 51 = .ok (.sipush (-9999), 3) := by decide +kernel
theorem dX4_isPart_54 : decode cX4_isPart 54 = .ok (.sipush 9999, 3) := by decide +kernel
theorem dX4_isPart_57 : decode cX4_isPart 57 = .ok (.invokestatic 45, 3) := by decide +kernel
theorem dX4_isPart_60 : decode cX4_isPart 60 = .ok (.ifCond .eq 7, 3) := by decide +kernel
theorem dX4_isPart_63 : decode cX4_isPart 63 = .ok (.iconst 1, 1) := by decide +kernel
theorem dX4_isPart_64 : decode cX4_isPart 64 = .ok (.goto 4, 3) := by decide +kernel
theorem dX4_isPart_67 : decode cX4_isPart 67 = .ok (.iconst 0, 1) := by decide +kernel
theorem dX4_isPart_68 : decode cX4_isPart 68 = .ok (.ireturn, 1) := by decide +kernel
