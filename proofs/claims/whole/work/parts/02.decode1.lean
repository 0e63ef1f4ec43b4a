theorem dX0_init_0 : decode cX0_init 0 = .ok (.aload_n 0, 1) := by decide +kernel
theorem dX0_init_1 : decode cX0_init 1 = .ok (.invokespecial 1, 3) := by decide +kernel
theorem dX0_init_4 : decode cX0_init 4 = .ok (.aload_n 0, 1) := by decide +kernel
theorem dX0_init_5 : decode cX0_init 5 = .ok (.iconst 0, 1) := by decide +kernel
theorem dX0_init_6 : decode cX0_init 6 = .ok (.putfield 7, 3) := by decide +kernel
theorem dX0_init_9 : decode cX0_init 9 = .ok (.aload_n 0, 1) := by decide +kernel
theorem dX0_init_10 : decode cX0_init 10 = .ok (.bipush 50, 2) := by decide +kernel
theorem dX0_init_12 : decode cX0_init 12 = .ok (.putfield 13, 3) := by decide +kernel
theorem dX0_init_15 : decode cX0_init 15 = .ok (.aload_n 0, 1) := by decide +kernel
theorem dX0_init_16 : decode cX0_init 16 = .ok (.iconst 0, 1) := by decide +kernel
theorem dX0_init_17 : decode cX0_init 17 = .ok (.putfield 16, 3) := by decide +kernel
theorem dX0_init_20 : decode cX0_init 20 = .ok (.aload_n 0, 1) := by decide +kernel
theorem dX0_init_21 : decode cX0_init 21 = .ok (.bipush 8, 2) := by decide +kernel
theorem dX0_init_23 : decode cX0_init 23 = .ok (.newarray .int, 2) := by decide +kernel
theorem dX0_init_25 : decode cX0_init 25 = .ok (.putfield 19, 3) := by decide +kernel
theorem dX0_init_28 : decode cX0_init 28 = .ok (.aload_n 0, 1) := by decide +kernel
theorem dX0_init_29 : decode cX0_init 29 = .ok (.bipush 8, 2) := by decide +kernel
theorem dX0_init_31 : decode cX0_init 31 = .ok (.newarray .int, 2) := by decide +kernel
theorem dX0_init_33 : decode cX0_init 33 = .ok (.putfield 23, 3) := by decide +kernel
theorem dX0_init_36 : decode cX0_init 36 = .ok (.aload_n 0, 1) := by decide +kernel
theorem dX0_init_37 : decode cX0_init 37 = .ok (.bipush 8, 2) := by decide +kernel
theorem dX0_init_39 : decode cX0_init 39 = .ok (.newarray .int, 2) := by decide +kernel
theorem dX0_init_41 : decode cX0_init 41 = .ok (.putfield 26, 3) := by decide +kernel
theorem dX0_init_44 : decode cX0_init 44 = .ok (.aload_n 0, 1) := by decide +kernel
theorem dX0_init_45 : decode cX0_init 45 = .ok (.bipush 8, 2) := by decide +kernel
theorem dX0_init_47 : decode cX0_init 47 = .ok (.newarray .int, 2) := by decide +kernel
theorem dX0_init_49 : decode cX0_init 49 = .ok (.putfield 29, 3) := by decide +kernel
theorem dX0_init_52 : decode cX0_init 52 = .ok (.return_, 1) := by decide +kernel
theorem dX0_becomeLike_0 : decode cX0_becomeLike 0 = .ok (.aload_n 0, 1) := by decide +kernel
theorem dX0_becomeLike_1 : decode cX0_becomeLike 1 = .ok (.aload_n 1, 1) := by decide +kernel
theorem dX0_becomeLike_2 : decode cX0_becomeLike 2 = .ok (.getfield 7, 3) := by decide +kernel
theorem dX0_becomeLike_5 : decode cX0_becomeLike 5 = .ok (.putfield 7, 3) := by decide +kernel
theorem dX0_becomeLike_8 : decode cX0_becomeLike 8 = .ok (.aload_n 0, 1) := by decide +kernel
theorem dX0_becomeLike_9 : decode cX0_becomeLike 9 = .ok (.aload_n 1, 1) := by decide +kernel
theorem dX0_becomeLike_10 : decode cX0_becomeLike 10 = .ok (.getfield 13, 3) := by decide +kernel
theorem dX0_becomeLike_13 : decode cX0_becomeLike 13 = .ok (.putfield 13, 3) := by decide +kernel
theorem dX0_becomeLike_16 : decode cX0_becomeLike 16 = .ok (.aload_n 0, 1) := by decide +kernel
theorem dX0_becomeLike_17 : decode cX0_becomeLike 17 = .ok (.aload_n 1, 1) := by decide +kernel
theorem dX0_becomeLike_18 : decode cX0_becomeLike 18 = .ok (.getfield 16, 3) := by decide +kernel
theorem dX0_becomeLike_21 : decode cX0_becomeLike 21 = .ok (.putfield 16, 3) := by decide +kernel
theorem dX0_becomeLike_24 : decode cX0_becomeLike 24 = .ok (.aload_n 1, 1) := by decide +kernel
theorem dX0_becomeLike_25 : decode cX0_becomeLike 25 = .ok (.getfield 19, 3) := by decide +kernel
theorem dX0_becomeLike_28 : decode cX0_becomeLike 28 = .ok (.iconst 0, 1) := by decide +kernel
theorem dX0_becomeLike_29 : decode cX0_becomeLike 29 = .ok (.aload_n 0, 1) := by decide +kernel
theorem dX0_becomeLike_30 : decode cX0_becomeLike 30 = .ok (.getfield 19, 3) := by decide +kernel
theorem dX0_becomeLike_33 : decode cX0_becomeLike 33 = .ok (.iconst 0, 1) := by decide +kernel
theorem dX0_becomeLike_34 : decode cX0_becomeLike 34 = .ok (.aload_n 0, 1) := by decide +kernel
theorem dX0_becomeLike_35 : decode cX0_becomeLike 35 = .ok (.getfield 16, 3) := by decide +kernel
theorem dX0_becomeLike_38 : decode cX0_becomeLike 38 = .ok (.invokestatic 32, 3) := by decide +kernel
theorem dX0_becomeLike_41 : decode cX0_becomeLike 41 = .ok (.aload_n 1, 1) := by decide +kernel
theorem dX0_becomeLike_42 : decode cX0_becomeLike 42 = .ok (.getfield 23, 3) := by decide +kernel
theorem dX0_becomeLike_45 : decode cX0_becomeLike 45 = .ok (.iconst 0, 1) := by decide +kernel
theorem dX0_becomeLike_46 : decode cX0_becomeLike 46 = .ok (.aload_n 0, 1) := by decide +kernel
theorem dX0_becomeLike_47 : decode cX0_becomeLike 47 = .ok (.getfield 23, 3) := by decide +kernel
theorem dX0_becomeLike_50 : decode cX0_becomeLike 50 = .ok (.iconst 0, 1) := by decide +kernel
theorem dX0_becomeLike_51 : decode cX0_becomeLike 51 = .ok (.aload_n 0, 1) := by decide +kernel
theorem dX0_becomeLike_52 : decode cX0_becomeLike 52 = .ok (.getfield 16, 3) := by decide +kernel
theorem dX0_becomeLike_55 : decode cX0_becomeLike 55 = .ok (.invokestatic 32, 3) := by decide +kernel
theorem dX0_becomeLike_58 : decode cX0_becomeLike 58 = .ok (.aload_n 1, 1) := by decide +kernel
theorem dX0_becomeLike_59 : decode cX0_becomeLike 59 = .ok (.getfield 26, 3) := by decide +kernel
theorem dX0_becomeLike_62 : decode cX0_becomeLike 62 = .ok (.iconst 0, 1) := by decide +kernel
theorem dX0_becomeLike_63 : decode cX0_becomeLike 63 = .ok (.aload_n 0, 1) := by decide +kernel
theorem dX0_becomeLike_64 : decode cX0_becomeLike 64 = .ok (.getfield 26, 3) := by decide +kernel
theorem dX0_becomeLike_67 : decode cX0_becomeLike 67 = .ok (.iconst 0, 1) := by decide +kernel
theorem dX0_becomeLike_68 : decode cX0_becomeLike 68 = .ok (.aload_n 0, 1) := by decide +kernel
theorem dX0_becomeLike_69 : decode cX0_becomeLike 69 = .ok (.getfield 16, 3) := by decide +kernel
theorem dX0_becomeLike_72 : decode cX0_becomeLike 72 = .ok (.invokestatic 32, 3) := by decide +kernel
theorem dX0_becomeLike_75 : decode cX0_becomeLike 75 = .ok (.aload_n 1, 1) := by decide +kernel
theorem dX0_becomeLike_76 : decode cX0_becomeLike 76 = .ok (.getfield 29, 3) := by decide +kernel
theorem dX0_becomeLike_79 : decode cX0_becomeLike 79 = .ok (.iconst 0, 1) := by decide +kernel
theorem dX0_becomeLike_80 : decode cX0_becomeLike 80 = .ok (.aload_n 0, 1) := by decide +kernel
theorem dX0_becomeLike_81 : decode cX0_becomeLike 81 = .ok (.getfield 29, 3) := by decide +kernel
theorem dX0_becomeLike_84 : decode cX0_becomeLike 84 = .ok (.iconst 0, 1) := by decide +kernel
theorem dX0_becomeLike_85 : decode cX0_becomeLike 85 = .ok (.aload_n 0, 1) := by decide +kernel
theorem dX0_becomeLike_86 : decode cX0_becomeLike 86 = .ok (.getfield 16, 3) := by decide +kernel
theorem dX0_becomeLike_89 : decode cX0_becomeLike 89 = .ok (.invokestatic 32, 3) := by decide +kernel
theorem dX0_becomeLike_92 : decode cX0_becomeLike 92 = .ok (.return_, 1) := by decide +kernel
theorem dX0_isOfKind_0 : decode cX0_isOfKind 0 = .ok (.iload_n 0, 1) := by decide +kernel
theorem dX0_isOfKind_1 : decode cX0_isOfKind 1 = .ok (.istore_n 2, 1) := by decide +kernel
theorem dX0_isOfKind_2 : decode cX0_isOfKind 2 = .ok (.iconst 0, 1) := by decide +kernel
theorem dX0_isOfKind_3 : decode cX0_isOfKind 3 = .ok (.istore_n 3, 1) := by decide +kernel
theorem dX0_isOfKind_4 : decode cX0_isOfKind 4 = .ok (.iload_n 3, 1) := by decide +kernel
theorem dX0_isOfKind_5 : decode cX0_isOfKind 5 = .ok (.bipush 6, 2) := by decide +kernel
theorem dX0_isOfKind_7 : decode cX0_isOfKind 7 = .ok (.if_icmp .ge 32, 3) := by decide +kernel
theorem dX0_isOfKind_10 : decode cX0_isOfKind 10 = .ok (.iload_n 2, 1) := by decide +kernel
theorem dX0_isOfKind_11 : decode cX0_isOfKind 11 = .ok (.ifCond .lt 28, 3) := by decide +kernel
theorem dX0_isOfKind_14 : decode cX0_isOfKind 14 = .ok (.iload_n 2, 1) := by decide +kernel
theorem dX0_isOfKind_15 : decode cX0_isOfKind 15 = .ok (.bipush 6, 2) := by decide +kernel
theorem dX0_isOfKind_17 : decode cX0_isOfKind 17 = .ok (.if_icmp .ge 22, 3) := by decide +kernel
theorem dX0_isOfKind_20 : decode cX0_isOfKind 20 = .ok (.iload_n 2, 1) := by decide +kernel
theorem dX0_isOfKind_21 : decode cX0_isOfKind 21 = .ok (.iload_n 1, 1) := by decide +kernel
theorem dX0_isOfKind_22 : decode cX0_isOfKind 22 = .ok (.if_icmp .ne 5, 3) := by decide +kernel
theorem dX0_isOfKind_25 : decode cX0_isOfKind 25 = .ok (.iconst 1, 1) := by decide +kernel
theorem dX0_isOfKind_26 : decode cX0_isOfKind 26 = .ok (.ireturn, 1) := by decide +kernel
theorem dX0_isOfKind_27 : decode cX0_isOfKind 27 = .ok (.getstatic 38, 3) := by decide +kernel
theorem dX0_isOfKind_30 : decode cX0_isOfKind 30 = .ok (.iload_n 2, 1) := by decide +kernel
theorem dX0_isOfKind_31 : decode cX0_isOfKind 31 = .ok (.iaload, 1) := by decide +kernel
theorem dX0_isOfKind_32 : decode cX0_isOfKind 32 = .ok (.istore_n 2, 1) := by decide +kernel
theorem dX0_isOfKind_33 : decode cX0_isOfKind 33 = .ok (.iinc 3 1, 3) := by decide +kernel
theorem dX0_isOfKind_36 : decode cX0_isOfKind 36 = .ok (.goto (-32), 3) := by decide +kernel
theorem dX0_isOfKind_39 : decode cX0_isOfKind 39 = .ok (.iconst 0, 1) := by decide +kernel
theorem dX0_isOfKind_40 : decode cX0_isOfKind 40 = .ok (.ireturn, 1) := by decide +kernel
theorem dX0_hasRoom_0 : decode cX0_hasRoom 0 = .ok (.aload_n 0, 1) := by decide +kernel
theorem dX0_hasRoom_1 : decode cX0_hasRoom 1 = .ok (.getfield 16, 3) := by decide +kernel
theorem dX0_hasRoom_4 : decode cX0_hasRoom 4 = .ok (.bipush 8, 2) := by decide +kernel
theorem dX0_hasRoom_6 : decode cX0_hasRoom 6 = .ok (.if_icmp .ge 7, 3) := by decide +kernel
theorem dX0_hasRoom_9 : decode cX0_hasRoom 9 = .ok (.iconst 1, 1) := by decide +kernel
theorem dX0_hasRoom_10 : decode cX0_hasRoom 10 = .ok (.goto 4, 3) := by decide +kernel
theorem dX0_hasRoom_13 : decode cX0_hasRoom 13 = .ok (.iconst 0, 1) := by decide +kernel
theorem dX0_hasRoom_14 : decode cX0_hasRoom 14 = .ok (.ireturn, 1) := by decide +kernel
theorem dX0_addOne_0 : decode cX0_addOne 0 = .ok (.aload_n 0, 1) := by decide +kernel
theorem dX0_addOne_1 : decode cX0_addOne 1 = .ok (.getfield 16, 3) := by decide +kernel
theorem dX0_addOne_4 : decode cX0_addOne 4 = .ok (.istore_n 2, 1) := by decide +kernel
theorem dX0_addOne_5 : decode cX0_addOne 5 = .ok (.aload_n 0, 1) := by decide +kernel
theorem dX0_addOne_6 : decode cX0_addOne 6 = .ok (.getfield 19, 3) := by decide +kernel
theorem dX0_addOne_9 : decode cX0_addOne 9 = .ok (.iload_n 2, 1) := by decide +kernel
theorem dX0_addOne_10 : decode cX0_addOne 10 = .ok (.iload_n 1, 1) := by decide +kernel
theorem dX0_addOne_11 : decode cX0_addOne 11 = .ok (.iastore, 1) := by decide +kernel
theorem dX0_addOne_12 : decode cX0_addOne 12 = .ok (.aload_n 0, 1) := by decide +kernel
theorem dX0_addOne_13 : decode cX0_addOne 13 = .ok (.getfield 23, 3) := by decide +kernel
theorem dX0_addOne_16 : decode cX0_addOne 16 = .ok (.iload_n 2, 1) := by decide +kernel
theorem dX0_addOne_17 : decode cX0_addOne 17 = .ok (.bipush 50, 2) := by decide +kernel
theorem dX0_addOne_19 : decode cX0_addOne 19 = .ok (.iastore, 1) := by decide +kernel
theorem dX0_addOne_20 : decode cX0_addOne 20 = .ok (.aload_n 0, 1) := by decide +kernel
theorem dX0_addOne_21 : decode cX0_addOne 21 = .ok (.getfield 26, 3) := by decide +kernel
theorem dX0_addOne_24 : decode cX0_addOne 24 = .ok (.iload_n 2, 1) := by decide +kernel
theorem dX0_addOne_25 : decode cX0_addOne 25 = .ok (.iconst 5, 1) := by decide +kernel
theorem dX0_addOne_26 : decode cX0_addOne 26 = .ok (.iastore, 1) := by decide +kernel
theorem dX0_addOne_27 : decode cX0_addOne 27 = .ok (.aload_n 0, 1) := by decide +kernel
theorem dX0_addOne_28 : decode cX0_addOne 28 = .ok (.getfield 29, 3) := by decide +kernel
theorem dX0_addOne_31 : decode cX0_addOne 31 = .ok (.iload_n 2, 1) := by decide +kernel
theorem dX0_addOne_32 : decode cX0_addOne 32 = .ok (.iconst 0, 1) := by decide +kernel
theorem dX0_addOne_33 : decode cX0_addOne 33 = .ok (.iastore, 1) := by decide +kernel
theorem dX0_addOne_34 : decode cX0_addOne 34 = .ok (.aload_n 0, 1) := by decide +kernel
theorem dX0_addOne_35 : decode cX0_addOne 35 = .ok (.dup, 1) := by decide +kernel
theorem dX0_addOne_36 : decode cX0_addOne 36 = .ok (.getfield 16, 3) := by decide +kernel
theorem dX0_addOne_39 : decode cX0_addOne 39 = .ok (.iconst 1, 1) := by decide +kernel
theorem dX0_addOne_40 : decode cX0_addOne 40 = .ok (.iadd, 1) := by decide +kernel
theorem dX0_addOne_41 : decode cX0_addOne 41 = .ok (.putfield 16, 3) := by decide +kernel
theorem dX0_addOne_44 : decode cX0_addOne 44 = .ok (.iload_n 2, 1) := by decide +kernel
theorem dX0_addOne_45 : decode cX0_addOne 45 = .ok (.ireturn, 1) := by decide +kernel
theorem dX0_shove_0 : decode cX0_shove 0 = .ok (.aload_n 0, 1) := by decide +kernel
theorem dX0_shove_1 : decode cX0_shove 1 = .ok (.getfield 23, 3) := by decide +kernel
theorem dX0_shove_4 : decode cX0_shove 4 = .ok (.iload_n 1, 1) := by decide +kernel
theorem dX0_shove_5 : decode cX0_shove 5 = .ok (.aload_n 0, 1) := by decide +kernel
theorem dX0_shove_6 : decode cX0_shove 6 = .ok (.getfield 23, 3) := by decide +kernel
theorem dX0_shove_9 : decode cX0_shove 9 = .ok (.iload_n 1, 1) := by decide +kernel
theorem dX0_shove_10 : decode cX0_shove 10 = .ok (.iaload, 1) := by decide +kernel
theorem dX0_shove_11 : decode cX0_shove 11 = .ok (.iload_n 2, 1) := by decide +kernel
theorem dX0_shove_12 : decode cX0_shove 12 = .ok (.iadd, 1) := by decide +kernel
theorem dX0_shove_13 : decode cX0_shove 13 = .ok (.sipush 200, 3) := by decide +kernel
theorem dX0_shove_16 : decode cX0_shove 16 = .ok (.invokestatic 41, 3) := by decide +kernel
theorem dX0_shove_19 : decode cX0_shove 19 = .ok (.iastore, 1) := by decide +kernel
theorem dX0_shove_20 : decode cX0_shove 20 = .ok (.return_, 1) := by decide +kernel
theorem dX0_exchange_0 : decode cX0_exchange 0 = .ok (.aload_n 0, 1) := by decide +kernel
theorem dX0_exchange_1 : decode cX0_exchange 1 = .ok (.getfield 19, 3) := by decide +kernel
theorem dX0_exchange_4 : decode cX0_exchange 4 = .ok (.iload_n 1, 1) := by decide +kernel
theorem dX0_exchange_5 : decode cX0_exchange 5 = .ok (.iload_n 2, 1) := by decide +kernel
theorem dX0_exchange_6 : decode cX0_exchange 6 = .ok (.invokestatic 47, 3) := by decide +kernel
theorem dX0_exchange_9 : decode cX0_exchange 9 = .ok (.aload_n 0, 1) := by decide +kernel
theorem dX0_exchange_10 : decode cX0_exchange 10 = .ok (.getfield 23, 3) := by decide +kernel
theorem dX0_exchange_13 : decode cX0_exchange 13 = .ok (.iload_n 1, 1) := by decide +kernel
theorem dX0_exchange_14 : decode cX0_exchange 14 = .ok (.iload_n 2, 1) := by decide +kernel
theorem dX0_exchange_15 : decode cX0_exchange 15 = .ok (.invokestatic 47, 3) := by decide +kernel
theorem dX0_exchange_18 : decode cX0_exchange 18 = .ok (.aload_n 0, 1) := by decide +kernel
theorem dX0_exchange_19 : decode cX0_exchange 19 = .ok (.getfield 26, 3) := by decide +kernel
theorem dX0_exchange_22 : decode cX0_exchange 22 = .ok (.iload_n 1, 1) := by decide +kernel
theorem dX0_exchange_23 : decode cX0_exchange 23 = .ok (.iload_n 2, 1) := by decide +kernel
theorem dX0_exchange_24 : decode cX0_exchange 24 = .ok (.invokestatic 47, 3) := by decide +kernel
theorem dX0_exchange_27 : decode cX0_exchange 27 = .ok (.aload_n 0, 1) := by decide +kernel
theorem dX0_exchange_28 : decode cX0_exchange 28 = .ok (.getfield 29, 3) := by decide +kernel
theorem dX0_exchange_31 : decode cX0_exchange 31 = .ok (.iload_n 1, 1) := by decide +kernel
theorem dX0_exchange_32 : decode cX0_exchange 32 = .ok (.iload_n 2, 1) := by decide +kernel
theorem dX0_exchange_33 : decode cX0_exchange 33 = .ok (.invokestatic 47, 3) := by decide +kernel
theorem dX0_exchange_36 : decode cX0_exchange 36 = .ok (.return_, 1) := by decide +kernel
theorem dX0_exchangeIn_0 : decode cX0_exchangeIn 0 = .ok (.aload_n 0, 1) := by decide +kernel
theorem dX0_exchangeIn_1 : decode cX0_exchangeIn 1 = .ok (.iload_n 1, 1) := by decide +kernel
theorem dX0_exchangeIn_2 : decode cX0_exchangeIn 2 = .ok (.iaload, 1) := by decide +kernel
theorem dX0_exchangeIn_3 : decode cX0_exchangeIn 3 = .ok (.istore_n 3, 1) := by decide +kernel
theorem dX0_exchangeIn_4 : decode cX0_exchangeIn 4 = .ok (.aload_n 0, 1) := by decide +kernel
theorem dX0_exchangeIn_5 : decode cX0_exchangeIn 5 = .ok (.iload_n 1, 1) := by decide +kernel
theorem dX0_exchangeIn_6 : decode cX0_exchangeIn 6 = .ok (.aload_n 0, 1) := by decide +kernel
theorem dX0_exchangeIn_7 : decode cX0_exchangeIn 7 = .ok (.iload_n 2, 1) := by decide +kernel
theorem dX0_exchangeIn_8 : decode cX0_exchangeIn 8 = .ok (.iaload, 1) := by decide +kernel
theorem dX0_exchangeIn_9 : decode cX0_exchangeIn 9 = .ok (.iastore, 1) := by decide +kernel
theorem dX0_exchangeIn_10 : decode cX0_exchangeIn 10 = .ok (.aload_n 0, 1) := by decide +kernel
theorem dX0_exchangeIn_11 : decode cX0_exchangeIn 11 = .ok (.iload_n 2, 1) := by decide +kernel
theorem dX0_exchangeIn_12 : decode cX0_exchangeIn 12 = .ok (.iload_n 3, 1) := by decide +kernel
theorem dX0_exchangeIn_13 : decode cX0_exchangeIn 13 = .ok (.iastore, 1) := by decide +kernel
theorem dX0_exchangeIn_14 : decode cX0_exchangeIn 14 = .ok (.return_, 1) := by decide +kernel
theorem dX0_minuteOfDay_0 : decode cX0_minuteOfDay 0 = .ok (.aload_n 0, 1) := by decide +kernel
theorem dX0_minuteOfDay_1 : decode cX0_minuteOfDay 1 = .ok (.getfield 7, 3) := by decide +kernel
theorem dX0_minuteOfDay_4 : decode cX0_minuteOfDay 4 = .ok (.bipush 60, 2) := by decide +kernel
theorem dX0_minuteOfDay_6 : decode cX0_minuteOfDay 6 = .ok (.irem, 1) := by decide +kernel
theorem dX0_minuteOfDay_7 : decode cX0_minuteOfDay 7 = .ok (.ireturn, 1) := by decide +kernel
theorem dX0_isDusk_0 : decode cX0_isDusk 0 = .ok (.aload_n 0, 1) := by decide +kernel
theorem dX0_isDusk_1 : decode cX0_isDusk 1 = .ok (.invokevirtual 51, 3) := by decide +kernel
theorem dX0_isDusk_4 : decode cX0_isDusk 4 = .ok (.aload_n 0, 1) := by decide +kernel
theorem dX0_isDusk_5 : decode cX0_isDusk 5 = .ok (.getfield 13, 3) := by decide +kernel
theorem dX0_isDusk_8 : decode cX0_isDusk 8 = .ok (.if_icmp .lt 7, 3) := by decide +kernel
theorem dX0_isDusk_11 : decode cX0_isDusk 11 = .ok (.iconst 1, 1) := by decide +kernel
theorem dX0_isDusk_12 : decode cX0_isDusk 12 = .ok (.goto 4, 3) := by decide +kernel
theorem dX0_isDusk_15 : decode cX0_isDusk 15 = .ok (.iconst 0, 1) := by decide +kernel
theorem dX0_isDusk_16 : decode cX0_isDusk 16 = .ok (.ireturn, 1) := by decide +kernel
theorem dX0_isSaturday_0 : decode cX0_isSaturday 0 = .ok (.aload_n 0, 1) := by decide +kernel
theorem dX0_isSaturday_1 : decode cX0_isSaturday 1 = .ok (.getfield 7, 3) := by decide +kernel
theorem dX0_isSaturday_4 : decode cX0_isSaturday 4 = .ok (.bipush 60, 2) := by decide +kernel
theorem dX0_isSaturday_6 : decode cX0_isSaturday 6 = .ok (.idiv, 1) := by decide +kernel
theorem dX0_isSaturday_7 : decode cX0_isSaturday 7 = .ok (.bipush 7, 2) := by decide +kernel
theorem dX0_isSaturday_9 : decode cX0_isSaturday 9 = .ok (.irem, 1) := by decide +kernel
theorem dX0_isSaturday_10 : decode cX0_isSaturday 10 = .ok (.iconst 5, 1) := by decide +kernel
theorem dX0_isSaturday_11 : decode cX0_isSaturday 11 = .ok (.if_icmp .ne 7, 3) := by decide +kernel
theorem dX0_isSaturday_14 : decode cX0_isSaturday 14 = .ok (.iconst 1, 1) := by decide +kernel
theorem dX0_isSaturday_15 : decode cX0_isSaturday 15 = .ok (.goto 4, 3) := by decide +kernel
theorem dX0_isSaturday_18 : decode cX0_isSaturday 18 = .ok (.iconst 0, 1) := by decide +kernel
theorem dX0_isSaturday_19 : decode cX0_isSaturday 19 = .ok (.ireturn, 1) := by decide +kernel
theorem dX0_firstOfMost_0 : decode cX0_firstOfMost 0 = .ok (.iconst (-1), 1) := by decide +kernel
theorem dX0_firstOfMost_1 : decode cX0_firstOfMost 1 = .ok (.istore_n 2, 1) := by decide +kernel
theorem dX0_firstOfMost_2 : decode cX0_firstOfMost 2 = .ok (.iconst 0, 1) := by decide +kernel
theorem dX0_firstOfMost_3 : decode cX0_firstOfMost 3 = .ok (.istore_n 3, 1) := by decide +kernel
theorem dX0_firstOfMost_4 : decode cX0_firstOfMost 4 = .ok (.iload_n 3, 1) := by decide +kernel
theorem dX0_firstOfMost_5 : decode cX0_firstOfMost 5 = .ok (.aload_n 0, 1) := by decide +kernel
theorem dX0_firstOfMost_6 : decode cX0_firstOfMost 6 = .ok (.getfield 16, 3) := by decide +kernel
theorem dX0_firstOfMost_9 : decode cX0_firstOfMost 9 = .ok (.if_icmp .ge 24, 3) := by decide +kernel
theorem dX0_firstOfMost_12 : decode cX0_firstOfMost 12 = .ok (.iload_n 2, 1) := by decide +kernel
theorem dX0_firstOfMost_13 : decode cX0_firstOfMost 13 = .ok (.ifCond .lt 12, 3) := by decide +kernel
theorem dX0_firstOfMost_16 : decode cX0_firstOfMost 16 = .ok (.aload_n 1, 1) := by decide +kernel
theorem dX0_firstOfMost_17 : decode cX0_firstOfMost 17 = .ok (.iload_n 3, 1) := by decide +kernel
theorem dX0_firstOfMost_18 : decode cX0_firstOfMost 18 = .ok (.iaload, 1) := by decide +kernel
theorem dX0_firstOfMost_19 : decode cX0_firstOfMost 19 = .ok (.aload_n 1, 1) := by decide +kernel
theorem dX0_firstOfMost_20 : decode cX0_firstOfMost 20 = .ok (.iload_n 2, 1) := by decide +kernel
theorem dX0_firstOfMost_21 : decode cX0_firstOfMost 21 = .ok (.iaload, 1) := by decide +kernel
theorem dX0_firstOfMost_22 : decode cX0_firstOfMost 22 = .ok (.if_icmp .le 5, 3) := by decide +kernel
theorem dX0_firstOfMost_25 : decode cX0_firstOfMost 25 = .ok (.iload_n 3, 1) := by decide +kernel
theorem dX0_firstOfMost_26 : decode cX0_firstOfMost 26 = .ok (.istore_n 2, 1) := by decide +kernel
theorem dX0_firstOfMost_27 : decode cX0_firstOfMost 27 = .ok (.iinc 3 1, 3) := by decide +kernel
theorem dX0_firstOfMost_30 : decode cX0_firstOfMost 30 = .ok (.goto (-26), 3) := by decide +kernel
theorem dX0_firstOfMost_33 : decode cX0_firstOfMost 33 = .ok (.iload_n 2, 1) := by decide +kernel
theorem dX0_firstOfMost_34 : decode cX0_firstOfMost 34 = .ok (.ireturn, 1) := by decide +kernel
theorem dX0_highest_0 : decode cX0_highest 0 = .ok (.aload_n 0, 1) := by decide +kernel
theorem dX0_highest_1 : decode cX0_highest 1 = .ok (.aload_n 0, 1) := by decide +kernel
theorem dX0_highest_2 : decode cX0_highest 2 = .ok (.getfield 23, 3) := by decide +kernel
theorem dX0_highest_5 : decode cX0_highest 5 = .ok (.invokevirtual 55, 3) := by decide +kernel
theorem dX0_highest_8 : decode cX0_highest 8 = .ok (.ireturn, 1) := by decide +kernel
theorem dX0_lowest_0 : decode cX0_lowest 0 = .ok (.iconst (-1), 1) := by decide +kernel
theorem dX0_lowest_1 : decode cX0_lowest 1 = .ok (.istore_n 1, 1) := by decide +kernel
theorem dX0_lowest_2 : decode cX0_lowest 2 = .ok (.iconst 0, 1) := by decide +kernel
theorem dX0_lowest_3 : decode cX0_lowest 3 = .ok (.istore_n 2, 1) := by decide +kernel
theorem dX0_lowest_4 : decode cX0_lowest 4 = .ok (.iload_n 2, 1) := by decide +kernel
theorem dX0_lowest_5 : decode cX0_lowest 5 = .ok (.aload_n 0, 1) := by decide +kernel
theorem dX0_lowest_6 : decode cX0_lowest 6 = .ok (.getfield 16, 3) := by decide +kernel
theorem dX0_lowest_9 : decode cX0_lowest 9 = .ok (.if_icmp .ge 30, 3) := by decide +kernel
theorem dX0_lowest_12 : decode cX0_lowest 12 = .ok (.iload_n 1, 1) := by decide +kernel
theorem dX0_lowest_13 : decode cX0_lowest 13 = .ok (.ifCond .lt 18, 3) := by decide +kernel
theorem dX0_lowest_16 : decode cX0_lowest 16 = .ok (.aload_n 0, 1) := by decide +kernel
theorem dX0_lowest_17 : decode cX0_lowest 17 = .ok (.getfield 23, 3) := by decide +kernel
theorem dX0_lowest_20 : decode cX0_lowest 20 = .ok (.iload_n 2, 1) := by decide +kernel
theorem dX0_lowest_21 : decode cX0_lowest 21 = .ok (.iaload, 1) := by decide +kernel
theorem dX0_lowest_22 : decode cX0_lowest 22 = .ok (.aload_n 0, 1) := by decide +kernel
theorem dX0_lowest_23 : decode cX0_lowest 23 = .ok (.getfield 23, 3) := by decide +kernel
theorem dX0_lowest_26 : decode cX0_lowest 26 = .ok (.iload_n 1, 1) := by decide +kernel
theorem dX0_lowest_27 : decode cX0_lowest 27 = .ok (.iaload, 1) := by decide +kernel
theorem dX0_lowest_28 : decode cX0_lowest 28 = .ok (.if_icmp .ge 5, 3) := by decide +kernel
theorem dX0_lowest_31 : decode cX0_lowest 31 = .ok (.iload_n 2, 1) := by decide +kernel
theorem dX0_lowest_32 : decode cX0_lowest 32 = .ok (.istore_n 1, 1) := by decide +kernel
theorem dX0_lowest_33 : decode cX0_lowest 33 = .ok (.iinc 2 1, 3) := by decide +kernel
theorem dX0_lowest_36 : decode cX0_lowest 36 = .ok (.goto (-32), 3) := by decide +kernel
theorem dX0_lowest_39 : decode cX0_lowest 39 = .ok (.iload_n 1, 1) := by decide +kernel
theorem dX0_lowest_40 : decode cX0_lowest 40 = .ok (.ireturn, 1) := by decide +kernel
theorem dX0_apart_0 : decode cX0_apart 0 = .ok (.aload_n 0, 1) := by decide +kernel
theorem dX0_apart_1 : decode cX0_apart 1 = .ok (.invokevirtual 59, 3) := by decide +kernel
theorem dX0_apart_4 : decode cX0_apart 4 = .ok (.istore_n 1, 1) := by decide +kernel
theorem dX0_apart_5 : decode cX0_apart 5 = .ok (.aload_n 0, 1) := by decide +kernel
theorem dX0_apart_6 : decode cX0_apart 6 = .ok (.invokevirtual 62, 3) := by decide +kernel
theorem dX0_apart_9 : decode cX0_apart 9 = .ok (.istore_n 2, 1) := by decide +kernel
theorem dX0_apart_10 : decode cX0_apart 10 = .ok (.iload_n 1, 1) := by decide +kernel
theorem dX0_apart_11 : decode cX0_apart 11 = .ok (.ifCond .lt 7, 3) := by decide +kernel
theorem dX0_apart_14 : decode cX0_apart 14 = .ok (.iload_n 2, 1) := by decide +kernel
theorem dX0_apart_15 : decode cX0_apart 15 = .ok (.ifCond .ge 7, 3) := by decide +kernel
theorem dX0_apart_18 : decode cX0_apart 18 = .ok (.iconst 0, 1) := by decide +kernel
theorem dX0_apart_19 : decode cX0_apart 19 = .ok (.goto 16, 3) := by decide +kernel
theorem dX0_apart_22 : decode cX0_apart 22 = .ok (.aload_n 0, 1) := by decide +kernel
theorem dX0_apart_23 : decode cX0_apart 23 = .ok (.getfield 23, 3) := by decide +kernel
theorem dX0_apart_26 : decode cX0_apart 26 = .ok (.iload_n 1, 1) := by decide +kernel
theorem dX0_apart_27 : decode cX0_apart 27 = .ok (.iaload, 1) := by decide +kernel
theorem dX0_apart_28 : decode cX0_apart 28 = .ok (.aload_n 0, 1) := by decide +kernel
theorem dX0_apart_29 : decode cX0_apart 29 = .ok (.getfield 23, 3) := by decide +kernel
theorem dX0_apart_32 : decode cX0_apart 32 = .ok (.iload_n 2, 1) := by decide +kernel
theorem dX0_apart_33 : decode cX0_apart 33 = .ok (.iaload, 1) := by decide +kernel
theorem dX0_apart_34 : decode cX0_apart 34 = .ok (.isub, 1) := by decide +kernel
theorem dX0_apart_35 : decode cX0_apart 35 = .ok (.ireturn, 1) := by decide +kernel
theorem dX0_isLevel_0 : decode cX0_isLevel 0 = .ok (.aload_n 0, 1) := by decide +kernel
theorem dX0_isLevel_1 : decode cX0_isLevel 1 = .ok (.invokevirtual 65, 3) := by decide +kernel
theorem dX0_isLevel_4 : decode cX0_isLevel 4 = .ok (.iconst 2, 1) := by decide +kernel
theorem dX0_isLevel_5 : decode cX0_isLevel 5 = .ok (.if_icmp .ge 7, 3) := by decide +kernel
theorem dX0_isLevel_8 : decode cX0_isLevel 8 = .ok (.iconst 1, 1) := by decide +kernel
theorem dX0_isLevel_9 : decode cX0_isLevel 9 = .ok (.goto 4, 3) := by decide +kernel
theorem dX0_isLevel_12 : decode cX0_isLevel 12 = .ok (.iconst 0, 1) := by decide +kernel
theorem dX0_isLevel_13 : decode cX0_isLevel 13 = .ok (.ireturn, 1) := by decide +kernel
theorem dX0_inTheDust_0 : decode cX0_inTheDust 0 = .ok (.iconst 0, 1) := by decide +kernel
theorem dX0_inTheDust_1 : decode cX0_inTheDust 1 = .ok (.istore_n 1, 1) := by decide +kernel
theorem dX0_inTheDust_2 : decode cX0_inTheDust 2 = .ok (.iconst 0, 1) := by decide +kernel
theorem dX0_inTheDust_3 : decode cX0_inTheDust 3 = .ok (.istore_n 2, 1) := by decide +kernel
theorem dX0_inTheDust_4 : decode cX0_inTheDust 4 = .ok (.iload_n 2, 1) := by decide +kernel
theorem dX0_inTheDust_5 : decode cX0_inTheDust 5 = .ok (.aload_n 0, 1) := by decide +kernel
theorem dX0_inTheDust_6 : decode cX0_inTheDust 6 = .ok (.getfield 16, 3) := by decide +kernel
theorem dX0_inTheDust_9 : decode cX0_inTheDust 9 = .ok (.if_icmp .ge 24, 3) := by decide +kernel
theorem dX0_inTheDust_12 : decode cX0_inTheDust 12 = .ok (.aload_n 0, 1) := by decide +kernel
theorem dX0_inTheDust_13 : decode cX0_inTheDust 13 = .ok (.getfield 23, 3) := by decide +kernel
theorem dX0_inTheDust_16 : decode cX0_inTheDust 16 = .ok (.iload_n 2, 1) := by decide +kernel
theorem dX0_inTheDust_17 : decode cX0_inTheDust 17 = .ok (.iaload, 1) := by decide +kernel
theorem dX0_inTheDust_18 : decode cX0_inTheDust 18 = .ok (.ifCond .ne 9, 3) := by decide +kernel
theorem dX0_inTheDust_21 : decode cX0_inTheDust 21 = .ok (.iload_n 1, 1) := by decide +kernel
theorem dX0_inTheDust_22 : decode cX0_inTheDust 22 = .ok (.iconst 1, 1) := by decide +kernel
theorem dX0_inTheDust_23 : decode cX0_inTheDust 23 = .ok (.iload_n 2, 1) := by decide +kernel
theorem dX0_inTheDust_24 : decode cX0_inTheDust 24 = .ok (.ishl, 1) := by decide +kernel
theorem dX0_inTheDust_25 : decode cX0_inTheDust 25 = .ok (.ior, 1) := by decide +kernel
theorem dX0_inTheDust_26 : decode cX0_inTheDust 26 = .ok (.istore_n 1, 1) := by decide +kernel
theorem dX0_inTheDust_27 : decode cX0_inTheDust 27 = .ok (.iinc 2 1, 3) := by decide +kernel
theorem dX0_inTheDust_30 : decode cX0_inTheDust 30 = .ok (.goto (-26), 3) := by decide +kernel
theorem dX0_inTheDust_33 : decode cX0_inTheDust 33 = .ok (.iload_n 1, 1) := by decide +kernel
theorem dX0_inTheDust_34 : decode cX0_inTheDust 34 = .ok (.ireturn, 1) := by decide +kernel
theorem dX0_nextOf_0 : decode cX0_nextOf 0 = .ok (.iload_n 1, 1) := by decide +kernel
theorem dX0_nextOf_1 : decode cX0_nextOf 1 = .ok (.iconst 1, 1) := by decide +kernel
theorem dX0_nextOf_2 : decode cX0_nextOf 2 = .ok (.iadd, 1) := by decide +kernel
theorem dX0_nextOf_3 : decode cX0_nextOf 3 = .ok (.aload_n 0, 1) := by decide +kernel
theorem dX0_nextOf_4 : decode cX0_nextOf 4 = .ok (.getfield 16, 3) := by decide +kernel
theorem dX0_nextOf_7 : decode cX0_nextOf 7 = .ok (.if_icmp .ge 9, 3) := by decide +kernel
theorem dX0_nextOf_10 : decode cX0_nextOf 10 = .ok (.iload_n 1, 1) := by decide +kernel
theorem dX0_nextOf_11 : decode cX0_nextOf 11 = .ok (.iconst 1, 1) := by decide +kernel
theorem dX0_nextOf_12 : decode cX0_nextOf 12 = .ok (.iadd, 1) := by decide +kernel
theorem dX0_nextOf_13 : decode cX0_nextOf 13 = .ok (.goto 4, 3) := by decide +kernel
theorem dX0_nextOf_16 : decode cX0_nextOf 16 = .ok (.iconst 0, 1) := by decide +kernel
theorem dX0_nextOf_17 : decode cX0_nextOf 17 = .ok (.ireturn, 1) := by decide +kernel
theorem dX0_wantsOf_0 : decode cX0_wantsOf 0 = .ok (.aload_n 0, 1) := by decide +kernel
theorem dX0_wantsOf_1 : decode cX0_wantsOf 1 = .ok (.getfield 16, 3) := by decide +kernel
theorem dX0_wantsOf_4 : decode cX0_wantsOf 4 = .ok (.iconst 2, 1) := by decide +kernel
theorem dX0_wantsOf_5 : decode cX0_wantsOf 5 = .ok (.if_icmp .ge 5, 3) := by decide +kernel
theorem dX0_wantsOf_8 : decode cX0_wantsOf 8 = .ok (.iconst 0, 1) := by decide +kernel
theorem dX0_wantsOf_9 : decode cX0_wantsOf 9 = .ok (.ireturn, 1) := by decide +kernel
theorem dX0_wantsOf_10 : decode cX0_wantsOf 10 = .ok (.iconst 2, 1) := by decide +kernel
theorem dX0_wantsOf_11 : decode cX0_wantsOf 11 = .ok (.istore_n 2, 1) := by decide +kernel
theorem dX0_wantsOf_12 : decode cX0_wantsOf 12 = .ok (.iload_n 2, 1) := by decide +kernel
theorem dX0_wantsOf_13 : decode cX0_wantsOf 13 = .ok (.iconst 3, 1) := by decide +kernel
theorem dX0_wantsOf_14 : decode cX0_wantsOf 14 = .ok (.iadd, 1) := by decide +kernel
theorem dX0_wantsOf_15 : decode cX0_wantsOf 15 = .ok (.istore_n 3, 1) := by decide +kernel
theorem dX0_wantsOf_16 : decode cX0_wantsOf 16 = .ok (.iload_n 2, 1) := by decide +kernel
theorem dX0_wantsOf_17 : decode cX0_wantsOf 17 = .ok (.iconst 1, 1) := by decide +kernel
theorem dX0_wantsOf_18 : decode cX0_wantsOf 18 = .ok (.isub, 1) := by decide +kernel
theorem dX0_wantsOf_19 : decode cX0_wantsOf 19 = .ok (.istore 4, 2) := by decide +kernel
theorem dX0_wantsOf_21 : decode cX0_wantsOf 21 = .ok (.aload_n 0, 1) := by decide +kernel
theorem dX0_wantsOf_22 : decode cX0_wantsOf 22 = .ok (.getfield 19, 3) := by decide +kernel
theorem dX0_wantsOf_25 : decode cX0_wantsOf 25 = .ok (.iload_n 1, 1) := by decide +kernel
theorem dX0_wantsOf_26 : decode cX0_wantsOf 26 = .ok (.iaload, 1) := by decide +kernel
theorem dX0_wantsOf_27 : decode cX0_wantsOf 27 = .ok (.tableswitch 97 1 5 #[33, 35, 38, 64, 79], 33) := by decide +kernel
theorem dX0_wantsOf_60 : decode cX0_wantsOf 60 = .ok (.iload_n 3, 1) := by decide +kernel
theorem dX0_wantsOf_61 : decode cX0_wantsOf 61 = .ok (.ireturn, 1) := by decide +kernel
theorem dX0_wantsOf_62 : decode cX0_wantsOf 62 = .ok (.iload 4, 2) := by decide +kernel
theorem dX0_wantsOf_64 : decode cX0_wantsOf 64 = .ok (.ireturn, 1) := by decide +kernel
theorem dX0_wantsOf_65 : decode cX0_wantsOf 65 = .ok (.aload_n 0, 1) := by decide +kernel
theorem dX0_wantsOf_66 : decode cX0_wantsOf 66 = .ok (.getfield 23, 3) := by decide +kernel
theorem dX0_wantsOf_69 : decode cX0_wantsOf 69 = .ok (.aload_n 0, 1) := by decide +kernel
theorem dX0_wantsOf_70 : decode cX0_wantsOf 70 = .ok (.iload_n 1, 1) := by decide +kernel
theorem dX0_wantsOf_71 : decode cX0_wantsOf 71 = .ok (.invokevirtual 68, 3) := by decide +kernel
theorem dX0_wantsOf_74 : decode cX0_wantsOf 74 = .ok (.iaload, 1) := by decide +kernel
theorem dX0_wantsOf_75 : decode cX0_wantsOf 75 = .ok (.aload_n 0, 1) := by decide +kernel
theorem dX0_wantsOf_76 : decode cX0_wantsOf 76 = .ok (.getfield 23, 3) := by decide +kernel
theorem dX0_wantsOf_79 : decode cX0_wantsOf 79 = .ok (.iload_n 1, 1) := by decide +kernel
theorem dX0_wantsOf_80 : decode cX0_wantsOf 80 = .ok (.iaload, 1) := by decide +kernel
theorem dX0_wantsOf_81 : decode cX0_wantsOf 81 = .ok (.if_icmp .ge 8, 3) := by decide +kernel
theorem dX0_wantsOf_84 : decode cX0_wantsOf 84 = .ok (.bipush (-3), 2) := by decide +kernel
theorem dX0_wantsOf_86 : decode cX0_wantsOf 86 = .ok (.goto 4, 3) := by decide +kernel
theorem dX0_wantsOf_89 : decode cX0_wantsOf 89 = .ok (.iconst 0, 1) := by decide +kernel
theorem dX0_wantsOf_90 : decode cX0_wantsOf 90 = .ok (.ireturn, 1) := by decide +kernel
theorem dX0_wantsOf_91 : decode cX0_wantsOf 91 = .ok (.aload_n 0, 1) := by decide +kernel
theorem dX0_wantsOf_92 : decode cX0_wantsOf 92 = .ok (.invokevirtual 72, 3) := by decide +kernel
theorem dX0_wantsOf_95 : decode cX0_wantsOf 95 = .ok (.ifCond .eq 9, 3) := by decide +kernel
theorem dX0_wantsOf_98 : decode cX0_wantsOf 98 = .ok (.iconst 2, 1) := by decide +kernel
theorem dX0_wantsOf_99 : decode cX0_wantsOf 99 = .ok (.iload_n 3, 1) := by decide +kernel
theorem dX0_wantsOf_100 : decode cX0_wantsOf 100 = .ok (.imul, 1) := by decide +kernel
theorem dX0_wantsOf_101 : decode cX0_wantsOf 101 = .ok (.goto 4, 3) := by decide +kernel
theorem dX0_wantsOf_104 : decode cX0_wantsOf 104 = .ok (.iload_n 3, 1) := by decide +kernel
theorem dX0_wantsOf_105 : decode cX0_wantsOf 105 = .ok (.ireturn, 1) := by decide +kernel
theorem dX0_wantsOf_106 : decode cX0_wantsOf 106 = .ok (.aload_n 0, 1) := by decide +kernel
theorem dX0_wantsOf_107 : decode cX0_wantsOf 107 = .ok (.getfield 23, 3) := by decide +kernel
theorem dX0_wantsOf_110 : decode cX0_wantsOf 110 = .ok (.iload_n 1, 1) := by decide +kernel
theorem dX0_wantsOf_111 : decode cX0_wantsOf 111 = .ok (.iaload, 1) := by decide +kernel
theorem dX0_wantsOf_112 : decode cX0_wantsOf 112 = .ok (.bipush 60, 2) := by decide +kernel
theorem dX0_wantsOf_114 : decode cX0_wantsOf 114 = .ok (.if_icmp .le 7, 3) := by decide +kernel
theorem dX0_wantsOf_117 : decode cX0_wantsOf 117 = .ok (.iconst 0, 1) := by decide +kernel
theorem dX0_wantsOf_118 : decode cX0_wantsOf 118 = .ok (.goto 5, 3) := by decide +kernel
theorem dX0_wantsOf_121 : decode cX0_wantsOf 121 = .ok (.iload 4, 2) := by decide +kernel
theorem dX0_wantsOf_123 : decode cX0_wantsOf 123 = .ok (.ireturn, 1) := by decide +kernel
theorem dX0_wantsOf_124 : decode cX0_wantsOf 124 = .ok (.iload_n 2, 1) := by decide +kernel
theorem dX0_wantsOf_125 : decode cX0_wantsOf 125 = .ok (.ireturn, 1) := by decide +kernel
theorem dX0_paysOf_0 : decode cX0_paysOf 0 = .ok (.aload_n 0, 1) := by decide +kernel
theorem dX0_paysOf_1 : decode cX0_paysOf 1 = .ok (.getfield 19, 3) := by decide +kernel
theorem dX0_paysOf_4 : decode cX0_paysOf 4 = .ok (.iload_n 1, 1) := by decide +kernel
theorem dX0_paysOf_5 : decode cX0_paysOf 5 = .ok (.iaload, 1) := by decide +kernel
theorem dX0_paysOf_6 : decode cX0_paysOf 6 = .ok (.iconst 2, 1) := by decide +kernel
theorem dX0_paysOf_7 : decode cX0_paysOf 7 = .ok (.if_icmp .ne 7, 3) := by decide +kernel
theorem dX0_paysOf_10 : decode cX0_paysOf 10 = .ok (.iconst 1, 1) := by decide +kernel
theorem dX0_paysOf_11 : decode cX0_paysOf 11 = .ok (.goto 4, 3) := by decide +kernel
theorem dX0_paysOf_14 : decode cX0_paysOf 14 = .ok (.iconst 0, 1) := by decide +kernel
theorem dX0_paysOf_15 : decode cX0_paysOf 15 = .ok (.ireturn, 1) := by decide +kernel
theorem dX0_yieldsOf_0 : decode cX0_yieldsOf 0 = .ok (.iconst 4, 1) := by decide +kernel
theorem dX0_yieldsOf_1 : decode cX0_yieldsOf 1 = .ok (.istore_n 2, 1) := by decide +kernel
theorem dX0_yieldsOf_2 : decode cX0_yieldsOf 2 = .ok (.iload_n 2, 1) := by decide +kernel
theorem dX0_yieldsOf_3 : decode cX0_yieldsOf 3 = .ok (.iconst 2, 1) := by decide +kernel
theorem dX0_yieldsOf_4 : decode cX0_yieldsOf 4 = .ok (.idiv, 1) := by decide +kernel
theorem dX0_yieldsOf_5 : decode cX0_yieldsOf 5 = .ok (.istore_n 3, 1) := by decide +kernel
theorem dX0_yieldsOf_6 : decode cX0_yieldsOf 6 = .ok (.iload_n 2, 1) := by decide +kernel
theorem dX0_yieldsOf_7 : decode cX0_yieldsOf 7 = .ok (.iconst 4, 1) := by decide +kernel
theorem dX0_yieldsOf_8 : decode cX0_yieldsOf 8 = .ok (.iadd, 1) := by decide +kernel
theorem dX0_yieldsOf_9 : decode cX0_yieldsOf 9 = .ok (.istore 4, 2) := by decide +kernel
theorem dX0_yieldsOf_11 : decode cX0_yieldsOf 11 = .ok (.aload_n 0, 1) := by decide +kernel
theorem dX0_yieldsOf_12 : decode cX0_yieldsOf 12 = .ok (.getfield 19, 3) := by decide +kernel
theorem dX0_yieldsOf_15 : decode cX0_yieldsOf 15 = .ok (.iload_n 1, 1) := by decide +kernel
theorem dX0_yieldsOf_16 : decode cX0_yieldsOf 16 = .ok (.iaload, 1) := by decide +kernel
theorem dX0_yieldsOf_17 : decode cX0_yieldsOf 17 = .ok (.tableswitch 60 1 5 #[35, 37, 40, 47, 37], 35) := by decide +kernel
theorem dX0_yieldsOf_52 : decode cX0_yieldsOf 52 = .ok (.iload_n 3, 1) := by decide +kernel
theorem dX0_yieldsOf_53 : decode cX0_yieldsOf 53 = .ok (.ireturn, 1) := by decide +kernel
theorem dX0_yieldsOf_54 : decode cX0_yieldsOf 54 = .ok (.iload 4, 2) := by decide +kernel
theorem dX0_yieldsOf_56 : decode cX0_yieldsOf 56 = .ok (.ireturn, 1) := by decide +kernel
theorem dX0_yieldsOf_57 : decode cX0_yieldsOf 57 = .ok (.aload_n 0, 1) := by decide +kernel
theorem dX0_yieldsOf_58 : decode cX0_yieldsOf 58 = .ok (.getfield 23, 3) := by decide +kernel
theorem dX0_yieldsOf_61 : decode cX0_yieldsOf 61 = .ok (.iload_n 1, 1) := by decide +kernel
theorem dX0_yieldsOf_62 : decode cX0_yieldsOf 62 = .ok (.iaload, 1) := by decide +kernel
theorem dX0_yieldsOf_63 : decode cX0_yieldsOf 63 = .ok (.ireturn, 1) := by decide +kernel
theorem dX0_yieldsOf_64 : decode cX0_yieldsOf 64 = .ok (.aload_n 0, 1) := by decide +kernel
theorem dX0_yieldsOf_65 : decode cX0_yieldsOf 65 = .ok (.invokevirtual 72, 3) := by decide +kernel
theorem dX0_yieldsOf_68 : decode cX0_yieldsOf 68 = .ok (.ifCond .eq 7, 3) := by decide +kernel
theorem dX0_yieldsOf_71 : decode cX0_yieldsOf 71 = .ok (.iconst 0, 1) := by decide +kernel
theorem dX0_yieldsOf_72 : decode cX0_yieldsOf 72 = .ok (.goto 4, 3) := by decide +kernel
theorem dX0_yieldsOf_75 : decode cX0_yieldsOf 75 = .ok (.iload_n 3, 1) := by decide +kernel
theorem dX0_yieldsOf_76 : decode cX0_yieldsOf 76 = .ok (.ireturn, 1) := by decide +kernel
theorem dX0_yieldsOf_77 : decode cX0_yieldsOf 77 = .ok (.iload_n 2, 1) := by decide +kernel
theorem dX0_yieldsOf_78 : decode cX0_yieldsOf 78 = .ok (.ireturn, 1) := by decide +kernel
theorem dX0_goOn_0 : decode cX0_goOn 0 = .ok (.iconst 0, 1) := by decide +kernel
theorem dX0_goOn_1 : decode cX0_goOn 1 = .ok (.istore_n 2, 1) := by decide +kernel
theorem dX0_goOn_2 : decode cX0_goOn 2 = .ok (.iload_n 2, 1) := by decide +kernel
theorem dX0_goOn_3 : decode cX0_goOn 3 = .ok (.iload_n 1, 1) := by decide +kernel
theorem dX0_goOn_4 : decode cX0_goOn 4 = .ok (.if_icmp .ge 13, 3) := by decide +kernel
theorem dX0_goOn_7 : decode cX0_goOn 7 = .ok (.aload_n 0, 1) := by decide +kernel
theorem dX0_goOn_8 : decode cX0_goOn 8 = .ok (.invokevirtual 76, 3) := by decide +kernel
theorem dX0_goOn_11 : decode cX0_goOn 11 = .ok (.iinc 2 1, 3) := by decide +kernel
theorem dX0_goOn_14 : decode cX0_goOn 14 = .ok (.goto (-12), 3) := by decide +kernel
theorem dX0_goOn_17 : decode cX0_goOn 17 = .ok (.return_, 1) := by decide +kernel
theorem dX0_goMinute_0 : decode cX0_goMinute 0 = .ok (.aload_n 0, 1) := by decide +kernel
theorem dX0_goMinute_1 : decode cX0_goMinute 1 = .ok (.invokevirtual 79, 3) := by decide +kernel
theorem dX0_goMinute_4 : decode cX0_goMinute 4 = .ok (.ifCond .eq 10, 3) := by decide +kernel
theorem dX0_goMinute_7 : decode cX0_goMinute 7 = .ok (.aload_n 0, 1) := by decide +kernel
theorem dX0_goMinute_8 : decode cX0_goMinute 8 = .ok (.invokevirtual 82, 3) := by decide +kernel
theorem dX0_goMinute_11 : decode cX0_goMinute 11 = .ok (.goto 24, 3) := by decide +kernel
theorem dX0_goMinute_14 : decode cX0_goMinute 14 = .ok (.iconst 0, 1) := by decide +kernel
theorem dX0_goMinute_15 : decode cX0_goMinute 15 = .ok (.istore_n 1, 1) := by decide +kernel
theorem dX0_goMinute_16 : decode cX0_goMinute 16 = .ok (.iload_n 1, 1) := by decide +kernel
theorem dX0_goMinute_17 : decode cX0_goMinute 17 = .ok (.aload_n 0, 1) := by decide +kernel
theorem dX0_goMinute_18 : decode cX0_goMinute 18 = .ok (.getfield 16, 3) := by decide +kernel
theorem dX0_goMinute_21 : decode cX0_goMinute 21 = .ok (.if_icmp .ge 14, 3) := by decide +kernel
theorem dX0_goMinute_24 : decode cX0_goMinute 24 = .ok (.aload_n 0, 1) := by decide +kernel
theorem dX0_goMinute_25 : decode cX0_goMinute 25 = .ok (.iload_n 1, 1) := by decide +kernel
theorem dX0_goMinute_26 : decode cX0_goMinute 26 = .ok (.invokevirtual 85, 3) := by decide +kernel
theorem dX0_goMinute_29 : decode cX0_goMinute 29 = .ok (.iinc 1 1, 3) := by decide +kernel
theorem dX0_goMinute_32 : decode cX0_goMinute 32 = .ok (.goto (-16), 3) := by decide +kernel
theorem dX0_goMinute_35 : decode cX0_goMinute 35 = .ok (.aload_n 0, 1) := by decide +kernel
theorem dX0_goMinute_36 : decode cX0_goMinute 36 = .ok (.dup, 1) := by decide +kernel
theorem dX0_goMinute_37 : decode cX0_goMinute 37 = .ok (.getfield 7, 3) := by decide +kernel
theorem dX0_goMinute_40 : decode cX0_goMinute 40 = .ok (.iconst 1, 1) := by decide +kernel
theorem dX0_goMinute_41 : decode cX0_goMinute 41 = .ok (.iadd, 1) := by decide +kernel
theorem dX0_goMinute_42 : decode cX0_goMinute 42 = .ok (.putfield 7, 3) := by decide +kernel
theorem dX0_goMinute_45 : decode cX0_goMinute 45 = .ok (.return_, 1) := by decide +kernel
theorem dX0_getMoreLevel_0 : decode cX0_getMoreLevel 0 = .ok (.aload_n 0, 1) := by decide +kernel
theorem dX0_getMoreLevel_1 : decode cX0_getMoreLevel 1 = .ok (.invokevirtual 59, 3) := by decide +kernel
theorem dX0_getMoreLevel_4 : decode cX0_getMoreLevel 4 = .ok (.istore_n 1, 1) := by decide +kernel
theorem dX0_getMoreLevel_5 : decode cX0_getMoreLevel 5 = .ok (.aload_n 0, 1) := by decide +kernel
theorem dX0_getMoreLevel_6 : decode cX0_getMoreLevel 6 = .ok (.invokevirtual 62, 3) := by decide +kernel
theorem dX0_getMoreLevel_9 : decode cX0_getMoreLevel 9 = .ok (.istore_n 2, 1) := by decide +kernel
theorem dX0_getMoreLevel_10 : decode cX0_getMoreLevel 10 = .ok (.iload_n 1, 1) := by decide +kernel
theorem dX0_getMoreLevel_11 : decode cX0_getMoreLevel 11 = .ok (.ifCond .lt 32, 3) := by decide +kernel
theorem dX0_getMoreLevel_14 : decode cX0_getMoreLevel 14 = .ok (.iload_n 2, 1) := by decide +kernel
theorem dX0_getMoreLevel_15 : decode cX0_getMoreLevel 15 = .ok (.ifCond .lt 28, 3) := by decide +kernel
theorem dX0_getMoreLevel_18 : decode cX0_getMoreLevel 18 = .ok (.aload_n 0, 1) := by decide +kernel
theorem dX0_getMoreLevel_19 : decode cX0_getMoreLevel 19 = .ok (.getfield 23, 3) := by decide +kernel
theorem dX0_getMoreLevel_22 : decode cX0_getMoreLevel 22 = .ok (.iload_n 1, 1) := by decide +kernel
theorem dX0_getMoreLevel_23 : decode cX0_getMoreLevel 23 = .ok (.iaload, 1) := by decide +kernel
theorem dX0_getMoreLevel_24 : decode cX0_getMoreLevel 24 = .ok (.aload_n 0, 1) := by decide +kernel
theorem dX0_getMoreLevel_25 : decode cX0_getMoreLevel 25 = .ok (.getfield 23, 3) := by decide +kernel
theorem dX0_getMoreLevel_28 : decode cX0_getMoreLevel 28 = .ok (.iload_n 2, 1) := by decide +kernel
theorem dX0_getMoreLevel_29 : decode cX0_getMoreLevel 29 = .ok (.iaload, 1) := by decide +kernel
theorem dX0_getMoreLevel_30 : decode cX0_getMoreLevel 30 = .ok (.isub, 1) := by decide +kernel
theorem dX0_getMoreLevel_31 : decode cX0_getMoreLevel 31 = .ok (.iconst 2, 1) := by decide +kernel
theorem dX0_getMoreLevel_32 : decode cX0_getMoreLevel 32 = .ok (.if_icmp .lt 11, 3) := by decide +kernel
theorem dX0_getMoreLevel_35 : decode cX0_getMoreLevel 35 = .ok (.aload_n 0, 1) := by decide +kernel
theorem dX0_getMoreLevel_36 : decode cX0_getMoreLevel 36 = .ok (.iload_n 1, 1) := by decide +kernel
theorem dX0_getMoreLevel_37 : decode cX0_getMoreLevel 37 = .ok (.iload_n 2, 1) := by decide +kernel
theorem dX0_getMoreLevel_38 : decode cX0_getMoreLevel 38 = .ok (.iconst 1, 1) := by decide +kernel
theorem dX0_getMoreLevel_39 : decode cX0_getMoreLevel 39 = .ok (.invokevirtual 89, 3) := by decide +kernel
theorem dX0_getMoreLevel_42 : decode cX0_getMoreLevel 42 = .ok (.pop, 1) := by decide +kernel
theorem dX0_getMoreLevel_43 : decode cX0_getMoreLevel 43 = .ok (.return_, 1) := by decide +kernel
theorem dX0_deal_0 : decode cX0_deal 0 = .ok (.aload_n 0, 1) := by decide +kernel
theorem dX0_deal_1 : decode cX0_deal 1 = .ok (.iload_n 1, 1) := by decide +kernel
theorem dX0_deal_2 : decode cX0_deal 2 = .ok (.invokevirtual 93, 3) := by decide +kernel
theorem dX0_deal_5 : decode cX0_deal 5 = .ok (.istore_n 2, 1) := by decide +kernel
theorem dX0_deal_6 : decode cX0_deal 6 = .ok (.aload_n 0, 1) := by decide +kernel
theorem dX0_deal_7 : decode cX0_deal 7 = .ok (.iload_n 1, 1) := by decide +kernel
theorem dX0_deal_8 : decode cX0_deal 8 = .ok (.invokevirtual 68, 3) := by decide +kernel
theorem dX0_deal_11 : decode cX0_deal 11 = .ok (.istore_n 3, 1) := by decide +kernel
theorem dX0_deal_12 : decode cX0_deal 12 = .ok (.iload_n 2, 1) := by decide +kernel
theorem dX0_deal_13 : decode cX0_deal 13 = .ok (.ifCond .le 48, 3) := by decide +kernel
theorem dX0_deal_16 : decode cX0_deal 16 = .ok (.aload_n 0, 1) := by decide +kernel
theorem dX0_deal_17 : decode cX0_deal 17 = .ok (.getfield 26, 3) := by decide +kernel
theorem dX0_deal_20 : decode cX0_deal 20 = .ok (.iload_n 1, 1) := by decide +kernel
theorem dX0_deal_21 : decode cX0_deal 21 = .ok (.iaload, 1) := by decide +kernel
theorem dX0_deal_22 : decode cX0_deal 22 = .ok (.aload_n 0, 1) := by decide +kernel
theorem dX0_deal_23 : decode cX0_deal 23 = .ok (.iload_n 1, 1) := by decide +kernel
theorem dX0_deal_24 : decode cX0_deal 24 = .ok (.invokevirtual 96, 3) := by decide +kernel
theorem dX0_deal_27 : decode cX0_deal 27 = .ok (.if_icmp .lt 34, 3) := by decide +kernel
theorem dX0_deal_30 : decode cX0_deal 30 = .ok (.aload_n 0, 1) := by decide +kernel
theorem dX0_deal_31 : decode cX0_deal 31 = .ok (.iload_n 3, 1) := by decide +kernel
theorem dX0_deal_32 : decode cX0_deal 32 = .ok (.iload_n 1, 1) := by decide +kernel
theorem dX0_deal_33 : decode cX0_deal 33 = .ok (.iload_n 2, 1) := by decide +kernel
theorem dX0_deal_34 : decode cX0_deal 34 = .ok (.aload_n 0, 1) := by decide +kernel
theorem dX0_deal_35 : decode cX0_deal 35 = .ok (.iload_n 3, 1) := by decide +kernel
theorem dX0_deal_36 : decode cX0_deal 36 = .ok (.invokevirtual 99, 3) := by decide +kernel
theorem dX0_deal_39 : decode cX0_deal 39 = .ok (.invokestatic 41, 3) := by decide +kernel
theorem dX0_deal_42 : decode cX0_deal 42 = .ok (.invokevirtual 89, 3) := by decide +kernel
theorem dX0_deal_45 : decode cX0_deal 45 = .ok (.istore 4, 2) := by decide +kernel
theorem dX0_deal_47 : decode cX0_deal 47 = .ok (.iload 4, 2) := by decide +kernel
theorem dX0_deal_49 : decode cX0_deal 49 = .ok (.ifCond .le 9, 3) := by decide +kernel
theorem dX0_deal_52 : decode cX0_deal 52 = .ok (.aload_n 0, 1) := by decide +kernel
theorem dX0_deal_53 : decode cX0_deal 53 = .ok (.iload_n 1, 1) := by decide +kernel
theorem dX0_deal_54 : decode cX0_deal 54 = .ok (.iload_n 3, 1) := by decide +kernel
theorem dX0_deal_55 : decode cX0_deal 55 = .ok (.invokevirtual 102, 3) := by decide +kernel
theorem dX0_deal_58 : decode cX0_deal 58 = .ok (.goto 16, 3) := by decide +kernel
theorem dX0_deal_61 : decode cX0_deal 61 = .ok (.iload_n 2, 1) := by decide +kernel
theorem dX0_deal_62 : decode cX0_deal 62 = .ok (.ifCond .ge 12, 3) := by decide +kernel
theorem dX0_deal_65 : decode cX0_deal 65 = .ok (.aload_n 0, 1) := by decide +kernel
theorem dX0_deal_66 : decode cX0_deal 66 = .ok (.iload_n 1, 1) := by decide +kernel
theorem dX0_deal_67 : decode cX0_deal 67 = .ok (.iload_n 3, 1) := by decide +kernel
theorem dX0_deal_68 : decode cX0_deal 68 = .ok (.iload_n 2, 1) := by decide +kernel
theorem dX0_deal_69 : decode cX0_deal 69 = .ok (.ineg, 1) := by decide +kernel
theorem dX0_deal_70 : decode cX0_deal 70 = .ok (.invokevirtual 89, 3) := by decide +kernel
theorem dX0_deal_73 : decode cX0_deal 73 = .ok (.pop, 1) := by decide +kernel
theorem dX0_deal_74 : decode cX0_deal 74 = .ok (.return_, 1) := by decide +kernel
theorem dX0_carry_0 : decode cX0_carry 0 = .ok (.iload_n 3, 1) := by decide +kernel
theorem dX0_carry_1 : decode cX0_carry 1 = .ok (.aload_n 0, 1) := by decide +kernel
theorem dX0_carry_2 : decode cX0_carry 2 = .ok (.getfield 23, 3) := by decide +kernel
theorem dX0_carry_5 : decode cX0_carry 5 = .ok (.iload_n 1, 1) := by decide +kernel
theorem dX0_carry_6 : decode cX0_carry 6 = .ok (.iaload, 1) := by decide +kernel
theorem dX0_carry_7 : decode cX0_carry 7 = .ok (.sipush 200, 3) := by decide +kernel
theorem dX0_carry_10 : decode cX0_carry 10 = .ok (.aload_n 0, 1) := by decide +kernel
theorem dX0_carry_11 : decode cX0_carry 11 = .ok (.getfield 23, 3) := by decide +kernel
theorem dX0_carry_14 : decode cX0_carry 14 = .ok (.iload_n 2, 1) := by decide +kernel
theorem dX0_carry_15 : decode cX0_carry 15 = .ok (.iaload, 1) := by decide +kernel
theorem dX0_carry_16 : decode cX0_carry 16 = .ok (.isub, 1) := by decide +kernel
theorem dX0_carry_17 : decode cX0_carry 17 = .ok (.invokestatic 41, 3) := by decide +kernel
theorem dX0_carry_20 : decode cX0_carry 20 = .ok (.invokestatic 41, 3) := by decide +kernel
theorem dX0_carry_23 : decode cX0_carry 23 = .ok (.istore 4, 2) := by decide +kernel
theorem dX0_carry_25 : decode cX0_carry 25 = .ok (.aload_n 0, 1) := by decide +kernel
theorem dX0_carry_26 : decode cX0_carry 26 = .ok (.getfield 23, 3) := by decide +kernel
theorem dX0_carry_29 : decode cX0_carry 29 = .ok (.iload_n 1, 1) := by decide +kernel
theorem dX0_carry_30 : decode cX0_carry 30 = .ok (.dup2, 1) := by decide +kernel
theorem dX0_carry_31 : decode cX0_carry 31 = .ok (.iaload, 1) := by decide +kernel
theorem dX0_carry_32 : decode cX0_carry 32 = .ok (.iload 4, 2) := by decide +kernel
theorem dX0_carry_34 : decode cX0_carry 34 = .ok (.isub, 1) := by decide +kernel
theorem dX0_carry_35 : decode cX0_carry 35 = .ok (.iastore, 1) := by decide +kernel
theorem dX0_carry_36 : decode cX0_carry 36 = .ok (.aload_n 0, 1) := by decide +kernel
theorem dX0_carry_37 : decode cX0_carry 37 = .ok (.getfield 23, 3) := by decide +kernel
theorem dX0_carry_40 : decode cX0_carry 40 = .ok (.iload_n 2, 1) := by decide +kernel
theorem dX0_carry_41 : decode cX0_carry 41 = .ok (.dup2, 1) := by decide +kernel
theorem dX0_carry_42 : decode cX0_carry 42 = .ok (.iaload, 1) := by decide +kernel
theorem dX0_carry_43 : decode cX0_carry 43 = .ok (.iload 4, 2) := by decide +kernel
theorem dX0_carry_45 : decode cX0_carry 45 = .ok (.iadd, 1) := by decide +kernel
theorem dX0_carry_46 : decode cX0_carry 46 = .ok (.iastore, 1) := by decide +kernel
theorem dX0_carry_47 : decode cX0_carry 47 = .ok (.aload_n 0, 1) := by decide +kernel
theorem dX0_carry_48 : decode cX0_carry 48 = .ok (.getfield 29, 3) := by decide +kernel
theorem dX0_carry_51 : decode cX0_carry 51 = .ok (.iload_n 1, 1) := by decide +kernel
theorem dX0_carry_52 : decode cX0_carry 52 = .ok (.aload_n 0, 1) := by decide +kernel
theorem dX0_carry_53 : decode cX0_carry 53 = .ok (.getfield 29, 3) := by decide +kernel
theorem dX0_carry_56 : decode cX0_carry 56 = .ok (.iload_n 1, 1) := by decide +kernel
theorem dX0_carry_57 : decode cX0_carry 57 = .ok (.iaload, 1) := by decide +kernel
theorem dX0_carry_58 : decode cX0_carry 58 = .ok (.iload 4, 2) := by decide +kernel
theorem dX0_carry_60 : decode cX0_carry 60 = .ok (.isub, 1) := by decide +kernel
theorem dX0_carry_61 : decode cX0_carry 61 = .ok (.sipush (-9999), 3) := by decide +kernel
theorem dX0_carry_64 : decode cX0_carry 64 = .ok (.invokestatic 106, 3) := by decide +kernel
theorem dX0_carry_67 : decode cX0_carry 67 = .ok (.iastore, 1) := by decide +kernel
theorem dX0_carry_68 : decode cX0_carry 68 = .ok (.aload_n 0, 1) := by decide +kernel
theorem dX0_carry_69 : decode cX0_carry 69 = .ok (.getfield 29, 3) := by decide +kernel
theorem dX0_carry_72 : decode cX0_carry 72 = .ok (.iload_n 2, 1) := by decide +kernel
theorem dX0_carry_73 : decode cX0_carry 73 = .ok (.aload_n 0, 1) := by decide +kernel
theorem dX0_carry_74 : decode cX0_carry 74 = .ok (.getfield 29, 3) := by decide +kernel
theorem dX0_carry_77 : decode cX0_carry 77 = .ok (.iload_n 2, 1) := by decide +kernel
theorem dX0_carry_78 : decode cX0_carry 78 = .ok (.iaload, 1) := by decide +kernel
theorem dX0_carry_79 : decode cX0_carry 79 = .ok (.iload 4, 2) := by decide +kernel
theorem dX0_carry_81 : decode cX0_carry 81 = .ok (.iadd, 1) := by decide +kernel
theorem dX0_carry_82 : decode cX0_carry 82 = .ok (.sipush 9999, 3) := by decide +kernel
theorem dX0_carry_85 : decode cX0_carry 85 = .ok (.invokestatic 41, 3) := by decide +kernel
theorem dX0_carry_88 : decode cX0_carry 88 = .ok (.iastore, 1) := by decide +kernel
theorem dX0_carry_89 : decode cX0_carry 89 = .ok (.iload 4, 2) := by decide +kernel
theorem dX0_carry_91 : decode cX0_carry 91 = .ok (.ireturn, 1) := by decide +kernel
theorem dX0_payFor_0 : decode cX0_payFor 0 = .ok (.aload_n 0, 1) := by decide +kernel
theorem dX0_payFor_1 : decode cX0_payFor 1 = .ok (.iload_n 1, 1) := by decide +kernel
theorem dX0_payFor_2 : decode cX0_payFor 2 = .ok (.invokevirtual 96, 3) := by decide +kernel
theorem dX0_payFor_5 : decode cX0_payFor 5 = .ok (.istore_n 3, 1) := by decide +kernel
theorem dX0_payFor_6 : decode cX0_payFor 6 = .ok (.aload_n 0, 1) := by decide +kernel
theorem dX0_payFor_7 : decode cX0_payFor 7 = .ok (.getfield 26, 3) := by decide +kernel
theorem dX0_payFor_10 : decode cX0_payFor 10 = .ok (.iload_n 1, 1) := by decide +kernel
theorem dX0_payFor_11 : decode cX0_payFor 11 = .ok (.dup2, 1) := by decide +kernel
theorem dX0_payFor_12 : decode cX0_payFor 12 = .ok (.iaload, 1) := by decide +kernel
theorem dX0_payFor_13 : decode cX0_payFor 13 = .ok (.iload_n 3, 1) := by decide +kernel
theorem dX0_payFor_14 : decode cX0_payFor 14 = .ok (.isub, 1) := by decide +kernel
theorem dX0_payFor_15 : decode cX0_payFor 15 = .ok (.iastore, 1) := by decide +kernel
theorem dX0_payFor_16 : decode cX0_payFor 16 = .ok (.aload_n 0, 1) := by decide +kernel
theorem dX0_payFor_17 : decode cX0_payFor 17 = .ok (.getfield 26, 3) := by decide +kernel
theorem dX0_payFor_20 : decode cX0_payFor 20 = .ok (.iload_n 2, 1) := by decide +kernel
theorem dX0_payFor_21 : decode cX0_payFor 21 = .ok (.aload_n 0, 1) := by decide +kernel
theorem dX0_payFor_22 : decode cX0_payFor 22 = .ok (.getfield 26, 3) := by decide +kernel
theorem dX0_payFor_25 : decode cX0_payFor 25 = .ok (.iload_n 2, 1) := by decide +kernel
theorem dX0_payFor_26 : decode cX0_payFor 26 = .ok (.iaload, 1) := by decide +kernel
theorem dX0_payFor_27 : decode cX0_payFor 27 = .ok (.iload_n 3, 1) := by decide +kernel
theorem dX0_payFor_28 : decode cX0_payFor 28 = .ok (.iadd, 1) := by decide +kernel
theorem dX0_payFor_29 : decode cX0_payFor 29 = .ok (.bipush 99, 2) := by decide +kernel
theorem dX0_payFor_31 : decode cX0_payFor 31 = .ok (.invokestatic 41, 3) := by decide +kernel
theorem dX0_payFor_34 : decode cX0_payFor 34 = .ok (.iastore, 1) := by decide +kernel
theorem dX0_payFor_35 : decode cX0_payFor 35 = .ok (.return_, 1) := by decide +kernel
theorem dX1_init_0 : decode cX1_init 0 = .ok (.aload_n 0, 1) := by decide +kernel
theorem dX1_init_1 : decode cX1_init 1 = .ok (.invokespecial 1, 3) := by decide +kernel
theorem dX1_init_4 : decode cX1_init 4 = .ok (.aload_n 0, 1) := by decide +kernel
theorem dX1_init_5 : decode cX1_init 5 = .ok (.bipush 40, 2) := by decide +kernel
theorem dX1_init_7 : decode cX1_init 7 = .ok (.newarray .long, 2) := by decide +kernel
theorem dX1_init_9 : decode cX1_init 9 = .ok (.putfield 9, 3) := by decide +kernel
theorem dX1_init_12 : decode cX1_init 12 = .ok (.aload_n 0, 1) := by decide +kernel
theorem dX1_init_13 : decode cX1_init 13 = .ok (.iconst 0, 1) := by decide +kernel
theorem dX1_init_14 : decode cX1_init 14 = .ok (.putfield 13, 3) := by decide +kernel
theorem dX1_init_17 : decode cX1_init 17 = .ok (.aload_n 0, 1) := by decide +kernel
theorem dX1_init_18 : decode cX1_init 18 = .ok (.iconst 0, 1) := by decide +kernel
theorem dX1_init_19 : decode cX1_init 19 = .ok (.putfield 17, 3) := by decide +kernel
theorem dX1_init_22 : decode cX1_init 22 = .ok (.return_, 1) := by decide +kernel
theorem dX1_areBits_0 : decode cX1_areBits 0 = .ok (.iload_n 0, 1) := by decide +kernel
theorem dX1_areBits_1 : decode cX1_areBits 1 = .ok (.ifCond .eq 21, 3) := by decide +kernel
theorem dX1_areBits_4 : decode cX1_areBits 4 = .ok (.iload_n 0, 1) := by decide +kernel
theorem dX1_areBits_5 : decode cX1_areBits 5 = .ok (.bipush 8, 2) := by decide +kernel
theorem dX1_areBits_7 : decode cX1_areBits 7 = .ok (.if_icmp .eq 15, 3) := by decide +kernel
theorem dX1_areBits_10 : decode cX1_areBits 10 = .ok (.iload_n 0, 1) := by decide +kernel
theorem dX1_areBits_11 : decode cX1_areBits 11 = .ok (.bipush 16, 2) := by decide +kernel
theorem dX1_areBits_13 : decode cX1_areBits 13 = .ok (.if_icmp .eq 9, 3) := by decide +kernel
theorem dX1_areBits_16 : decode cX1_areBits 16 = .ok (.iload_n 0, 1) := by decide +kernel
theorem dX1_areBits_17 : decode cX1_areBits 17 = .ok (.bipush 64, 2) := by decide +kernel
theorem dX1_areBits_19 : decode cX1_areBits 19 = .ok (.if_icmp .ne 7, 3) := by decide +kernel
theorem dX1_areBits_22 : decode cX1_areBits 22 = .ok (.iconst 1, 1) := by decide +kernel
theorem dX1_areBits_23 : decode cX1_areBits 23 = .ok (.goto 4, 3) := by decide +kernel
theorem dX1_areBits_26 : decode cX1_areBits 26 = .ok (.iconst 0, 1) := by decide +kernel
theorem dX1_areBits_27 : decode cX1_areBits 27 = .ok (.ireturn, 1) := by decide +kernel
theorem dX1_isMissing_0 : decode cX1_isMissing 0 = .ok (.aload_n 0, 1) := by decide +kernel
theorem dX1_isMissing_1 : decode cX1_isMissing 1 = .ok (.getfield 13, 3) := by decide +kernel
theorem dX1_isMissing_4 : decode cX1_isMissing 4 = .ok (.ifCond .ne 7, 3) := by decide +kernel
theorem dX1_isMissing_7 : decode cX1_isMissing 7 = .ok (.iconst 1, 1) := by decide +kernel
theorem dX1_isMissing_8 : decode cX1_isMissing 8 = .ok (.goto 4, 3) := by decide +kernel
theorem dX1_isMissing_11 : decode cX1_isMissing 11 = .ok (.iconst 0, 1) := by decide +kernel
theorem dX1_isMissing_12 : decode cX1_isMissing 12 = .ok (.ireturn, 1) := by decide +kernel
theorem dX1_renew_0 : decode cX1_renew 0 = .ok (.aload_n 0, 1) := by decide +kernel
theorem dX1_renew_1 : decode cX1_renew 1 = .ok (.iload_n 1, 1) := by decide +kernel
theorem dX1_renew_2 : decode cX1_renew 2 = .ok (.putfield 13, 3) := by decide +kernel
theorem dX1_renew_5 : decode cX1_renew 5 = .ok (.aload_n 0, 1) := by decide +kernel
theorem dX1_renew_6 : decode cX1_renew 6 = .ok (.iload_n 1, 1) := by decide +kernel
theorem dX1_renew_7 : decode cX1_renew 7 = .ok (.ifCond .ne 7, 3) := by decide +kernel
theorem dX1_renew_10 : decode cX1_renew 10 = .ok (.iconst 0, 1) := by decide +kernel
theorem dX1_renew_11 : decode cX1_renew 11 = .ok (.goto 4, 3) := by decide +kernel
theorem dX1_renew_14 : decode cX1_renew 14 = .ok (.iload_n 2, 1) := by decide +kernel
theorem dX1_renew_15 : decode cX1_renew 15 = .ok (.putfield 17, 3) := by decide +kernel
theorem dX1_renew_18 : decode cX1_renew 18 = .ok (.aload_n 0, 1) := by decide +kernel
theorem dX1_renew_19 : decode cX1_renew 19 = .ok (.getfield 9, 3) := by decide +kernel
theorem dX1_renew_22 : decode cX1_renew 22 = .ok (.lconst 0, 1) := by decide +kernel
theorem dX1_renew_23 : decode cX1_renew 23 = .ok (.invokestatic 20, 3) := by decide +kernel
theorem dX1_renew_26 : decode cX1_renew 26 = .ok (.return_, 1) := by decide +kernel
theorem dX1_has_0 : decode cX1_has 0 = .ok (.iload_n 1, 1) := by decide +kernel
theorem dX1_has_1 : decode cX1_has 1 = .ok (.ifCond .lt 21, 3) := by decide +kernel
theorem dX1_has_4 : decode cX1_has 4 = .ok (.iload_n 2, 1) := by decide +kernel
theorem dX1_has_5 : decode cX1_has 5 = .ok (.ifCond .lt 17, 3) := by decide +kernel
theorem dX1_has_8 : decode cX1_has 8 = .ok (.iload_n 1, 1) := by decide +kernel
theorem dX1_has_9 : decode cX1_has 9 = .ok (.aload_n 0, 1) := by decide +kernel
theorem dX1_has_10 : decode cX1_has 10 = .ok (.getfield 17, 3) := by decide +kernel
theorem dX1_has_13 : decode cX1_has 13 = .ok (.iload_n 2, 1) := by decide +kernel
theorem dX1_has_14 : decode cX1_has 14 = .ok (.isub, 1) := by decide +kernel
theorem dX1_has_15 : decode cX1_has 15 = .ok (.if_icmp .gt 7, 3) := by decide +kernel
theorem dX1_has_18 : decode cX1_has 18 = .ok (.iconst 1, 1) := by decide +kernel
theorem dX1_has_19 : decode cX1_has 19 = .ok (.goto 4, 3) := by decide +kernel
theorem dX1_has_22 : decode cX1_has 22 = .ok (.iconst 0, 1) := by decide +kernel
theorem dX1_has_23 : decode cX1_has 23 = .ok (.ireturn, 1) := by decide +kernel
theorem dX1_store_0 : decode cX1_store 0 = .ok (.aload_n 0, 1) := by decide +kernel
theorem dX1_store_1 : decode cX1_store 1 = .ok (.getfield 13, 3) := by decide +kernel
theorem dX1_store_4 : decode cX1_store 4 = .ok (.bipush 8, 2) := by decide +kernel
theorem dX1_store_6 : decode cX1_store 6 = .ok (.if_icmp .ne 16, 3) := by decide +kernel
theorem dX1_store_9 : decode cX1_store 9 = .ok (.aload_n 0, 1) := by decide +kernel
theorem dX1_store_10 : decode cX1_store 10 = .ok (.getfield 9, 3) := by decide +kernel
theorem dX1_store_13 : decode cX1_store 13 = .ok (.iload_n 1, 1) := by decide +kernel
theorem dX1_store_14 : decode cX1_store 14 = .ok (.lload_n 2, 1) := by decide +kernel
theorem dX1_store_15 : decode cX1_store 15 = .ok (.l2i, 1) := by decide +kernel
theorem dX1_store_16 : decode cX1_store 16 = .ok (.i2b, 1) := by decide +kernel
theorem dX1_store_17 : decode cX1_store 17 = .ok (.i2l, 1) := by decide +kernel
theorem dX1_store_18 : decode cX1_store 18 = .ok (.lastore, 1) := by decide +kernel
theorem dX1_store_19 : decode cX1_store 19 = .ok (.goto 32, 3) := by decide +kernel
theorem dX1_store_22 : decode cX1_store 22 = .ok (.aload_n 0, 1) := by decide +kernel
theorem dX1_store_23 : decode cX1_store 23 = .ok (.getfield 13, 3) := by decide +kernel
theorem dX1_store_26 : decode cX1_store 26 = .ok (.bipush 16, 2) := by decide +kernel
theorem dX1_store_28 : decode cX1_store 28 = .ok (.if_icmp .ne 16, 3) := by decide +kernel
theorem dX1_store_31 : decode cX1_store 31 = .ok (.aload_n 0, 1) := by decide +kernel
theorem dX1_store_32 : decode cX1_store 32 = .ok (.getfield 9, 3) := by decide +kernel
theorem dX1_store_35 : decode cX1_store 35 = .ok (.iload_n 1, 1) := by decide +kernel
theorem dX1_store_36 : decode cX1_store 36 = .ok (.lload_n 2, 1) := by decide +kernel
theorem dX1_store_37 : decode cX1_store 37 = .ok (.l2i, 1) := by decide +kernel
theorem dX1_store_38 : decode cX1_store 38 = .ok (.i2s, 1) := by decide +kernel
theorem dX1_store_39 : decode cX1_store 39 = .ok (.i2l, 1) := by decide +kernel
theorem dX1_store_40 : decode cX1_store 40 = .ok (.lastore, 1) := by decide +kernel
theorem dX1_store_41 : decode cX1_store 41 = .ok (.goto 10, 3) := by decide +kernel
theorem dX1_store_44 : decode cX1_store 44 = .ok (.aload_n 0, 1) := by decide +kernel
theorem dX1_store_45 : decode cX1_store 45 = .ok (.getfield 9, 3) := by decide +kernel
theorem dX1_store_48 : decode cX1_store 48 = .ok (.iload_n 1, 1) := by decide +kernel
theorem dX1_store_49 : decode cX1_store 49 = .ok (.lload_n 2, 1) := by decide +kernel
theorem dX1_store_50 : decode cX1_store 50 = .ok (.lastore, 1) := by decide +kernel
theorem dX1_store_51 : decode cX1_store 51 = .ok (.return_, 1) := by decide +kernel
theorem dX2_init_0 : decode cX2_init 0 = .ok (.aload_n 0, 1) := by decide +kernel
theorem dX2_init_1 : decode cX2_init 1 = .ok (.invokespecial 3, 3) := by decide +kernel
theorem dX2_init_4 : decode cX2_init 4 = .ok (.aload_n 0, 1) := by decide +kernel
theorem dX2_init_5 : decode cX2_init 5 = .ok (.bipush 120, 2) := by decide +kernel
theorem dX2_init_7 : decode cX2_init 7 = .ok (.newarray .byte, 2) := by decide +kernel
theorem dX2_init_9 : decode cX2_init 9 = .ok (.putfield 11, 3) := by decide +kernel
theorem dX2_init_12 : decode cX2_init 12 = .ok (.aload_n 0, 1) := by decide +kernel
theorem dX2_init_13 : decode cX2_init 13 = .ok (.iconst 0, 1) := by decide +kernel
theorem dX2_init_14 : decode cX2_init 14 = .ok (.putfield 15, 3) := by decide +kernel
theorem dX2_init_17 : decode cX2_init 17 = .ok (.aload_n 0, 1) := by decide +kernel
theorem dX2_init_18 : decode cX2_init 18 = .ok (.iconst 0, 1) := by decide +kernel
theorem dX2_init_19 : decode cX2_init 19 = .ok (.putfield 19, 3) := by decide +kernel
theorem dX2_init_22 : decode cX2_init 22 = .ok (.aload_n 0, 1) := by decide +kernel
theorem dX2_init_23 : decode cX2_init 23 = .ok (.iconst 0, 1) := by decide +kernel
theorem dX2_init_24 : decode cX2_init 24 = .ok (.putfield 22, 3) := by decide +kernel
theorem dX2_init_27 : decode cX2_init 27 = .ok (.aload_n 0, 1) := by decide +kernel
theorem dX2_init_28 : decode cX2_init 28 = .ok (.iconst 0, 1) := by decide +kernel
theorem dX2_init_29 : decode cX2_init 29 = .ok (.putfield 25, 3) := by decide +kernel
theorem dX2_init_32 : decode cX2_init 32 = .ok (.aload_n 0, 1) := by decide +kernel
theorem dX2_init_33 : decode cX2_init 33 = .ok (.iconst 0, 1) := by decide +kernel
theorem dX2_init_34 : decode cX2_init 34 = .ok (.putfield 28, 3) := by decide +kernel
theorem dX2_init_37 : decode cX2_init 37 = .ok (.return_, 1) := by decide +kernel
theorem dX2_hasRoomFor_0 : decode cX2_hasRoomFor 0 = .ok (.aload_n 0, 1) := by decide +kernel
theorem dX2_hasRoomFor_1 : decode cX2_hasRoomFor 1 = .ok (.getfield 15, 3) := by decide +kernel
theorem dX2_hasRoomFor_4 : decode cX2_hasRoomFor 4 = .ok (.bipush 120, 2) := by decide +kernel
theorem dX2_hasRoomFor_6 : decode cX2_hasRoomFor 6 = .ok (.iload_n 1, 1) := by decide +kernel
theorem dX2_hasRoomFor_7 : decode cX2_hasRoomFor 7 = .ok (.isub, 1) := by decide +kernel
theorem dX2_hasRoomFor_8 : decode cX2_hasRoomFor 8 = .ok (.if_icmp .gt 7, 3) := by decide +kernel
theorem dX2_hasRoomFor_11 : decode cX2_hasRoomFor 11 = .ok (.iconst 1, 1) := by decide +kernel
theorem dX2_hasRoomFor_12 : decode cX2_hasRoomFor 12 = .ok (.goto 4, 3) := by decide +kernel
theorem dX2_hasRoomFor_15 : decode cX2_hasRoomFor 15 = .ok (.iconst 0, 1) := by decide +kernel
theorem dX2_hasRoomFor_16 : decode cX2_hasRoomFor 16 = .ok (.ireturn, 1) := by decide +kernel
theorem dX2_append_0 : decode cX2_append 0 = .ok (.aload_n 0, 1) := by decide +kernel
theorem dX2_append_1 : decode cX2_append 1 = .ok (.getfield 11, 3) := by decide +kernel
theorem dX2_append_4 : decode cX2_append 4 = .ok (.aload_n 0, 1) := by decide +kernel
theorem dX2_append_5 : decode cX2_append 5 = .ok (.getfield 15, 3) := by decide +kernel
theorem dX2_append_8 : decode cX2_append 8 = .ok (.iload_n 1, 1) := by decide +kernel
theorem dX2_append_9 : decode cX2_append 9 = .ok (.bastore, 1) := by decide +kernel
theorem dX2_append_10 : decode cX2_append 10 = .ok (.aload_n 0, 1) := by decide +kernel
theorem dX2_append_11 : decode cX2_append 11 = .ok (.dup, 1) := by decide +kernel
theorem dX2_append_12 : decode cX2_append 12 = .ok (.getfield 15, 3) := by decide +kernel
theorem dX2_append_15 : decode cX2_append 15 = .ok (.iconst 1, 1) := by decide +kernel
theorem dX2_append_16 : decode cX2_append 16 = .ok (.iadd, 1) := by decide +kernel
theorem dX2_append_17 : decode cX2_append 17 = .ok (.putfield 15, 3) := by decide +kernel
theorem dX2_append_20 : decode cX2_append 20 = .ok (.return_, 1) := by decide +kernel
theorem dX2_tellTo_0 : decode cX2_tellTo 0 = .ok (.aload_n 0, 1) := by decide +kernel
theorem dX2_tellTo_1 : decode cX2_tellTo 1 = .ok (.iconst 0, 1) := by decide +kernel
theorem dX2_tellTo_2 : decode cX2_tellTo 2 = .ok (.putfield 25, 3) := by decide +kernel
theorem dX2_tellTo_5 : decode cX2_tellTo 5 = .ok (.aload_n 0, 1) := by decide +kernel
theorem dX2_tellTo_6 : decode cX2_tellTo 6 = .ok (.invokevirtual 31, 3) := by decide +kernel
theorem dX2_tellTo_9 : decode cX2_tellTo 9 = .ok (.iconst 1, 1) := by decide +kernel
theorem dX2_tellTo_10 : decode cX2_tellTo 10 = .ok (.istore_n 2, 1) := by decide +kernel
theorem dX2_tellTo_11 : decode cX2_tellTo 11 = .ok (.iload_n 2, 1) := by decide +kernel
theorem dX2_tellTo_12 : decode cX2_tellTo 12 = .ok (.bipush 120, 2) := by decide +kernel
theorem dX2_tellTo_14 : decode cX2_tellTo 14 = .ok (.if_icmp .gt 52, 3) := by decide +kernel
theorem dX2_tellTo_17 : decode cX2_tellTo 17 = .ok (.aload_n 0, 1) := by decide +kernel
theorem dX2_tellTo_18 : decode cX2_tellTo 18 = .ok (.aload_n 1, 1) := by decide +kernel
theorem dX2_tellTo_19 : decode cX2_tellTo 19 = .ok (.invokevirtual 34, 3) := by decide +kernel
theorem dX2_tellTo_22 : decode cX2_tellTo 22 = .ok (.ifCond .ne 10, 3) := by decide +kernel
theorem dX2_tellTo_25 : decode cX2_tellTo 25 = .ok (.iconst (-1), 1) := by decide +kernel
theorem dX2_tellTo_26 : decode cX2_tellTo 26 = .ok (.aload_n 0, 1) := by decide +kernel
theorem dX2_tellTo_27 : decode cX2_tellTo 27 = .ok (.getfield 22, 3) := by decide +kernel
theorem dX2_tellTo_30 : decode cX2_tellTo 30 = .ok (.isub, 1) := by decide +kernel
theorem dX2_tellTo_31 : decode cX2_tellTo 31 = .ok (.ireturn, 1) := by decide +kernel
theorem dX2_tellTo_32 : decode cX2_tellTo 32 = .ok (.aload_n 0, 1) := by decide +kernel
theorem dX2_tellTo_33 : decode cX2_tellTo 33 = .ok (.getfield 19, 3) := by decide +kernel
theorem dX2_tellTo_36 : decode cX2_tellTo 36 = .ok (.ifCond .ne 5, 3) := by decide +kernel
theorem dX2_tellTo_39 : decode cX2_tellTo 39 = .ok (.iload_n 2, 1) := by decide +kernel
theorem dX2_tellTo_40 : decode cX2_tellTo 40 = .ok (.ireturn, 1) := by decide +kernel
theorem dX2_tellTo_41 : decode cX2_tellTo 41 = .ok (.aload_n 0, 1) := by decide +kernel
theorem dX2_tellTo_42 : decode cX2_tellTo 42 = .ok (.getfield 19, 3) := by decide +kernel
theorem dX2_tellTo_45 : decode cX2_tellTo 45 = .ok (.iconst 3, 1) := by decide +kernel
theorem dX2_tellTo_46 : decode cX2_tellTo 46 = .ok (.if_icmp .eq 10, 3) := by decide +kernel
theorem dX2_tellTo_49 : decode cX2_tellTo 49 = .ok (.iconst (-1), 1) := by decide +kernel
theorem dX2_tellTo_50 : decode cX2_tellTo 50 = .ok (.aload_n 0, 1) := by decide +kernel
theorem dX2_tellTo_51 : decode cX2_tellTo 51 = .ok (.getfield 22, 3) := by decide +kernel
theorem dX2_tellTo_54 : decode cX2_tellTo 54 = .ok (.isub, 1) := by decide +kernel
theorem dX2_tellTo_55 : decode cX2_tellTo 55 = .ok (.ireturn, 1) := by decide +kernel
theorem dX2_tellTo_56 : decode cX2_tellTo 56 = .ok (.aload_n 0, 1) := by decide +kernel
theorem dX2_tellTo_57 : decode cX2_tellTo 57 = .ok (.invokevirtual 31, 3) := by decide +kernel
theorem dX2_tellTo_60 : decode cX2_tellTo 60 = .ok (.iinc 2 1, 3) := by decide +kernel
theorem dX2_tellTo_63 : decode cX2_tellTo 63 = .ok (.goto (-52), 3) := by decide +kernel
theorem dX2_tellTo_66 : decode cX2_tellTo 66 = .ok (.iconst (-1), 1) := by decide +kernel
theorem dX2_tellTo_67 : decode cX2_tellTo 67 = .ok (.aload_n 0, 1) := by decide +kernel
theorem dX2_tellTo_68 : decode cX2_tellTo 68 = .ok (.getfield 22, 3) := by decide +kernel
theorem dX2_tellTo_71 : decode cX2_tellTo 71 = .ok (.isub, 1) := by decide +kernel
theorem dX2_tellTo_72 : decode cX2_tellTo 72 = .ok (.ireturn, 1) := by decide +kernel
theorem dX2_isItemTold_0 : decode cX2_isItemTold 0 = .ok (.aload_n 0, 1) := by decide +kernel
theorem dX2_isItemTold_1 : decode cX2_isItemTold 1 = .ok (.ldc 38, 2) := by decide +kernel
theorem dX2_isItemTold_3 : decode cX2_isItemTold 3 = .ok (.invokevirtual 40, 3) := by decide +kernel
theorem dX2_isItemTold_6 : decode cX2_isItemTold 6 = .ok (.ifCond .eq 9, 3) := by decide +kernel
theorem dX2_isItemTold_9 : decode cX2_isItemTold 9 = .ok (.aload_n 0, 1) := by decide +kernel
theorem dX2_isItemTold_10 : decode cX2_isItemTold 10 = .ok (.aload_n 1, 1) := by decide +kernel
theorem dX2_isItemTold_11 : decode cX2_isItemTold 11 = .ok (.invokevirtual 44, 3) := by decide +kernel
theorem dX2_isItemTold_14 : decode cX2_isItemTold 14 = .ok (.ireturn, 1) := by decide +kernel
theorem dX2_isItemTold_15 : decode cX2_isItemTold 15 = .ok (.aload_n 0, 1) := by decide +kernel
theorem dX2_isItemTold_16 : decode cX2_isItemTold 16 = .ok (.ldc 47, 2) := by decide +kernel
theorem dX2_isItemTold_18 : decode cX2_isItemTold 18 = .ok (.invokevirtual 40, 3) := by decide +kernel
theorem dX2_isItemTold_21 : decode cX2_isItemTold 21 = .ok (.ifCond .eq 9, 3) := by decide +kernel
theorem dX2_isItemTold_24 : decode cX2_isItemTold 24 = .ok (.aload_n 0, 1) := by decide +kernel
theorem dX2_isItemTold_25 : decode cX2_isItemTold 25 = .ok (.aload_n 1, 1) := by decide +kernel
theorem dX2_isItemTold_26 : decode cX2_isItemTold 26 = .ok (.invokevirtual 49, 3) := by decide +kernel
theorem dX2_isItemTold_29 : decode cX2_isItemTold 29 = .ok (.ireturn, 1) := by decide +kernel
theorem dX2_isItemTold_30 : decode cX2_isItemTold 30 = .ok (.aload_n 0, 1) := by decide +kernel
theorem dX2_isItemTold_31 : decode cX2_isItemTold 31 = .ok (.invokevirtual 52, 3) := by decide +kernel
theorem dX2_isItemTold_34 : decode cX2_isItemTold 34 = .ok (.istore_n 2, 1) := by decide +kernel
theorem dX2_isItemTold_35 : decode cX2_isItemTold 35 = .ok (.iload_n 2, 1) := by decide +kernel
theorem dX2_isItemTold_36 : decode cX2_isItemTold 36 = .ok (.ifCond .lt 23, 3) := by decide +kernel
theorem dX2_isItemTold_39 : decode cX2_isItemTold 39 = .ok (.aload_n 1, 1) := by decide +kernel
theorem dX2_isItemTold_40 : decode cX2_isItemTold 40 = .ok (.invokevirtual 56, 3) := by decide +kernel
theorem dX2_isItemTold_43 : decode cX2_isItemTold 43 = .ok (.ifCond .eq 16, 3) := by decide +kernel
theorem dX2_isItemTold_46 : decode cX2_isItemTold 46 = .ok (.aload_n 0, 1) := by decide +kernel
theorem dX2_isItemTold_47 : decode cX2_isItemTold 47 = .ok (.aload_n 1, 1) := by decide +kernel
theorem dX2_isItemTold_48 : decode cX2_isItemTold 48 = .ok (.iload_n 2, 1) := by decide +kernel
theorem dX2_isItemTold_49 : decode cX2_isItemTold 49 = .ok (.invokevirtual 62, 3) := by decide +kernel
theorem dX2_isItemTold_52 : decode cX2_isItemTold 52 = .ok (.ifCond .eq 7, 3) := by decide +kernel
theorem dX2_isItemTold_55 : decode cX2_isItemTold 55 = .ok (.iconst 1, 1) := by decide +kernel
theorem dX2_isItemTold_56 : decode cX2_isItemTold 56 = .ok (.goto 4, 3) := by decide +kernel
theorem dX2_isItemTold_59 : decode cX2_isItemTold 59 = .ok (.iconst 0, 1) := by decide +kernel
theorem dX2_isItemTold_60 : decode cX2_isItemTold 60 = .ok (.ireturn, 1) := by decide +kernel
theorem dX2_isPushTold_0 : decode cX2_isPushTold 0 = .ok (.aload_n 0, 1) := by decide +kernel
theorem dX2_isPushTold_1 : decode cX2_isPushTold 1 = .ok (.invokevirtual 31, 3) := by decide +kernel
theorem dX2_isPushTold_4 : decode cX2_isPushTold 4 = .ok (.aload_n 0, 1) := by decide +kernel
theorem dX2_isPushTold_5 : decode cX2_isPushTold 5 = .ok (.iconst 0, 1) := by decide +kernel
theorem dX2_isPushTold_6 : decode cX2_isPushTold 6 = .ok (.aload_n 1, 1) := by decide +kernel
theorem dX2_isPushTold_7 : decode cX2_isPushTold 7 = .ok (.getfield 66, 3) := by decide +kernel
theorem dX2_isPushTold_10 : decode cX2_isPushTold 10 = .ok (.iconst 1, 1) := by decide +kernel
theorem dX2_isPushTold_11 : decode cX2_isPushTold 11 = .ok (.isub, 1) := by decide +kernel
theorem dX2_isPushTold_12 : decode cX2_isPushTold 12 = .ok (.invokevirtual 69, 3) := by decide +kernel
theorem dX2_isPushTold_15 : decode cX2_isPushTold 15 = .ok (.ifCond .ne 5, 3) := by decide +kernel
theorem dX2_isPushTold_18 : decode cX2_isPushTold 18 = .ok (.iconst 0, 1) := by decide +kernel
theorem dX2_isPushTold_19 : decode cX2_isPushTold 19 = .ok (.ireturn, 1) := by decide +kernel
theorem dX2_isPushTold_20 : decode cX2_isPushTold 20 = .ok (.aload_n 0, 1) := by decide +kernel
theorem dX2_isPushTold_21 : decode cX2_isPushTold 21 = .ok (.getfield 28, 3) := by decide +kernel
theorem dX2_isPushTold_24 : decode cX2_isPushTold 24 = .ok (.istore_n 2, 1) := by decide +kernel
theorem dX2_isPushTold_25 : decode cX2_isPushTold 25 = .ok (.aload_n 0, 1) := by decide +kernel
theorem dX2_isPushTold_26 : decode cX2_isPushTold 26 = .ok (.invokevirtual 31, 3) := by decide +kernel
theorem dX2_isPushTold_29 : decode cX2_isPushTold 29 = .ok (.aload_n 0, 1) := by decide +kernel
theorem dX2_isPushTold_30 : decode cX2_isPushTold 30 = .ok (.iconst 1, 1) := by decide +kernel
theorem dX2_isPushTold_31 : decode cX2_isPushTold 31 = .ok (.bipush 99, 2) := by decide +kernel
theorem dX2_isPushTold_33 : decode cX2_isPushTold 33 = .ok (.invokevirtual 69, 3) := by decide +kernel
theorem dX2_isPushTold_36 : decode cX2_isPushTold 36 = .ok (.ifCond .ne 5, 3) := by decide +kernel
theorem dX2_isPushTold_39 : decode cX2_isPushTold 39 = .ok (.iconst 0, 1) := by decide +kernel
theorem dX2_isPushTold_40 : decode cX2_isPushTold 40 = .ok (.ireturn, 1) := by decide +kernel
theorem dX2_isPushTold_41 : decode cX2_isPushTold 41 = .ok (.aload_n 1, 1) := by decide +kernel
theorem dX2_isPushTold_42 : decode cX2_isPushTold 42 = .ok (.iload_n 2, 1) := by decide +kernel
theorem dX2_isPushTold_43 : decode cX2_isPushTold 43 = .ok (.aload_n 0, 1) := by decide +kernel
theorem dX2_isPushTold_44 : decode cX2_isPushTold 44 = .ok (.getfield 28, 3) := by decide +kernel
theorem dX2_isPushTold_47 : decode cX2_isPushTold 47 = .ok (.invokevirtual 73, 3) := by decide +kernel
theorem dX2_isPushTold_50 : decode cX2_isPushTold 50 = .ok (.aload_n 0, 1) := by decide +kernel
theorem dX2_isPushTold_51 : decode cX2_isPushTold 51 = .ok (.invokevirtual 31, 3) := by decide +kernel
theorem dX2_isPushTold_54 : decode cX2_isPushTold 54 = .ok (.iconst 1, 1) := by decide +kernel
theorem dX2_isPushTold_55 : decode cX2_isPushTold 55 = .ok (.ireturn, 1) := by decide +kernel
theorem dX2_isDarkTold_0 : decode cX2_isDarkTold 0 = .ok (.aload_n 0, 1) := by decide +kernel
theorem dX2_isDarkTold_1 : decode cX2_isDarkTold 1 = .ok (.invokevirtual 31, 3) := by decide +kernel
theorem dX2_isDarkTold_4 : decode cX2_isDarkTold 4 = .ok (.aload_n 0, 1) := by decide +kernel
theorem dX2_isDarkTold_5 : decode cX2_isDarkTold 5 = .ok (.iconst 0, 1) := by decide +kernel
theorem dX2_isDarkTold_6 : decode cX2_isDarkTold 6 = .ok (.bipush 59, 2) := by decide +kernel
theorem dX2_isDarkTold_8 : decode cX2_isDarkTold 8 = .ok (.invokevirtual 69, 3) := by decide +kernel
theorem dX2_isDarkTold_11 : decode cX2_isDarkTold 11 = .ok (.ifCond .ne 5, 3) := by decide +kernel
theorem dX2_isDarkTold_14 : decode cX2_isDarkTold 14 = .ok (.iconst 0, 1) := by decide +kernel
theorem dX2_isDarkTold_15 : decode cX2_isDarkTold 15 = .ok (.ireturn, 1) := by decide +kernel
theorem dX2_isDarkTold_16 : decode cX2_isDarkTold 16 = .ok (.aload_n 1, 1) := by decide +kernel
theorem dX2_isDarkTold_17 : decode cX2_isDarkTold 17 = .ok (.aload_n 0, 1) := by decide +kernel
theorem dX2_isDarkTold_18 : decode cX2_isDarkTold 18 = .ok (.getfield 28, 3) := by decide +kernel
theorem dX2_isDarkTold_21 : decode cX2_isDarkTold 21 = .ok (.putfield 77, 3) := by decide +kernel
theorem dX2_isDarkTold_24 : decode cX2_isDarkTold 24 = .ok (.aload_n 0, 1) := by decide +kernel
theorem dX2_isDarkTold_25 : decode cX2_isDarkTold 25 = .ok (.invokevirtual 31, 3) := by decide +kernel
theorem dX2_isDarkTold_28 : decode cX2_isDarkTold 28 = .ok (.iconst 1, 1) := by decide +kernel
theorem dX2_isDarkTold_29 : decode cX2_isDarkTold 29 = .ok (.ireturn, 1) := by decide +kernel
theorem dX2_isChildTold_0 : decode cX2_isChildTold 0 = .ok (.aload_n 1, 1) := by decide +kernel
theorem dX2_isChildTold_1 : decode cX2_isChildTold 1 = .ok (.iload_n 2, 1) := by decide +kernel
theorem dX2_isChildTold_2 : decode cX2_isChildTold 2 = .ok (.invokevirtual 80, 3) := by decide +kernel
theorem dX2_isChildTold_5 : decode cX2_isChildTold 5 = .ok (.istore_n 3, 1) := by decide +kernel
theorem dX2_isChildTold_6 : decode cX2_isChildTold 6 = .ok (.aload_n 0, 1) := by decide +kernel
theorem dX2_isChildTold_7 : decode cX2_isChildTold 7 = .ok (.invokevirtual 31, 3) := by decide +kernel
theorem dX2_isChildTold_10 : decode cX2_isChildTold 10 = .ok (.aload_n 0, 1) := by decide +kernel
theorem dX2_isChildTold_11 : decode cX2_isChildTold 11 = .ok (.ldc 84, 2) := by decide +kernel
theorem dX2_isChildTold_13 : decode cX2_isChildTold 13 = .ok (.sipush 200, 3) := by decide +kernel
theorem dX2_isChildTold_16 : decode cX2_isChildTold 16 = .ok (.aload_n 1, 1) := by decide +kernel
theorem dX2_isChildTold_17 : decode cX2_isChildTold 17 = .ok (.getfield 86, 3) := by decide +kernel
theorem dX2_isChildTold_20 : decode cX2_isChildTold 20 = .ok (.iload_n 3, 1) := by decide +kernel
theorem dX2_isChildTold_21 : decode cX2_isChildTold 21 = .ok (.invokevirtual 90, 3) := by decide +kernel
theorem dX2_isChildTold_24 : decode cX2_isChildTold 24 = .ok (.ifCond .eq 23, 3) := by decide +kernel
theorem dX2_isChildTold_27 : decode cX2_isChildTold 27 = .ok (.aload_n 0, 1) := by decide +kernel
theorem dX2_isChildTold_28 : decode cX2_isChildTold 28 = .ok (.ldc 94, 2) := by decide +kernel
theorem dX2_isChildTold_30 : decode cX2_isChildTold 30 = .ok (.bipush 99, 2) := by decide +kernel
theorem dX2_isChildTold_32 : decode cX2_isChildTold 32 = .ok (.aload_n 1, 1) := by decide +kernel
theorem dX2_isChildTold_33 : decode cX2_isChildTold 33 = .ok (.getfield 96, 3) := by decide +kernel
theorem dX2_isChildTold_36 : decode cX2_isChildTold 36 = .ok (.iload_n 3, 1) := by decide +kernel
theorem dX2_isChildTold_37 : decode cX2_isChildTold 37 = .ok (.invokevirtual 90, 3) := by decide +kernel
theorem dX2_isChildTold_40 : decode cX2_isChildTold 40 = .ok (.ifCond .eq 7, 3) := by decide +kernel
theorem dX2_isChildTold_43 : decode cX2_isChildTold 43 = .ok (.iconst 1, 1) := by decide +kernel
theorem dX2_isChildTold_44 : decode cX2_isChildTold 44 = .ok (.goto 4, 3) := by decide +kernel
theorem dX2_isChildTold_47 : decode cX2_isChildTold 47 = .ok (.iconst 0, 1) := by decide +kernel
theorem dX2_isChildTold_48 : decode cX2_isChildTold 48 = .ok (.ireturn, 1) := by decide +kernel
theorem dX2_isPartTold_0 : decode cX2_isPartTold 0 = .ok (.aload_n 0, 1) := by decide +kernel
theorem dX2_isPartTold_1 : decode cX2_isPartTold 1 = .ok (.aload_n 1, 1) := by decide +kernel
theorem dX2_isPartTold_2 : decode cX2_isPartTold 2 = .ok (.invokevirtual 40, 3) := by decide +kernel
theorem dX2_isPartTold_5 : decode cX2_isPartTold 5 = .ok (.ifCond .ne 5, 3) := by decide +kernel
theorem dX2_isPartTold_8 : decode cX2_isPartTold 8 = .ok (.iconst 1, 1) := by decide +kernel
theorem dX2_isPartTold_9 : decode cX2_isPartTold 9 = .ok (.ireturn, 1) := by decide +kernel
theorem dX2_isPartTold_10 : decode cX2_isPartTold 10 = .ok (.aload_n 0, 1) := by decide +kernel
theorem dX2_isPartTold_11 : decode cX2_isPartTold 11 = .ok (.invokevirtual 31, 3) := by decide +kernel
theorem dX2_isPartTold_14 : decode cX2_isPartTold 14 = .ok (.aload_n 0, 1) := by decide +kernel
theorem dX2_isPartTold_15 : decode cX2_isPartTold 15 = .ok (.iconst 0, 1) := by decide +kernel
theorem dX2_isPartTold_16 : decode cX2_isPartTold 16 = .ok (.iload_n 2, 1) := by decide +kernel
theorem dX2_isPartTold_17 : decode cX2_isPartTold 17 = .ok (.invokevirtual 69, 3) := by decide +kernel
theorem dX2_isPartTold_20 : decode cX2_isPartTold 20 = .ok (.ifCond .ne 5, 3) := by decide +kernel
theorem dX2_isPartTold_23 : decode cX2_isPartTold 23 = .ok (.iconst 0, 1) := by decide +kernel
theorem dX2_isPartTold_24 : decode cX2_isPartTold 24 = .ok (.ireturn, 1) := by decide +kernel
theorem dX2_isPartTold_25 : decode cX2_isPartTold 25 = .ok (.aload_n 3, 1) := by decide +kernel
theorem dX2_isPartTold_26 : decode cX2_isPartTold 26 = .ok (.iload 4, 2) := by decide +kernel
theorem dX2_isPartTold_28 : decode cX2_isPartTold 28 = .ok (.aload_n 0, 1) := by decide +kernel
theorem dX2_isPartTold_29 : decode cX2_isPartTold 29 = .ok (.getfield 28, 3) := by decide +kernel
theorem dX2_isPartTold_32 : decode cX2_isPartTold 32 = .ok (.iastore, 1) := by decide +kernel
theorem dX2_isPartTold_33 : decode cX2_isPartTold 33 = .ok (.aload_n 0, 1) := by decide +kernel
theorem dX2_isPartTold_34 : decode cX2_isPartTold 34 = .ok (.invokevirtual 31, 3) := by decide +kernel
theorem dX2_isPartTold_37 : decode cX2_isPartTold 37 = .ok (.iconst 1, 1) := by decide +kernel
theorem dX2_isPartTold_38 : decode cX2_isPartTold 38 = .ok (.ireturn, 1) := by decide +kernel
theorem dX2_isNumberWithin_0 : decode cX2_isNumberWithin 0 = .ok (.aload_n 0, 1) := by decide +kernel
theorem dX2_isNumberWithin_1 : decode cX2_isNumberWithin 1 = .ok (.getfield 19, 3) := by decide +kernel
theorem dX2_isNumberWithin_4 : decode cX2_isNumberWithin 4 = .ok (.iconst 2, 1) := by decide +kernel
theorem dX2_isNumberWithin_5 : decode cX2_isNumberWithin 5 = .ok (.if_icmp .ne 23, 3) := by decide +kernel
theorem dX2_isNumberWithin_8 : decode cX2_isNumberWithin 8 = .ok (.aload_n 0, 1) := by decide +kernel
theorem dX2_isNumberWithin_9 : decode cX2_isNumberWithin 9 = .ok (.getfield 28, 3) := by decide +kernel
theorem dX2_isNumberWithin_12 : decode cX2_isNumberWithin 12 = .ok (.iload_n 1, 1) := by decide +kernel
theorem dX2_isNumberWithin_13 : decode cX2_isNumberWithin 13 = .ok (.if_icmp .lt 15, 3) := by decide +kernel
theorem dX2_isNumberWithin_16 : decode cX2_isNumberWithin 16 = .ok (.aload_n 0, 1) := by decide +kernel
theorem dX2_isNumberWithin_17 : decode cX2_isNumberWithin 17 = .ok (.getfield 28, 3) := by decide +kernel
theorem dX2_isNumberWithin_20 : decode cX2_isNumberWithin 20 = .ok (.iload_n 2, 1) := by decide +kernel
theorem dX2_isNumberWithin_21 : decode cX2_isNumberWithin 21 = .ok (.if_icmp .gt 7, 3) := by decide +kernel
theorem dX2_isNumberWithin_24 : decode cX2_isNumberWithin 24 = .ok (.iconst 1, 1) := by decide +kernel
theorem dX2_isNumberWithin_25 : decode cX2_isNumberWithin 25 = .ok (.goto 4, 3) := by decide +kernel
theorem dX2_isNumberWithin_28 : decode cX2_isNumberWithin 28 = .ok (.iconst 0, 1) := by decide +kernel
theorem dX2_isNumberWithin_29 : decode cX2_isNumberWithin 29 = .ok (.ireturn, 1) := by decide +kernel
theorem dX2_kindNamed_0 : decode cX2_kindNamed 0 = .ok (.iconst 0, 1) := by decide +kernel
theorem dX2_kindNamed_1 : decode cX2_kindNamed 1 = .ok (.istore_n 1, 1) := by decide +kernel
theorem dX2_kindNamed_2 : decode cX2_kindNamed 2 = .ok (.iload_n 1, 1) := by decide +kernel
theorem dX2_kindNamed_3 : decode cX2_kindNamed 3 = .ok (.bipush 6, 2) := by decide +kernel
theorem dX2_kindNamed_5 : decode cX2_kindNamed 5 = .ok (.if_icmp .ge 22, 3) := by decide +kernel
theorem dX2_kindNamed_8 : decode cX2_kindNamed 8 = .ok (.aload_n 0, 1) := by decide +kernel
theorem dX2_kindNamed_9 : decode cX2_kindNamed 9 = .ok (.iload_n 1, 1) := by decide +kernel
theorem dX2_kindNamed_10 : decode cX2_kindNamed 10 = .ok (.invokestatic 99, 3) := by decide +kernel
theorem dX2_kindNamed_13 : decode cX2_kindNamed 13 = .ok (.invokevirtual 40, 3) := by decide +kernel
theorem dX2_kindNamed_16 : decode cX2_kindNamed 16 = .ok (.ifCond .eq 5, 3) := by decide +kernel
theorem dX2_kindNamed_19 : decode cX2_kindNamed 19 = .ok (.iload_n 1, 1) := by decide +kernel
theorem dX2_kindNamed_20 : decode cX2_kindNamed 20 = .ok (.ireturn, 1) := by decide +kernel
theorem dX2_kindNamed_21 : decode cX2_kindNamed 21 = .ok (.iinc 1 1, 3) := by decide +kernel
theorem dX2_kindNamed_24 : decode cX2_kindNamed 24 = .ok (.goto (-22), 3) := by decide +kernel
theorem dX2_kindNamed_27 : decode cX2_kindNamed 27 = .ok (.iconst (-1), 1) := by decide +kernel
theorem dX2_kindNamed_28 : decode cX2_kindNamed 28 = .ok (.ireturn, 1) := by decide +kernel
theorem dX2_nameOf_0 : decode cX2_nameOf 0 = .ok (.iload_n 0, 1) := by decide +kernel
theorem dX2_nameOf_1 : decode cX2_nameOf 1 = .ok (.tableswitch 50 1 5 #[35, 38, 41, 44, 47], 35) := by decide +kernel
theorem dX2_nameOf_36 : decode cX2_nameOf 36 = .ok (.ldc 103, 2) := by decide +kernel
theorem dX2_nameOf_38 : decode cX2_nameOf 38 = .ok (.areturn, 1) := by decide +kernel
theorem dX2_nameOf_39 : decode cX2_nameOf 39 = .ok (.ldc 105, 2) := by decide +kernel
theorem dX2_nameOf_41 : decode cX2_nameOf 41 = .ok (.areturn, 1) := by decide +kernel
theorem dX2_nameOf_42 : decode cX2_nameOf 42 = .ok (.ldc 107, 2) := by decide +kernel
theorem dX2_nameOf_44 : decode cX2_nameOf 44 = .ok (.areturn, 1) := by decide +kernel
theorem dX2_nameOf_45 : decode cX2_nameOf 45 = .ok (.ldc 109, 2) := by decide +kernel
theorem dX2_nameOf_47 : decode cX2_nameOf 47 = .ok (.areturn, 1) := by decide +kernel
theorem dX2_nameOf_48 : decode cX2_nameOf 48 = .ok (.ldc 111, 2) := by decide +kernel
theorem dX2_nameOf_50 : decode cX2_nameOf 50 = .ok (.areturn, 1) := by decide +kernel
theorem dX2_nameOf_51 : decode cX2_nameOf 51 = .ok (.ldc 113, 2) := by decide +kernel
theorem dX2_nameOf_53 : decode cX2_nameOf 53 = .ok (.areturn, 1) := by decide +kernel
theorem dX2_isWord_0 : decode cX2_isWord 0 = .ok (.aload_n 0, 1) := by decide +kernel
theorem dX2_isWord_1 : decode cX2_isWord 1 = .ok (.getfield 19, 3) := by decide +kernel
theorem dX2_isWord_4 : decode cX2_isWord 4 = .ok (.iconst 1, 1) := by decide +kernel
theorem dX2_isWord_5 : decode cX2_isWord 5 = .ok (.if_icmp .ne 19, 3) := by decide +kernel
theorem dX2_isWord_8 : decode cX2_isWord 8 = .ok (.aload_n 0, 1) := by decide +kernel
theorem dX2_isWord_9 : decode cX2_isWord 9 = .ok (.getfield 25, 3) := by decide +kernel
theorem dX2_isWord_12 : decode cX2_isWord 12 = .ok (.aload_n 0, 1) := by decide +kernel
theorem dX2_isWord_13 : decode cX2_isWord 13 = .ok (.getfield 22, 3) := by decide +kernel
theorem dX2_isWord_16 : decode cX2_isWord 16 = .ok (.isub, 1) := by decide +kernel
theorem dX2_isWord_17 : decode cX2_isWord 17 = .ok (.aload_n 1, 1) := by decide +kernel
theorem dX2_isWord_18 : decode cX2_isWord 18 = .ok (.invokevirtual 115, 3) := by decide +kernel
theorem dX2_isWord_21 : decode cX2_isWord 21 = .ok (.if_icmp .eq 5, 3) := by decide +kernel
theorem dX2_isWord_24 : decode cX2_isWord 24 = .ok (.iconst 0, 1) := by decide +kernel
theorem dX2_isWord_25 : decode cX2_isWord 25 = .ok (.ireturn, 1) := by decide +kernel
theorem dX2_isWord_26 : decode cX2_isWord 26 = .ok (.iconst 0, 1) := by decide +kernel
theorem dX2_isWord_27 : decode cX2_isWord 27 = .ok (.istore_n 2, 1) := by decide +kernel
theorem dX2_isWord_28 : decode cX2_isWord 28 = .ok (.iload_n 2, 1) := by decide +kernel
theorem dX2_isWord_29 : decode cX2_isWord 29 = .ok (.aload_n 1, 1) := by decide +kernel
theorem dX2_isWord_30 : decode cX2_isWord 30 = .ok (.invokevirtual 115, 3) := by decide +kernel
theorem dX2_isWord_33 : decode cX2_isWord 33 = .ok (.if_icmp .ge 30, 3) := by decide +kernel
theorem dX2_isWord_36 : decode cX2_isWord 36 = .ok (.aload_n 0, 1) := by decide +kernel
theorem dX2_isWord_37 : decode cX2_isWord 37 = .ok (.getfield 11, 3) := by decide +kernel
theorem dX2_isWord_40 : decode cX2_isWord 40 = .ok (.aload_n 0, 1) := by decide +kernel
theorem dX2_isWord_41 : decode cX2_isWord 41 = .ok (.getfield 22, 3) := by decide +kernel
theorem dX2_isWord_44 : decode cX2_isWord 44 = .ok (.iload_n 2, 1) := by decide +kernel
theorem dX2_isWord_45 : decode cX2_isWord 45 = .ok (.iadd, 1) := by decide +kernel
theorem dX2_isWord_46 : decode cX2_isWord 46 = .ok (.baload, 1) := by decide +kernel
theorem dX2_isWord_47 : decode cX2_isWord 47 = .ok (.aload_n 1, 1) := by decide +kernel
theorem dX2_isWord_48 : decode cX2_isWord 48 = .ok (.iload_n 2, 1) := by decide +kernel
theorem dX2_isWord_49 : decode cX2_isWord 49 = .ok (.invokevirtual 119, 3) := by decide +kernel
theorem dX2_isWord_52 : decode cX2_isWord 52 = .ok (.if_icmp .eq 5, 3) := by decide +kernel
theorem dX2_isWord_55 : decode cX2_isWord 55 = .ok (.iconst 0, 1) := by decide +kernel
theorem dX2_isWord_56 : decode cX2_isWord 56 = .ok (.ireturn, 1) := by decide +kernel
theorem dX2_isWord_57 : decode cX2_isWord 57 = .ok (.iinc 2 1, 3) := by decide +kernel
theorem dX2_isWord_60 : decode cX2_isWord 60 = .ok (.goto (-32), 3) := by decide +kernel
theorem dX2_isWord_63 : decode cX2_isWord 63 = .ok (.iconst 1, 1) := by decide +kernel
theorem dX2_isWord_64 : decode cX2_isWord 64 = .ok (.ireturn, 1) := by decide +kernel
theorem dX2_advance_0 : decode cX2_advance 0 = .ok (.aload_n 0, 1) := by decide +kernel
theorem dX2_advance_1 : decode cX2_advance 1 = .ok (.aload_n 0, 1) := by decide +kernel
theorem dX2_advance_2 : decode cX2_advance 2 = .ok (.getfield 25, 3) := by decide +kernel
theorem dX2_advance_5 : decode cX2_advance 5 = .ok (.putfield 22, 3) := by decide +kernel
theorem dX2_advance_8 : decode cX2_advance 8 = .ok (.aload_n 0, 1) := by decide +kernel
theorem dX2_advance_9 : decode cX2_advance 9 = .ok (.getfield 22, 3) := by decide +kernel
theorem dX2_advance_12 : decode cX2_advance 12 = .ok (.aload_n 0, 1) := by decide +kernel
theorem dX2_advance_13 : decode cX2_advance 13 = .ok (.getfield 15, 3) := by decide +kernel
theorem dX2_advance_16 : decode cX2_advance 16 = .ok (.if_icmp .ge 30, 3) := by decide +kernel
theorem dX2_advance_19 : decode cX2_advance 19 = .ok (.aload_n 0, 1) := by decide +kernel
theorem dX2_advance_20 : decode cX2_advance 20 = .ok (.getfield 11, 3) := by decide +kernel
theorem dX2_advance_23 : decode cX2_advance 23 = .ok (.aload_n 0, 1) := by decide +kernel
theorem dX2_advance_24 : decode cX2_advance 24 = .ok (.getfield 22, 3) := by decide +kernel
theorem dX2_advance_27 : decode cX2_advance 27 = .ok (.baload, 1) := by decide +kernel
theorem dX2_advance_28 : decode cX2_advance 28 = .ok (.bipush 32, 2) := by decide +kernel
theorem dX2_advance_30 : decode cX2_advance 30 = .ok (.if_icmp .ne 16, 3) := by decide +kernel
theorem dX2_advance_33 : decode cX2_advance 33 = .ok (.aload_n 0, 1) := by decide +kernel
theorem dX2_advance_34 : decode cX2_advance 34 = .ok (.dup, 1) := by decide +kernel
theorem dX2_advance_35 : decode cX2_advance 35 = .ok (.getfield 22, 3) := by decide +kernel
theorem dX2_advance_38 : decode cX2_advance 38 = .ok (.iconst 1, 1) := by decide +kernel
theorem dX2_advance_39 : decode cX2_advance 39 = .ok (.iadd, 1) := by decide +kernel
theorem dX2_advance_40 : decode cX2_advance 40 = .ok (.putfield 22, 3) := by decide +kernel
theorem dX2_advance_43 : decode cX2_advance 43 = .ok (.goto (-35), 3) := by decide +kernel
theorem dX2_advance_46 : decode cX2_advance 46 = .ok (.aload_n 0, 1) := by decide +kernel
theorem dX2_advance_47 : decode cX2_advance 47 = .ok (.aload_n 0, 1) := by decide +kernel
theorem dX2_advance_48 : decode cX2_advance 48 = .ok (.getfield 22, 3) := by decide +kernel
theorem dX2_advance_51 : decode cX2_advance 51 = .ok (.putfield 25, 3) := by decide +kernel
theorem dX2_advance_54 : decode cX2_advance 54 = .ok (.aload_n 0, 1) := by decide +kernel
theorem dX2_advance_55 : decode cX2_advance 55 = .ok (.iconst 0, 1) := by decide +kernel
theorem dX2_advance_56 : decode cX2_advance 56 = .ok (.putfield 28, 3) := by decide +kernel
theorem dX2_advance_59 : decode cX2_advance 59 = .ok (.aload_n 0, 1) := by decide +kernel
theorem dX2_advance_60 : decode cX2_advance 60 = .ok (.getfield 22, 3) := by decide +kernel
theorem dX2_advance_63 : decode cX2_advance 63 = .ok (.aload_n 0, 1) := by decide +kernel
theorem dX2_advance_64 : decode cX2_advance 64 = .ok (.getfield 15, 3) := by decide +kernel
theorem dX2_advance_67 : decode cX2_advance 67 = .ok (.if_icmp .lt 11, 3) := by decide +kernel
theorem dX2_advance_70 : decode cX2_advance 70 = .ok (.aload_n 0, 1) := by decide +kernel
theorem dX2_advance_71 : decode cX2_advance 71 = .ok (.iconst 0, 1) := by decide +kernel
theorem dX2_advance_72 : decode cX2_advance 72 = .ok (.putfield 19, 3) := by decide +kernel
theorem dX2_advance_75 : decode cX2_advance 75 = .ok (.goto 168, 3) := by decide +kernel
theorem dX2_advance_78 : decode cX2_advance 78 = .ok (.aload_n 0, 1) := by decide +kernel
theorem dX2_advance_79 : decode cX2_advance 79 = .ok (.aload_n 0, 1) := by decide +kernel
theorem dX2_advance_80 : decode cX2_advance 80 = .ok (.getfield 22, 3) := by decide +kernel
theorem dX2_advance_83 : decode cX2_advance 83 = .ok (.invokevirtual 123, 3) := by decide +kernel
theorem dX2_advance_86 : decode cX2_advance 86 = .ok (.ifCond .eq 43, 3) := by decide +kernel
theorem dX2_advance_89 : decode cX2_advance 89 = .ok (.aload_n 0, 1) := by decide +kernel
theorem dX2_advance_90 : decode cX2_advance 90 = .ok (.iconst 1, 1) := by decide +kernel
theorem dX2_advance_91 : decode cX2_advance 91 = .ok (.putfield 19, 3) := by decide +kernel
theorem dX2_advance_94 : decode cX2_advance 94 = .ok (.aload_n 0, 1) := by decide +kernel
theorem dX2_advance_95 : decode cX2_advance 95 = .ok (.getfield 25, 3) := by decide +kernel
theorem dX2_advance_98 : decode cX2_advance 98 = .ok (.aload_n 0, 1) := by decide +kernel
theorem dX2_advance_99 : decode cX2_advance 99 = .ok (.getfield 15, 3) := by decide +kernel
theorem dX2_advance_102 : decode cX2_advance 102 = .ok (.if_icmp .ge 141, 3) := by decide +kernel
theorem dX2_advance_105 : decode cX2_advance 105 = .ok (.aload_n 0, 1) := by decide +kernel
theorem dX2_advance_106 : decode cX2_advance 106 = .ok (.aload_n 0, 1) := by decide +kernel
theorem dX2_advance_107 : decode cX2_advance 107 = .ok (.getfield 25, 3) := by decide +kernel
theorem dX2_advance_110 : decode cX2_advance 110 = .ok (.invokevirtual 123, 3) := by decide +kernel
theorem dX2_advance_113 : decode cX2_advance 113 = .ok (.ifCond .eq 130, 3) := by decide +kernel
theorem dX2_advance_116 : decode cX2_advance 116 = .ok (.aload_n 0, 1) := by decide +kernel
theorem dX2_advance_117 : decode cX2_advance 117 = .ok (.dup, 1) := by decide +kernel
theorem dX2_advance_118 : decode cX2_advance 118 = .ok (.getfield 25, 3) := by decide +kernel
theorem dX2_advance_121 : decode cX2_advance 121 = .ok (.iconst 1, 1) := by decide +kernel
theorem dX2_advance_122 : decode cX2_advance 122 = .ok (.iadd, 1) := by decide +kernel
theorem dX2_advance_123 : decode cX2_advance 123 = .ok (.putfield 25, 3) := by decide +kernel
theorem dX2_advance_126 : decode cX2_advance 126 = .ok (.goto (-32), 3) := by decide +kernel
theorem dX2_advance_129 : decode cX2_advance 129 = .ok (.aload_n 0, 1) := by decide +kernel
theorem dX2_advance_130 : decode cX2_advance 130 = .ok (.aload_n 0, 1) := by decide +kernel
theorem dX2_advance_131 : decode cX2_advance 131 = .ok (.getfield 22, 3) := by decide +kernel
theorem dX2_advance_134 : decode cX2_advance 134 = .ok (.invokevirtual 127, 3) := by decide +kernel
theorem dX2_advance_137 : decode cX2_advance 137 = .ok (.ifCond .eq 73, 3) := by decide +kernel
theorem dX2_advance_140 : decode cX2_advance 140 = .ok (.aload_n 0, 1) := by decide +kernel
theorem dX2_advance_141 : decode cX2_advance 141 = .ok (.iconst 2, 1) := by decide +kernel
theorem dX2_advance_142 : decode cX2_advance 142 = .ok (.putfield 19, 3) := by decide +kernel
theorem dX2_advance_145 : decode cX2_advance 145 = .ok (.aload_n 0, 1) := by decide +kernel
theorem dX2_advance_146 : decode cX2_advance 146 = .ok (.getfield 25, 3) := by decide +kernel
theorem dX2_advance_149 : decode cX2_advance 149 = .ok (.aload_n 0, 1) := by decide +kernel
theorem dX2_advance_150 : decode cX2_advance 150 = .ok (.getfield 15, 3) := by decide +kernel
theorem dX2_advance_153 : decode cX2_advance 153 = .ok (.if_icmp .ge 90, 3) := by decide +kernel
theorem dX2_advance_156 : decode cX2_advance 156 = .ok (.aload_n 0, 1) := by decide +kernel
theorem dX2_advance_157 : decode cX2_advance 157 = .ok (.aload_n 0, 1) := by decide +kernel
theorem dX2_advance_158 : decode cX2_advance 158 = .ok (.getfield 25, 3) := by decide +kernel
theorem dX2_advance_161 : decode cX2_advance 161 = .ok (.invokevirtual 127, 3) := by decide +kernel
theorem dX2_advance_164 : decode cX2_advance 164 = .ok (.ifCond .eq 79, 3) := by decide +kernel
theorem dX2_advance_167 : decode cX2_advance 167 = .ok (.aload_n 0, 1) := by decide +kernel
theorem dX2_advance_168 : decode cX2_advance 168 = .ok (.aload_n 0, 1) := by decide +kernel
theorem dX2_advance_169 : decode cX2_advance 169 = .ok (.getfield 28, 3) := by decide +kernel
theorem dX2_advance_172 : decode cX2_advance 172 = .ok (.bipush 10, 2) := by decide +kernel
theorem dX2_advance_174 : decode cX2_advance 174 = .ok (.imul, 1) := by decide +kernel
theorem dX2_advance_175 : decode cX2_advance 175 = .ok (.aload_n 0, 1) := by decide +kernel
theorem dX2_advance_176 : decode cX2_advance 176 = .ok (.getfield 11, 3) := by decide +kernel
theorem dX2_advance_179 : decode cX2_advance 179 = .ok (.aload_n 0, 1) := by decide +kernel
theorem dX2_advance_180 : decode cX2_advance 180 = .ok (.getfield 25, 3) := by decide +kernel
theorem dX2_advance_183 : decode cX2_advance 183 = .ok (.baload, 1) := by decide +kernel
theorem dX2_advance_184 : decode cX2_advance 184 = .ok (.bipush 48, 2) := by decide +kernel
theorem dX2_advance_186 : decode cX2_advance 186 = .ok (.isub, 1) := by decide +kernel
theorem dX2_advance_187 : decode cX2_advance 187 = .ok (.iadd, 1) := by decide +kernel
theorem dX2_advance_188 : decode cX2_advance 188 = .ok (.sipush 1000, 3) := by decide +kernel
theorem dX2_advance_191 : decode cX2_advance 191 = .ok (.invokestatic 130, 3) := by decide +kernel
theorem dX2_advance_194 : decode cX2_advance 194 = .ok (.putfield 28, 3) := by decide +kernel
theorem dX2_advance_197 : decode cX2_advance 197 = .ok (.aload_n 0, 1) := by decide +kernel
theorem dX2_advance_198 : decode cX2_advance 198 = .ok (.dup, 1) := by decide +kernel
theorem dX2_advance_199 : decode cX2_advance 199 = .ok (.getfield 25, 3) := by decide +kernel
theorem dX2_advance_202 : decode cX2_advance 202 = .ok (.iconst 1, 1) := by decide +kernel
theorem dX2_advance_203 : decode cX2_advance 203 = .ok (.iadd, 1) := by decide +kernel
theorem dX2_advance_204 : decode cX2_advance 204 = .ok (.putfield 25, 3) := by decide +kernel
theorem dX2_advance_207 : decode cX2_advance 207 = .ok (.goto (-62), 3) := by decide +kernel
theorem dX2_advance_210 : decode cX2_advance 210 = .ok (.aload_n 0, 1) := by decide +kernel
theorem dX2_advance_211 : decode cX2_advance 211 = .ok (.aload_n 0, 1) := by decide +kernel
theorem dX2_advance_212 : decode cX2_advance 212 = .ok (.getfield 11, 3) := by decide +kernel
theorem dX2_advance_215 : decode cX2_advance 215 = .ok (.aload_n 0, 1) := by decide +kernel
theorem dX2_advance_216 : decode cX2_advance 216 = .ok (.getfield 22, 3) := by decide +kernel
theorem dX2_advance_219 : decode cX2_advance 219 = .ok (.baload, 1) := by decide +kernel
theorem dX2_advance_220 : decode cX2_advance 220 = .ok (.bipush 59, 2) := by decide +kernel
theorem dX2_advance_222 : decode cX2_advance 222 = .ok (.if_icmp .ne 7, 3) := by decide +kernel
theorem dX2_advance_225 : decode cX2_advance 225 = .ok (.iconst 3, 1) := by decide +kernel
theorem dX2_advance_226 : decode cX2_advance 226 = .ok (.goto 4, 3) := by decide +kernel
theorem dX2_advance_229 : decode cX2_advance 229 = .ok (.iconst 4, 1) := by decide +kernel
theorem dX2_advance_230 : decode cX2_advance 230 = .ok (.putfield 19, 3) := by decide +kernel
theorem dX2_advance_233 : decode cX2_advance 233 = .ok (.aload_n 0, 1) := by decide +kernel
theorem dX2_advance_234 : decode cX2_advance 234 = .ok (.dup, 1) := by decide +kernel
theorem dX2_advance_235 : decode cX2_advance 235 = .ok (.getfield 25, 3) := by decide +kernel
theorem dX2_advance_238 : decode cX2_advance 238 = .ok (.iconst 1, 1) := by decide +kernel
theorem dX2_advance_239 : decode cX2_advance 239 = .ok (.iadd, 1) := by decide +kernel
theorem dX2_advance_240 : decode cX2_advance 240 = .ok (.putfield 25, 3) := by decide +kernel
theorem dX2_advance_243 : decode cX2_advance 243 = .ok (.return_, 1) := by decide +kernel
theorem dX2_isLetter_0 : decode cX2_isLetter 0 = .ok (.aload_n 0, 1) := by decide +kernel
theorem dX2_isLetter_1 : decode cX2_isLetter 1 = .ok (.getfield 11, 3) := by decide +kernel
theorem dX2_isLetter_4 : decode cX2_isLetter 4 = .ok (.iload_n 1, 1) := by decide +kernel
theorem dX2_isLetter_5 : decode cX2_isLetter 5 = .ok (.baload, 1) := by decide +kernel
theorem dX2_isLetter_6 : decode cX2_isLetter 6 = .ok (.bipush 97, 2) := by decide +kernel
theorem dX2_isLetter_8 : decode cX2_isLetter 8 = .ok (.if_icmp .lt 18, 3) := by decide +kernel
theorem dX2_isLetter_11 : decode cX2_isLetter 11 = .ok (.aload_n 0, 1) := by decide +kernel
theorem dX2_isLetter_12 : decode cX2_isLetter 12 = .ok (.getfield 11, 3) := by decide +kernel
theorem dX2_isLetter_15 : decode cX2_isLetter 15 = .ok (.iload_n 1, 1) := by decide +kernel
theorem dX2_isLetter_16 : decode cX2_isLetter 16 = .ok (.baload, 1) := by decide +kernel
theorem dX2_isLetter_17 : decode cX2_isLetter 17 = .ok (.bipush 122, 2) := by decide +kernel
theorem dX2_isLetter_19 : decode cX2_isLetter 19 = .ok (.if_icmp .gt 7, 3) := by decide +kernel
theorem dX2_isLetter_22 : decode cX2_isLetter 22 = .ok (.iconst 1, 1) := by decide +kernel
theorem dX2_isLetter_23 : decode cX2_isLetter 23 = .ok (.goto 4, 3) := by decide +kernel
theorem dX2_isLetter_26 : decode cX2_isLetter 26 = .ok (.iconst 0, 1) := by decide +kernel
theorem dX2_isLetter_27 : decode cX2_isLetter 27 = .ok (.ireturn, 1) := by decide +kernel
theorem dX2_isDigit_0 : decode cX2_isDigit 0 = .ok (.aload_n 0, 1) := by decide +kernel
theorem dX2_isDigit_1 : decode cX2_isDigit 1 = .ok (.getfield 11, 3) := by decide +kernel
theorem dX2_isDigit_4 : decode cX2_isDigit 4 = .ok (.iload_n 1, 1) := by decide +kernel
theorem dX2_isDigit_5 : decode cX2_isDigit 5 = .ok (.baload, 1) := by decide +kernel
theorem dX2_isDigit_6 : decode cX2_isDigit 6 = .ok (.bipush 48, 2) := by decide +kernel
theorem dX2_isDigit_8 : decode cX2_isDigit 8 = .ok (.if_icmp .lt 18, 3) := by decide +kernel
theorem dX2_isDigit_11 : decode cX2_isDigit 11 = .ok (.aload_n 0, 1) := by decide +kernel
theorem dX2_isDigit_12 : decode cX2_isDigit 12 = .ok (.getfield 11, 3) := by decide +kernel
theorem dX2_isDigit_15 : decode cX2_isDigit 15 = .ok (.iload_n 1, 1) := by decide +kernel
theorem dX2_isDigit_16 : decode cX2_isDigit 16 = .ok (.baload, 1) := by decide +kernel
theorem dX2_isDigit_17 : decode cX2_isDigit 17 = .ok (.bipush 57, 2) := by decide +kernel
theorem dX2_isDigit_19 : decode cX2_isDigit 19 = .ok (.if_icmp .gt 7, 3) := by decide +kernel
theorem dX2_isDigit_22 : decode cX2_isDigit 22 = .ok (.iconst 1, 1) := by decide +kernel
theorem dX2_isDigit_23 : decode cX2_isDigit 23 = .ok (.goto 4, 3) := by decide +kernel
theorem dX2_isDigit_26 : decode cX2_isDigit 26 = .ok (.iconst 0, 1) := by decide +kernel
theorem dX2_isDigit_27 : decode cX2_isDigit 27 = .ok (.ireturn, 1) := by decide +kernel
theorem dX3_init_0 : decode cX3_init 0 = .ok (.aload_n 0, 1) := by decide +kernel
theorem dX3_init_1 : decode cX3_init 1 = .ok (.invokespecial 1, 3) := by decide +kernel
theorem dX3_init_4 : decode cX3_init 4 = .ok (.aload_n 0, 1) := by decide +kernel
theorem dX3_init_5 : decode cX3_init 5 = .ok (.new 7, 3) := by decide +kernel
theorem dX3_init_8 : decode cX3_init 8 = .ok (.dup, 1) := by decide +kernel
theorem dX3_init_9 : decode cX3_init 9 = .ok (.invokespecial 9, 3) := by decide +kernel
theorem dX3_init_12 : decode cX3_init 12 = .ok (.putfield 10, 3) := by decide +kernel
theorem dX3_init_15 : decode cX3_init 15 = .ok (.aload_n 0, 1) := by decide +kernel
theorem dX3_init_16 : decode cX3_init 16 = .ok (.new 7, 3) := by decide +kernel
theorem dX3_init_19 : decode cX3_init 19 = .ok (.dup, 1) := by decide +kernel
theorem dX3_init_20 : decode cX3_init 20 = .ok (.invokespecial 9, 3) := by decide +kernel
theorem dX3_init_23 : decode cX3_init 23 = .ok (.putfield 16, 3) := by decide +kernel
theorem dX3_init_26 : decode cX3_init 26 = .ok (.aload_n 0, 1) := by decide +kernel
theorem dX3_init_27 : decode cX3_init 27 = .ok (.new 7, 3) := by decide +kernel
theorem dX3_init_30 : decode cX3_init 30 = .ok (.dup, 1) := by decide +kernel
theorem dX3_init_31 : decode cX3_init 31 = .ok (.invokespecial 9, 3) := by decide +kernel
theorem dX3_init_34 : decode cX3_init 34 = .ok (.putfield 19, 3) := by decide +kernel
theorem dX3_init_37 : decode cX3_init 37 = .ok (.aload_n 0, 1) := by decide +kernel
theorem dX3_init_38 : decode cX3_init 38 = .ok (.iconst 0, 1) := by decide +kernel
theorem dX3_init_39 : decode cX3_init 39 = .ok (.putfield 22, 3) := by decide +kernel
theorem dX3_init_42 : decode cX3_init 42 = .ok (.aload_n 0, 1) := by decide +kernel
theorem dX3_init_43 : decode cX3_init 43 = .ok (.new 26, 3) := by decide +kernel
theorem dX3_init_46 : decode cX3_init 46 = .ok (.dup, 1) := by decide +kernel
theorem dX3_init_47 : decode cX3_init 47 = .ok (.invokespecial 28, 3) := by decide +kernel
theorem dX3_init_50 : decode cX3_init 50 = .ok (.putfield 29, 3) := by decide +kernel
theorem dX3_init_53 : decode cX3_init 53 = .ok (.aload_n 0, 1) := by decide +kernel
theorem dX3_init_54 : decode cX3_init 54 = .ok (.iconst 4, 1) := by decide +kernel
theorem dX3_init_55 : decode cX3_init 55 = .ok (.anewarray 33, 3) := by decide +kernel
theorem dX3_init_58 : decode cX3_init 58 = .ok (.putfield 35, 3) := by decide +kernel
theorem dX3_init_61 : decode cX3_init 61 = .ok (.iconst 0, 1) := by decide +kernel
theorem dX3_init_62 : decode cX3_init 62 = .ok (.istore_n 1, 1) := by decide +kernel
theorem dX3_init_63 : decode cX3_init 63 = .ok (.iload_n 1, 1) := by decide +kernel
theorem dX3_init_64 : decode cX3_init 64 = .ok (.iconst 4, 1) := by decide +kernel
theorem dX3_init_65 : decode cX3_init 65 = .ok (.if_icmp .ge 22, 3) := by decide +kernel
theorem dX3_init_68 : decode cX3_init 68 = .ok (.aload_n 0, 1) := by decide +kernel
theorem dX3_init_69 : decode cX3_init 69 = .ok (.getfield 35, 3) := by decide +kernel
theorem dX3_init_72 : decode cX3_init 72 = .ok (.iload_n 1, 1) := by decide +kernel
theorem dX3_init_73 : decode cX3_init 73 = .ok (.new 33, 3) := by decide +kernel
theorem dX3_init_76 : decode cX3_init 76 = .ok (.dup, 1) := by decide +kernel
theorem dX3_init_77 : decode cX3_init 77 = .ok (.invokespecial 39, 3) := by decide +kernel
theorem dX3_init_80 : decode cX3_init 80 = .ok (.aastore, 1) := by decide +kernel
theorem dX3_init_81 : decode cX3_init 81 = .ok (.iinc 1 1, 3) := by decide +kernel
theorem dX3_init_84 : decode cX3_init 84 = .ok (.goto (-21), 3) := by decide +kernel
theorem dX3_init_87 : decode cX3_init 87 = .ok (.aload_n 0, 1) := by decide +kernel
theorem dX3_init_88 : decode cX3_init 88 = .ok (.bipush 7, 2) := by decide +kernel
theorem dX3_init_90 : decode cX3_init 90 = .ok (.newarray .int, 2) := by decide +kernel
theorem dX3_init_92 : decode cX3_init 92 = .ok (.putfield 40, 3) := by decide +kernel
theorem dX3_init_95 : decode cX3_init 95 = .ok (.return_, 1) := by decide +kernel
theorem dX3_dark_0 : decode cX3_dark 0 = .ok (.iload_n 1, 1) := by decide +kernel
theorem dX3_dark_1 : decode cX3_dark 1 = .ok (.iconst 0, 1) := by decide +kernel
theorem dX3_dark_2 : decode cX3_dark 2 = .ok (.bipush 59, 2) := by decide +kernel
theorem dX3_dark_4 : decode cX3_dark 4 = .ok (.invokestatic 44, 3) := by decide +kernel
theorem dX3_dark_7 : decode cX3_dark 7 = .ok (.ifCond .ne 9, 3) := by decide +kernel
theorem dX3_dark_10 : decode cX3_dark 10 = .ok (.aload_n 0, 1) := by decide +kernel
theorem dX3_dark_11 : decode cX3_dark 11 = .ok (.iconst 0, 1) := by decide +kernel
theorem dX3_dark_12 : decode cX3_dark 12 = .ok (.invokevirtual 48, 3) := by decide +kernel
theorem dX3_dark_15 : decode cX3_dark 15 = .ok (.ireturn, 1) := by decide +kernel
theorem dX3_dark_16 : decode cX3_dark 16 = .ok (.aload_n 0, 1) := by decide +kernel
theorem dX3_dark_17 : decode cX3_dark 17 = .ok (.getfield 10, 3) := by decide +kernel
theorem dX3_dark_20 : decode cX3_dark 20 = .ok (.getfield 52, 3) := by decide +kernel
theorem dX3_dark_23 : decode cX3_dark 23 = .ok (.istore_n 2, 1) := by decide +kernel
theorem dX3_dark_24 : decode cX3_dark 24 = .ok (.aload_n 0, 1) := by decide +kernel
theorem dX3_dark_25 : decode cX3_dark 25 = .ok (.getfield 10, 3) := by decide +kernel
theorem dX3_dark_28 : decode cX3_dark 28 = .ok (.iload_n 1, 1) := by decide +kernel
theorem dX3_dark_29 : decode cX3_dark 29 = .ok (.putfield 52, 3) := by decide +kernel
theorem dX3_dark_32 : decode cX3_dark 32 = .ok (.iload_n 2, 1) := by decide +kernel
theorem dX3_dark_33 : decode cX3_dark 33 = .ok (.ireturn, 1) := by decide +kernel
theorem dX3_now_0 : decode cX3_now 0 = .ok (.iload_n 1, 1) := by decide +kernel
theorem dX3_now_1 : decode cX3_now 1 = .ok (.tableswitch 124 0 7 #[47, 55, 63, 74, 85, 97, 108, 116], 47) := by decide +kernel
theorem dX3_now_48 : decode cX3_now 48 = .ok (.aload_n 0, 1) := by decide +kernel
theorem dX3_now_49 : decode cX3_now 49 = .ok (.getfield 10, 3) := by decide +kernel
theorem dX3_now_52 : decode cX3_now 52 = .ok (.getfield 56, 3) := by decide +kernel
theorem dX3_now_55 : decode cX3_now 55 = .ok (.ireturn, 1) := by decide +kernel
theorem dX3_now_56 : decode cX3_now 56 = .ok (.aload_n 0, 1) := by decide +kernel
theorem dX3_now_57 : decode cX3_now 57 = .ok (.getfield 10, 3) := by decide +kernel
theorem dX3_now_60 : decode cX3_now 60 = .ok (.invokevirtual 59, 3) := by decide +kernel
theorem dX3_now_63 : decode cX3_now 63 = .ok (.ireturn, 1) := by decide +kernel
theorem dX3_now_64 : decode cX3_now 64 = .ok (.aload_n 0, 1) := by decide +kernel
theorem dX3_now_65 : decode cX3_now 65 = .ok (.getfield 10, 3) := by decide +kernel
theorem dX3_now_68 : decode cX3_now 68 = .ok (.invokevirtual 63, 3) := by decide +kernel
theorem dX3_now_71 : decode cX3_now 71 = .ok (.invokestatic 67, 3) := by decide +kernel
theorem dX3_now_74 : decode cX3_now 74 = .ok (.ireturn, 1) := by decide +kernel
theorem dX3_now_75 : decode cX3_now 75 = .ok (.aload_n 0, 1) := by decide +kernel
theorem dX3_now_76 : decode cX3_now 76 = .ok (.getfield 10, 3) := by decide +kernel
theorem dX3_now_79 : decode cX3_now 79 = .ok (.invokevirtual 71, 3) := by decide +kernel
theorem dX3_now_82 : decode cX3_now 82 = .ok (.invokestatic 67, 3) := by decide +kernel
theorem dX3_now_85 : decode cX3_now 85 = .ok (.ireturn, 1) := by decide +kernel
theorem dX3_now_86 : decode cX3_now 86 = .ok (.aload_n 0, 1) := by decide +kernel
theorem dX3_now_87 : decode cX3_now 87 = .ok (.aload_n 0, 1) := by decide +kernel
theorem dX3_now_88 : decode cX3_now 88 = .ok (.getfield 10, 3) := by decide +kernel
theorem dX3_now_91 : decode cX3_now 91 = .ok (.getfield 74, 3) := by decide +kernel
theorem dX3_now_94 : decode cX3_now 94 = .ok (.invokevirtual 77, 3) := by decide +kernel
theorem dX3_now_97 : decode cX3_now 97 = .ok (.ireturn, 1) := by decide +kernel
theorem dX3_now_98 : decode cX3_now 98 = .ok (.aload_n 0, 1) := by decide +kernel
theorem dX3_now_99 : decode cX3_now 99 = .ok (.getfield 10, 3) := by decide +kernel
theorem dX3_now_102 : decode cX3_now 102 = .ok (.invokevirtual 81, 3) := by decide +kernel
theorem dX3_now_105 : decode cX3_now 105 = .ok (.invokestatic 67, 3) := by decide +kernel
theorem dX3_now_108 : decode cX3_now 108 = .ok (.ireturn, 1) := by decide +kernel
theorem dX3_now_109 : decode cX3_now 109 = .ok (.aload_n 0, 1) := by decide +kernel
theorem dX3_now_110 : decode cX3_now 110 = .ok (.getfield 10, 3) := by decide +kernel
theorem dX3_now_113 : decode cX3_now 113 = .ok (.invokevirtual 84, 3) := by decide +kernel
theorem dX3_now_116 : decode cX3_now 116 = .ok (.ireturn, 1) := by decide +kernel
theorem dX3_now_117 : decode cX3_now 117 = .ok (.aload_n 0, 1) := by decide +kernel
theorem dX3_now_118 : decode cX3_now 118 = .ok (.getfield 10, 3) := by decide +kernel
theorem dX3_now_121 : decode cX3_now 121 = .ok (.invokevirtual 87, 3) := by decide +kernel
theorem dX3_now_124 : decode cX3_now 124 = .ok (.ireturn, 1) := by decide +kernel
theorem dX3_now_125 : decode cX3_now 125 = .ok (.aload_n 0, 1) := by decide +kernel
theorem dX3_now_126 : decode cX3_now 126 = .ok (.iconst 0, 1) := by decide +kernel
theorem dX3_now_127 : decode cX3_now 127 = .ok (.invokevirtual 48, 3) := by decide +kernel
theorem dX3_now_130 : decode cX3_now 130 = .ok (.ireturn, 1) := by decide +kernel
theorem dX3_child_0 : decode cX3_child 0 = .ok (.iload_n 1, 1) := by decide +kernel
theorem dX3_child_1 : decode cX3_child 1 = .ok (.invokestatic 90, 3) := by decide +kernel
theorem dX3_child_4 : decode cX3_child 4 = .ok (.ifCond .ne 9, 3) := by decide +kernel
theorem dX3_child_7 : decode cX3_child 7 = .ok (.aload_n 0, 1) := by decide +kernel
theorem dX3_child_8 : decode cX3_child 8 = .ok (.iconst 0, 1) := by decide +kernel
theorem dX3_child_9 : decode cX3_child 9 = .ok (.invokevirtual 48, 3) := by decide +kernel
theorem dX3_child_12 : decode cX3_child 12 = .ok (.ireturn, 1) := by decide +kernel
theorem dX3_child_13 : decode cX3_child 13 = .ok (.aload_n 0, 1) := by decide +kernel
theorem dX3_child_14 : decode cX3_child 14 = .ok (.getfield 10, 3) := by decide +kernel
theorem dX3_child_17 : decode cX3_child 17 = .ok (.invokevirtual 94, 3) := by decide +kernel
theorem dX3_child_20 : decode cX3_child 20 = .ok (.ifCond .ne 9, 3) := by decide +kernel
theorem dX3_child_23 : decode cX3_child 23 = .ok (.aload_n 0, 1) := by decide +kernel
theorem dX3_child_24 : decode cX3_child 24 = .ok (.iconst 1, 1) := by decide +kernel
theorem dX3_child_25 : decode cX3_child 25 = .ok (.invokevirtual 48, 3) := by decide +kernel
theorem dX3_child_28 : decode cX3_child 28 = .ok (.ireturn, 1) := by decide +kernel
theorem dX3_child_29 : decode cX3_child 29 = .ok (.aload_n 0, 1) := by decide +kernel
theorem dX3_child_30 : decode cX3_child 30 = .ok (.getfield 10, 3) := by decide +kernel
theorem dX3_child_33 : decode cX3_child 33 = .ok (.iload_n 1, 1) := by decide +kernel
theorem dX3_child_34 : decode cX3_child 34 = .ok (.invokevirtual 97, 3) := by decide +kernel
theorem dX3_child_37 : decode cX3_child 37 = .ok (.ireturn, 1) := by decide +kernel
theorem dX3_of_0 : decode cX3_of 0 = .ok (.aload_n 0, 1) := by decide +kernel
theorem dX3_of_1 : decode cX3_of 1 = .ok (.iload_n 1, 1) := by decide +kernel
theorem dX3_of_2 : decode cX3_of 2 = .ok (.invokevirtual 100, 3) := by decide +kernel
theorem dX3_of_5 : decode cX3_of 5 = .ok (.ifCond .ne 9, 3) := by decide +kernel
theorem dX3_of_8 : decode cX3_of 8 = .ok (.aload_n 0, 1) := by decide +kernel
theorem dX3_of_9 : decode cX3_of 9 = .ok (.iconst 0, 1) := by decide +kernel
theorem dX3_of_10 : decode cX3_of 10 = .ok (.invokevirtual 48, 3) := by decide +kernel
theorem dX3_of_13 : decode cX3_of 13 = .ok (.ireturn, 1) := by decide +kernel
theorem dX3_of_14 : decode cX3_of 14 = .ok (.iload_n 2, 1) := by decide +kernel
theorem dX3_of_15 : decode cX3_of 15 = .ok (.tableswitch 114 0 6 #[41, 51, 61, 71, 84, 96, 105], 41) := by decide +kernel
theorem dX3_of_56 : decode cX3_of 56 = .ok (.aload_n 0, 1) := by decide +kernel
theorem dX3_of_57 : decode cX3_of 57 = .ok (.getfield 10, 3) := by decide +kernel
theorem dX3_of_60 : decode cX3_of 60 = .ok (.getfield 103, 3) := by decide +kernel
theorem dX3_of_63 : decode cX3_of 63 = .ok (.iload_n 1, 1) := by decide +kernel
theorem dX3_of_64 : decode cX3_of 64 = .ok (.iaload, 1) := by decide +kernel
theorem dX3_of_65 : decode cX3_of 65 = .ok (.ireturn, 1) := by decide +kernel
theorem dX3_of_66 : decode cX3_of 66 = .ok (.aload_n 0, 1) := by decide +kernel
theorem dX3_of_67 : decode cX3_of 67 = .ok (.getfield 10, 3) := by decide +kernel
theorem dX3_of_70 : decode cX3_of 70 = .ok (.getfield 74, 3) := by decide +kernel
theorem dX3_of_73 : decode cX3_of 73 = .ok (.iload_n 1, 1) := by decide +kernel
theorem dX3_of_74 : decode cX3_of 74 = .ok (.iaload, 1) := by decide +kernel
theorem dX3_of_75 : decode cX3_of 75 = .ok (.ireturn, 1) := by decide +kernel
theorem dX3_of_76 : decode cX3_of 76 = .ok (.aload_n 0, 1) := by decide +kernel
theorem dX3_of_77 : decode cX3_of 77 = .ok (.getfield 10, 3) := by decide +kernel
theorem dX3_of_80 : decode cX3_of 80 = .ok (.getfield 106, 3) := by decide +kernel
theorem dX3_of_83 : decode cX3_of 83 = .ok (.iload_n 1, 1) := by decide +kernel
theorem dX3_of_84 : decode cX3_of 84 = .ok (.iaload, 1) := by decide +kernel
theorem dX3_of_85 : decode cX3_of 85 = .ok (.ireturn, 1) := by decide +kernel
theorem dX3_of_86 : decode cX3_of 86 = .ok (.ldc 109, 2) := by decide +kernel
theorem dX3_of_88 : decode cX3_of 88 = .ok (.aload_n 0, 1) := by decide +kernel
theorem dX3_of_89 : decode cX3_of 89 = .ok (.getfield 10, 3) := by decide +kernel
theorem dX3_of_92 : decode cX3_of 92 = .ok (.getfield 110, 3) := by decide +kernel
theorem dX3_of_95 : decode cX3_of 95 = .ok (.iload_n 1, 1) := by decide +kernel
theorem dX3_of_96 : decode cX3_of 96 = .ok (.iaload, 1) := by decide +kernel
theorem dX3_of_97 : decode cX3_of 97 = .ok (.iadd, 1) := by decide +kernel
theorem dX3_of_98 : decode cX3_of 98 = .ok (.ireturn, 1) := by decide +kernel
theorem dX3_of_99 : decode cX3_of 99 = .ok (.bipush 100, 2) := by decide +kernel
theorem dX3_of_101 : decode cX3_of 101 = .ok (.aload_n 0, 1) := by decide +kernel
theorem dX3_of_102 : decode cX3_of 102 = .ok (.getfield 10, 3) := by decide +kernel
theorem dX3_of_105 : decode cX3_of 105 = .ok (.iload_n 1, 1) := by decide +kernel
theorem dX3_of_106 : decode cX3_of 106 = .ok (.invokevirtual 113, 3) := by decide +kernel
theorem dX3_of_109 : decode cX3_of 109 = .ok (.iadd, 1) := by decide +kernel
theorem dX3_of_110 : decode cX3_of 110 = .ok (.ireturn, 1) := by decide +kernel
theorem dX3_of_111 : decode cX3_of 111 = .ok (.aload_n 0, 1) := by decide +kernel
theorem dX3_of_112 : decode cX3_of 112 = .ok (.getfield 10, 3) := by decide +kernel
theorem dX3_of_115 : decode cX3_of 115 = .ok (.iload_n 1, 1) := by decide +kernel
theorem dX3_of_116 : decode cX3_of 116 = .ok (.invokevirtual 116, 3) := by decide +kernel
theorem dX3_of_119 : decode cX3_of 119 = .ok (.ireturn, 1) := by decide +kernel
theorem dX3_of_120 : decode cX3_of 120 = .ok (.aload_n 0, 1) := by decide +kernel
theorem dX3_of_121 : decode cX3_of 121 = .ok (.getfield 10, 3) := by decide +kernel
theorem dX3_of_124 : decode cX3_of 124 = .ok (.iload_n 1, 1) := by decide +kernel
theorem dX3_of_125 : decode cX3_of 125 = .ok (.invokevirtual 119, 3) := by decide +kernel
theorem dX3_of_128 : decode cX3_of 128 = .ok (.ireturn, 1) := by decide +kernel
theorem dX3_of_129 : decode cX3_of 129 = .ok (.aload_n 0, 1) := by decide +kernel
theorem dX3_of_130 : decode cX3_of 130 = .ok (.iconst 0, 1) := by decide +kernel
theorem dX3_of_131 : decode cX3_of 131 = .ok (.invokevirtual 48, 3) := by decide +kernel
theorem dX3_of_134 : decode cX3_of 134 = .ok (.ireturn, 1) := by decide +kernel
theorem dX3_set_0 : decode cX3_set 0 = .ok (.aload_n 0, 1) := by decide +kernel
theorem dX3_set_1 : decode cX3_set 1 = .ok (.iload_n 1, 1) := by decide +kernel
theorem dX3_set_2 : decode cX3_set 2 = .ok (.invokevirtual 100, 3) := by decide +kernel
theorem dX3_set_5 : decode cX3_set 5 = .ok (.ifCond .ne 9, 3) := by decide +kernel
theorem dX3_set_8 : decode cX3_set 8 = .ok (.aload_n 0, 1) := by decide +kernel
theorem dX3_set_9 : decode cX3_set 9 = .ok (.iconst 0, 1) := by decide +kernel
theorem dX3_set_10 : decode cX3_set 10 = .ok (.invokevirtual 48, 3) := by decide +kernel
theorem dX3_set_13 : decode cX3_set 13 = .ok (.ireturn, 1) := by decide +kernel
theorem dX3_set_14 : decode cX3_set 14 = .ok (.iload_n 2, 1) := by decide +kernel
theorem dX3_set_15 : decode cX3_set 15 = .ok (.tableswitch 80 1 3 #[25, 43, 60], 25) := by decide +kernel
theorem dX3_set_40 : decode cX3_set 40 = .ok (.aload_n 0, 1) := by decide +kernel
theorem dX3_set_41 : decode cX3_set 41 = .ok (.aload_n 0, 1) := by decide +kernel
theorem dX3_set_42 : decode cX3_set 42 = .ok (.getfield 10, 3) := by decide +kernel
theorem dX3_set_45 : decode cX3_set 45 = .ok (.getfield 74, 3) := by decide +kernel
theorem dX3_set_48 : decode cX3_set 48 = .ok (.iload_n 1, 1) := by decide +kernel
theorem dX3_set_49 : decode cX3_set 49 = .ok (.iload_n 3, 1) := by decide +kernel
theorem dX3_set_50 : decode cX3_set 50 = .ok (.iconst 0, 1) := by decide +kernel
theorem dX3_set_51 : decode cX3_set 51 = .ok (.sipush 200, 3) := by decide +kernel
theorem dX3_set_54 : decode cX3_set 54 = .ok (.invokevirtual 122, 3) := by decide +kernel
theorem dX3_set_57 : decode cX3_set 57 = .ok (.ireturn, 1) := by decide +kernel
theorem dX3_set_58 : decode cX3_set 58 = .ok (.aload_n 0, 1) := by decide +kernel
theorem dX3_set_59 : decode cX3_set 59 = .ok (.aload_n 0, 1) := by decide +kernel
theorem dX3_set_60 : decode cX3_set 60 = .ok (.getfield 10, 3) := by decide +kernel
theorem dX3_set_63 : decode cX3_set 63 = .ok (.getfield 106, 3) := by decide +kernel
theorem dX3_set_66 : decode cX3_set 66 = .ok (.iload_n 1, 1) := by decide +kernel
theorem dX3_set_67 : decode cX3_set 67 = .ok (.iload_n 3, 1) := by decide +kernel
theorem dX3_set_68 : decode cX3_set 68 = .ok (.iconst 0, 1) := by decide +kernel
theorem dX3_set_69 : decode cX3_set 69 = .ok (.bipush 99, 2) := by decide +kernel
theorem dX3_set_71 : decode cX3_set 71 = .ok (.invokevirtual 122, 3) := by decide +kernel
theorem dX3_set_74 : decode cX3_set 74 = .ok (.ireturn, 1) := by decide +kernel
theorem dX3_set_75 : decode cX3_set 75 = .ok (.aload_n 0, 1) := by decide +kernel
theorem dX3_set_76 : decode cX3_set 76 = .ok (.aload_n 0, 1) := by decide +kernel
theorem dX3_set_77 : decode cX3_set 77 = .ok (.getfield 10, 3) := by decide +kernel
theorem dX3_set_80 : decode cX3_set 80 = .ok (.getfield 110, 3) := by decide +kernel
theorem dX3_set_83 : decode cX3_set 83 = .ok (.iload_n 1, 1) := by decide +kernel
theorem dX3_set_84 : decode cX3_set 84 = .ok (.iload_n 3, 1) := by decide +kernel
theorem dX3_set_85 : decode cX3_set 85 = .ok (.sipush (-9999), 3) := by decide +kernel
theorem dX3_set_88 : decode cX3_set 88 = .ok (.sipush 9999, 3) := by decide +kernel
theorem dX3_set_91 : decode cX3_set 91 = .ok (.invokevirtual 122, 3) := by decide +kernel
theorem dX3_set_94 : decode cX3_set 94 = .ok (.ireturn, 1) := by decide +kernel
theorem dX3_set_95 : decode cX3_set 95 = .ok (.aload_n 0, 1) := by decide +kernel
theorem dX3_set_96 : decode cX3_set 96 = .ok (.iconst 0, 1) := by decide +kernel
theorem dX3_set_97 : decode cX3_set 97 = .ok (.invokevirtual 48, 3) := by decide +kernel
theorem dX3_set_100 : decode cX3_set 100 = .ok (.ireturn, 1) := by decide +kernel
theorem dX3_turn_0 : decode cX3_turn 0 = .ok (.aload_n 0, 1) := by decide +kernel
theorem dX3_turn_1 : decode cX3_turn 1 = .ok (.iload_n 1, 1) := by decide +kernel
theorem dX3_turn_2 : decode cX3_turn 2 = .ok (.invokevirtual 100, 3) := by decide +kernel
theorem dX3_turn_5 : decode cX3_turn 5 = .ok (.ifCond .eq 10, 3) := by decide +kernel
theorem dX3_turn_8 : decode cX3_turn 8 = .ok (.iload_n 2, 1) := by decide +kernel
theorem dX3_turn_9 : decode cX3_turn 9 = .ok (.invokestatic 90, 3) := by decide +kernel
theorem dX3_turn_12 : decode cX3_turn 12 = .ok (.ifCond .ne 9, 3) := by decide +kernel
theorem dX3_turn_15 : decode cX3_turn 15 = .ok (.aload_n 0, 1) := by decide +kernel
theorem dX3_turn_16 : decode cX3_turn 16 = .ok (.iconst 0, 1) := by decide +kernel
theorem dX3_turn_17 : decode cX3_turn 17 = .ok (.invokevirtual 48, 3) := by decide +kernel
theorem dX3_turn_20 : decode cX3_turn 20 = .ok (.ireturn, 1) := by decide +kernel
theorem dX3_turn_21 : decode cX3_turn 21 = .ok (.aload_n 0, 1) := by decide +kernel
theorem dX3_turn_22 : decode cX3_turn 22 = .ok (.getfield 10, 3) := by decide +kernel
theorem dX3_turn_25 : decode cX3_turn 25 = .ok (.getfield 103, 3) := by decide +kernel
theorem dX3_turn_28 : decode cX3_turn 28 = .ok (.iload_n 1, 1) := by decide +kernel
theorem dX3_turn_29 : decode cX3_turn 29 = .ok (.iaload, 1) := by decide +kernel
theorem dX3_turn_30 : decode cX3_turn 30 = .ok (.istore_n 3, 1) := by decide +kernel
theorem dX3_turn_31 : decode cX3_turn 31 = .ok (.aload_n 0, 1) := by decide +kernel
theorem dX3_turn_32 : decode cX3_turn 32 = .ok (.getfield 10, 3) := by decide +kernel
theorem dX3_turn_35 : decode cX3_turn 35 = .ok (.getfield 103, 3) := by decide +kernel
theorem dX3_turn_38 : decode cX3_turn 38 = .ok (.iload_n 1, 1) := by decide +kernel
theorem dX3_turn_39 : decode cX3_turn 39 = .ok (.iload_n 2, 1) := by decide +kernel
theorem dX3_turn_40 : decode cX3_turn 40 = .ok (.iastore, 1) := by decide +kernel
theorem dX3_turn_41 : decode cX3_turn 41 = .ok (.iload_n 3, 1) := by decide +kernel
theorem dX3_turn_42 : decode cX3_turn 42 = .ok (.ireturn, 1) := by decide +kernel
theorem dX3_as_0 : decode cX3_as 0 = .ok (.aload_n 0, 1) := by decide +kernel
theorem dX3_as_1 : decode cX3_as 1 = .ok (.iload_n 1, 1) := by decide +kernel
theorem dX3_as_2 : decode cX3_as 2 = .ok (.invokevirtual 100, 3) := by decide +kernel
theorem dX3_as_5 : decode cX3_as 5 = .ok (.ifCond .eq 10, 3) := by decide +kernel
theorem dX3_as_8 : decode cX3_as 8 = .ok (.iload_n 2, 1) := by decide +kernel
theorem dX3_as_9 : decode cX3_as 9 = .ok (.invokestatic 90, 3) := by decide +kernel
theorem dX3_as_12 : decode cX3_as 12 = .ok (.ifCond .ne 9, 3) := by decide +kernel
theorem dX3_as_15 : decode cX3_as 15 = .ok (.aload_n 0, 1) := by decide +kernel
theorem dX3_as_16 : decode cX3_as 16 = .ok (.iconst 0, 1) := by decide +kernel
theorem dX3_as_17 : decode cX3_as 17 = .ok (.invokevirtual 48, 3) := by decide +kernel
theorem dX3_as_20 : decode cX3_as 20 = .ok (.ireturn, 1) := by decide +kernel
theorem dX3_as_21 : decode cX3_as 21 = .ok (.aload_n 0, 1) := by decide +kernel
theorem dX3_as_22 : decode cX3_as 22 = .ok (.getfield 10, 3) := by decide +kernel
theorem dX3_as_25 : decode cX3_as 25 = .ok (.getfield 103, 3) := by decide +kernel
theorem dX3_as_28 : decode cX3_as 28 = .ok (.iload_n 1, 1) := by decide +kernel
theorem dX3_as_29 : decode cX3_as 29 = .ok (.iaload, 1) := by decide +kernel
theorem dX3_as_30 : decode cX3_as 30 = .ok (.iload_n 2, 1) := by decide +kernel
theorem dX3_as_31 : decode cX3_as 31 = .ok (.invokestatic 126, 3) := by decide +kernel
theorem dX3_as_34 : decode cX3_as 34 = .ok (.ifCond .ne 9, 3) := by decide +kernel
theorem dX3_as_37 : decode cX3_as 37 = .ok (.aload_n 0, 1) := by decide +kernel
theorem dX3_as_38 : decode cX3_as 38 = .ok (.iconst 2, 1) := by decide +kernel
theorem dX3_as_39 : decode cX3_as 39 = .ok (.invokevirtual 48, 3) := by decide +kernel
theorem dX3_as_42 : decode cX3_as 42 = .ok (.ireturn, 1) := by decide +kernel
theorem dX3_as_43 : decode cX3_as 43 = .ok (.aload_n 0, 1) := by decide +kernel
theorem dX3_as_44 : decode cX3_as 44 = .ok (.getfield 10, 3) := by decide +kernel
theorem dX3_as_47 : decode cX3_as 47 = .ok (.getfield 74, 3) := by decide +kernel
theorem dX3_as_50 : decode cX3_as 50 = .ok (.iload_n 1, 1) := by decide +kernel
theorem dX3_as_51 : decode cX3_as 51 = .ok (.iaload, 1) := by decide +kernel
theorem dX3_as_52 : decode cX3_as 52 = .ok (.ireturn, 1) := by decide +kernel
theorem dX3_push_0 : decode cX3_push 0 = .ok (.aload_n 0, 1) := by decide +kernel
theorem dX3_push_1 : decode cX3_push 1 = .ok (.iload_n 1, 1) := by decide +kernel
theorem dX3_push_2 : decode cX3_push 2 = .ok (.invokevirtual 100, 3) := by decide +kernel
theorem dX3_push_5 : decode cX3_push 5 = .ok (.ifCond .eq 13, 3) := by decide +kernel
theorem dX3_push_8 : decode cX3_push 8 = .ok (.iload_n 2, 1) := by decide +kernel
theorem dX3_push_9 : decode cX3_push 9 = .ok (.iconst 1, 1) := by decide +kernel
theorem dX3_push_10 : decode cX3_push 10 = .ok (.bipush 99, 2) := by decide +kernel
theorem dX3_push_12 : decode cX3_push 12 = .ok (.invokestatic 44, 3) := by decide +kernel
theorem dX3_push_15 : decode cX3_push 15 = .ok (.ifCond .ne 9, 3) := by decide +kernel
theorem dX3_push_18 : decode cX3_push 18 = .ok (.aload_n 0, 1) := by decide +kernel
theorem dX3_push_19 : decode cX3_push 19 = .ok (.iconst 0, 1) := by decide +kernel
theorem dX3_push_20 : decode cX3_push 20 = .ok (.invokevirtual 48, 3) := by decide +kernel
theorem dX3_push_23 : decode cX3_push 23 = .ok (.ireturn, 1) := by decide +kernel
theorem dX3_push_24 : decode cX3_push 24 = .ok (.aload_n 0, 1) := by decide +kernel
theorem dX3_push_25 : decode cX3_push 25 = .ok (.getfield 10, 3) := by decide +kernel
theorem dX3_push_28 : decode cX3_push 28 = .ok (.iload_n 1, 1) := by decide +kernel
theorem dX3_push_29 : decode cX3_push 29 = .ok (.iload_n 2, 1) := by decide +kernel
theorem dX3_push_30 : decode cX3_push 30 = .ok (.invokevirtual 130, 3) := by decide +kernel
theorem dX3_push_33 : decode cX3_push 33 = .ok (.aload_n 0, 1) := by decide +kernel
theorem dX3_push_34 : decode cX3_push 34 = .ok (.getfield 10, 3) := by decide +kernel
theorem dX3_push_37 : decode cX3_push 37 = .ok (.getfield 74, 3) := by decide +kernel
theorem dX3_push_40 : decode cX3_push 40 = .ok (.iload_n 1, 1) := by decide +kernel
theorem dX3_push_41 : decode cX3_push 41 = .ok (.iaload, 1) := by decide +kernel
theorem dX3_push_42 : decode cX3_push 42 = .ok (.ireturn, 1) := by decide +kernel
theorem dX3_swap_0 : decode cX3_swap 0 = .ok (.aload_n 0, 1) := by decide +kernel
theorem dX3_swap_1 : decode cX3_swap 1 = .ok (.iload_n 1, 1) := by decide +kernel
theorem dX3_swap_2 : decode cX3_swap 2 = .ok (.iload_n 2, 1) := by decide +kernel
theorem dX3_swap_3 : decode cX3_swap 3 = .ok (.invokevirtual 134, 3) := by decide +kernel
theorem dX3_swap_6 : decode cX3_swap 6 = .ok (.ifCond .ne 9, 3) := by decide +kernel
theorem dX3_swap_9 : decode cX3_swap 9 = .ok (.aload_n 0, 1) := by decide +kernel
theorem dX3_swap_10 : decode cX3_swap 10 = .ok (.iconst 0, 1) := by decide +kernel
theorem dX3_swap_11 : decode cX3_swap 11 = .ok (.invokevirtual 48, 3) := by decide +kernel
theorem dX3_swap_14 : decode cX3_swap 14 = .ok (.ireturn, 1) := by decide +kernel
theorem dX3_swap_15 : decode cX3_swap 15 = .ok (.aload_n 0, 1) := by decide +kernel
theorem dX3_swap_16 : decode cX3_swap 16 = .ok (.getfield 10, 3) := by decide +kernel
theorem dX3_swap_19 : decode cX3_swap 19 = .ok (.iload_n 1, 1) := by decide +kernel
theorem dX3_swap_20 : decode cX3_swap 20 = .ok (.iload_n 2, 1) := by decide +kernel
theorem dX3_swap_21 : decode cX3_swap 21 = .ok (.invokevirtual 137, 3) := by decide +kernel
theorem dX3_swap_24 : decode cX3_swap 24 = .ok (.iconst 1, 1) := by decide +kernel
theorem dX3_swap_25 : decode cX3_swap 25 = .ok (.ireturn, 1) := by decide +kernel
theorem dX3_minutes_0 : decode cX3_minutes 0 = .ok (.iload_n 1, 1) := by decide +kernel
theorem dX3_minutes_1 : decode cX3_minutes 1 = .ok (.iconst 1, 1) := by decide +kernel
theorem dX3_minutes_2 : decode cX3_minutes 2 = .ok (.sipush 200, 3) := by decide +kernel
theorem dX3_minutes_5 : decode cX3_minutes 5 = .ok (.invokestatic 44, 3) := by decide +kernel
theorem dX3_minutes_8 : decode cX3_minutes 8 = .ok (.ifCond .ne 9, 3) := by decide +kernel
theorem dX3_minutes_11 : decode cX3_minutes 11 = .ok (.aload_n 0, 1) := by decide +kernel
theorem dX3_minutes_12 : decode cX3_minutes 12 = .ok (.iconst 0, 1) := by decide +kernel
theorem dX3_minutes_13 : decode cX3_minutes 13 = .ok (.invokevirtual 48, 3) := by decide +kernel
theorem dX3_minutes_16 : decode cX3_minutes 16 = .ok (.ireturn, 1) := by decide +kernel
theorem dX3_minutes_17 : decode cX3_minutes 17 = .ok (.aload_n 0, 1) := by decide +kernel
theorem dX3_minutes_18 : decode cX3_minutes 18 = .ok (.getfield 10, 3) := by decide +kernel
theorem dX3_minutes_21 : decode cX3_minutes 21 = .ok (.getfield 56, 3) := by decide +kernel
theorem dX3_minutes_24 : decode cX3_minutes 24 = .ok (.ldc 140, 2) := by decide +kernel
theorem dX3_minutes_26 : decode cX3_minutes 26 = .ok (.iload_n 1, 1) := by decide +kernel
theorem dX3_minutes_27 : decode cX3_minutes 27 = .ok (.isub, 1) := by decide +kernel
theorem dX3_minutes_28 : decode cX3_minutes 28 = .ok (.if_icmp .le 9, 3) := by decide +kernel
theorem dX3_minutes_31 : decode cX3_minutes 31 = .ok (.aload_n 0, 1) := by decide +kernel
theorem dX3_minutes_32 : decode cX3_minutes 32 = .ok (.iconst 4, 1) := by decide +kernel
theorem dX3_minutes_33 : decode cX3_minutes 33 = .ok (.invokevirtual 48, 3) := by decide +kernel
theorem dX3_minutes_36 : decode cX3_minutes 36 = .ok (.ireturn, 1) := by decide +kernel
theorem dX3_minutes_37 : decode cX3_minutes 37 = .ok (.aload_n 0, 1) := by decide +kernel
theorem dX3_minutes_38 : decode cX3_minutes 38 = .ok (.getfield 10, 3) := by decide +kernel
theorem dX3_minutes_41 : decode cX3_minutes 41 = .ok (.iload_n 1, 1) := by decide +kernel
theorem dX3_minutes_42 : decode cX3_minutes 42 = .ok (.invokevirtual 141, 3) := by decide +kernel
theorem dX3_minutes_45 : decode cX3_minutes 45 = .ok (.aload_n 0, 1) := by decide +kernel
theorem dX3_minutes_46 : decode cX3_minutes 46 = .ok (.getfield 10, 3) := by decide +kernel
theorem dX3_minutes_49 : decode cX3_minutes 49 = .ok (.invokevirtual 87, 3) := by decide +kernel
theorem dX3_minutes_52 : decode cX3_minutes 52 = .ok (.ireturn, 1) := by decide +kernel
theorem dX3_on_0 : decode cX3_on 0 = .ok (.aload_n 0, 1) := by decide +kernel
theorem dX3_on_1 : decode cX3_on 1 = .ok (.iload_n 1, 1) := by decide +kernel
theorem dX3_on_2 : decode cX3_on 2 = .ok (.invokevirtual 100, 3) := by decide +kernel
theorem dX3_on_5 : decode cX3_on 5 = .ok (.ifCond .eq 23, 3) := by decide +kernel
theorem dX3_on_8 : decode cX3_on 8 = .ok (.iload_n 2, 1) := by decide +kernel
theorem dX3_on_9 : decode cX3_on 9 = .ok (.iconst 0, 1) := by decide +kernel
theorem dX3_on_10 : decode cX3_on 10 = .ok (.sipush 400, 3) := by decide +kernel
theorem dX3_on_13 : decode cX3_on 13 = .ok (.invokestatic 44, 3) := by decide +kernel
theorem dX3_on_16 : decode cX3_on 16 = .ok (.ifCond .eq 12, 3) := by decide +kernel
theorem dX3_on_19 : decode cX3_on 19 = .ok (.iload_n 3, 1) := by decide +kernel
theorem dX3_on_20 : decode cX3_on 20 = .ok (.iconst 0, 1) := by decide +kernel
theorem dX3_on_21 : decode cX3_on 21 = .ok (.iconst 1, 1) := by decide +kernel
theorem dX3_on_22 : decode cX3_on 22 = .ok (.invokestatic 44, 3) := by decide +kernel
theorem dX3_on_25 : decode cX3_on 25 = .ok (.ifCond .ne 9, 3) := by decide +kernel
theorem dX3_on_28 : decode cX3_on 28 = .ok (.aload_n 0, 1) := by decide +kernel
theorem dX3_on_29 : decode cX3_on 29 = .ok (.iconst 0, 1) := by decide +kernel
theorem dX3_on_30 : decode cX3_on 30 = .ok (.invokevirtual 48, 3) := by decide +kernel
theorem dX3_on_33 : decode cX3_on 33 = .ok (.ireturn, 1) := by decide +kernel
theorem dX3_on_34 : decode cX3_on 34 = .ok (.aload_n 0, 1) := by decide +kernel
theorem dX3_on_35 : decode cX3_on 35 = .ok (.invokevirtual 145, 3) := by decide +kernel
theorem dX3_on_38 : decode cX3_on 38 = .ok (.aload_n 0, 1) := by decide +kernel
theorem dX3_on_39 : decode cX3_on 39 = .ok (.getfield 16, 3) := by decide +kernel
theorem dX3_on_42 : decode cX3_on 42 = .ok (.iload_n 2, 1) := by decide +kernel
theorem dX3_on_43 : decode cX3_on 43 = .ok (.invokevirtual 141, 3) := by decide +kernel
theorem dX3_on_46 : decode cX3_on 46 = .ok (.iload_n 3, 1) := by decide +kernel
theorem dX3_on_47 : decode cX3_on 47 = .ok (.ifCond .ne 15, 3) := by decide +kernel
theorem dX3_on_50 : decode cX3_on 50 = .ok (.aload_n 0, 1) := by decide +kernel
theorem dX3_on_51 : decode cX3_on 51 = .ok (.getfield 16, 3) := by decide +kernel
theorem dX3_on_54 : decode cX3_on 54 = .ok (.getfield 74, 3) := by decide +kernel
theorem dX3_on_57 : decode cX3_on 57 = .ok (.iload_n 1, 1) := by decide +kernel
theorem dX3_on_58 : decode cX3_on 58 = .ok (.iaload, 1) := by decide +kernel
theorem dX3_on_59 : decode cX3_on 59 = .ok (.goto 12, 3) := by decide +kernel
theorem dX3_on_62 : decode cX3_on 62 = .ok (.aload_n 0, 1) := by decide +kernel
theorem dX3_on_63 : decode cX3_on 63 = .ok (.getfield 16, 3) := by decide +kernel
theorem dX3_on_66 : decode cX3_on 66 = .ok (.getfield 106, 3) := by decide +kernel
theorem dX3_on_69 : decode cX3_on 69 = .ok (.iload_n 1, 1) := by decide +kernel
theorem dX3_on_70 : decode cX3_on 70 = .ok (.iaload, 1) := by decide +kernel
theorem dX3_on_71 : decode cX3_on 71 = .ok (.ireturn, 1) := by decide +kernel
theorem dX3_owes_0 : decode cX3_owes 0 = .ok (.aload_n 0, 1) := by decide +kernel
theorem dX3_owes_1 : decode cX3_owes 1 = .ok (.iload_n 1, 1) := by decide +kernel
theorem dX3_owes_2 : decode cX3_owes 2 = .ok (.invokevirtual 100, 3) := by decide +kernel
theorem dX3_owes_5 : decode cX3_owes 5 = .ok (.ifCond .eq 14, 3) := by decide +kernel
theorem dX3_owes_8 : decode cX3_owes 8 = .ok (.iload_n 2, 1) := by decide +kernel
theorem dX3_owes_9 : decode cX3_owes 9 = .ok (.iconst 0, 1) := by decide +kernel
theorem dX3_owes_10 : decode cX3_owes 10 = .ok (.sipush 400, 3) := by decide +kernel
theorem dX3_owes_13 : decode cX3_owes 13 = .ok (.invokestatic 44, 3) := by decide +kernel
theorem dX3_owes_16 : decode cX3_owes 16 = .ok (.ifCond .ne 9, 3) := by decide +kernel
theorem dX3_owes_19 : decode cX3_owes 19 = .ok (.aload_n 0, 1) := by decide +kernel
theorem dX3_owes_20 : decode cX3_owes 20 = .ok (.iconst 0, 1) := by decide +kernel
theorem dX3_owes_21 : decode cX3_owes 21 = .ok (.invokevirtual 48, 3) := by decide +kernel
theorem dX3_owes_24 : decode cX3_owes 24 = .ok (.ireturn, 1) := by decide +kernel
theorem dX3_owes_25 : decode cX3_owes 25 = .ok (.aload_n 0, 1) := by decide +kernel
theorem dX3_owes_26 : decode cX3_owes 26 = .ok (.invokevirtual 145, 3) := by decide +kernel
theorem dX3_owes_29 : decode cX3_owes 29 = .ok (.aload_n 0, 1) := by decide +kernel
theorem dX3_owes_30 : decode cX3_owes 30 = .ok (.getfield 16, 3) := by decide +kernel
theorem dX3_owes_33 : decode cX3_owes 33 = .ok (.iload_n 2, 1) := by decide +kernel
theorem dX3_owes_34 : decode cX3_owes 34 = .ok (.invokevirtual 141, 3) := by decide +kernel
theorem dX3_owes_37 : decode cX3_owes 37 = .ok (.aload_n 0, 1) := by decide +kernel
theorem dX3_owes_38 : decode cX3_owes 38 = .ok (.getfield 16, 3) := by decide +kernel
theorem dX3_owes_41 : decode cX3_owes 41 = .ok (.getfield 110, 3) := by decide +kernel
theorem dX3_owes_44 : decode cX3_owes 44 = .ok (.iload_n 1, 1) := by decide +kernel
theorem dX3_owes_45 : decode cX3_owes 45 = .ok (.iaload, 1) := by decide +kernel
theorem dX3_owes_46 : decode cX3_owes 46 = .ok (.ireturn, 1) := by decide +kernel
theorem dX3_level_0 : decode cX3_level 0 = .ok (.aload_n 0, 1) := by decide +kernel
theorem dX3_level_1 : decode cX3_level 1 = .ok (.invokevirtual 145, 3) := by decide +kernel
theorem dX3_level_4 : decode cX3_level 4 = .ok (.iconst 0, 1) := by decide +kernel
theorem dX3_level_5 : decode cX3_level 5 = .ok (.istore_n 1, 1) := by decide +kernel
theorem dX3_level_6 : decode cX3_level 6 = .ok (.iload_n 1, 1) := by decide +kernel
theorem dX3_level_7 : decode cX3_level 7 = .ok (.sipush 400, 3) := by decide +kernel
theorem dX3_level_10 : decode cX3_level 10 = .ok (.if_icmp .gt 28, 3) := by decide +kernel
theorem dX3_level_13 : decode cX3_level 13 = .ok (.aload_n 0, 1) := by decide +kernel
theorem dX3_level_14 : decode cX3_level 14 = .ok (.getfield 16, 3) := by decide +kernel
theorem dX3_level_17 : decode cX3_level 17 = .ok (.invokevirtual 81, 3) := by decide +kernel
theorem dX3_level_20 : decode cX3_level 20 = .ok (.ifCond .eq 5, 3) := by decide +kernel
theorem dX3_level_23 : decode cX3_level 23 = .ok (.iload_n 1, 1) := by decide +kernel
theorem dX3_level_24 : decode cX3_level 24 = .ok (.ireturn, 1) := by decide +kernel
theorem dX3_level_25 : decode cX3_level 25 = .ok (.aload_n 0, 1) := by decide +kernel
theorem dX3_level_26 : decode cX3_level 26 = .ok (.getfield 16, 3) := by decide +kernel
theorem dX3_level_29 : decode cX3_level 29 = .ok (.invokevirtual 148, 3) := by decide +kernel
theorem dX3_level_32 : decode cX3_level 32 = .ok (.iinc 1 1, 3) := by decide +kernel
theorem dX3_level_35 : decode cX3_level 35 = .ok (.goto (-29), 3) := by decide +kernel
theorem dX3_level_38 : decode cX3_level 38 = .ok (.aload_n 0, 1) := by decide +kernel
theorem dX3_level_39 : decode cX3_level 39 = .ok (.iconst 3, 1) := by decide +kernel
theorem dX3_level_40 : decode cX3_level 40 = .ok (.invokevirtual 48, 3) := by decide +kernel
theorem dX3_level_43 : decode cX3_level 43 = .ok (.ireturn, 1) := by decide +kernel
