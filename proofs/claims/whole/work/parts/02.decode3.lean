theorem dX4_set_0 : decode cX4_set 0 = .ok (.aload_n 0, 1) := by decide +kernel
theorem dX4_set_1 : decode cX4_set 1 = .ok (.iload_n 1, 1) := by decide +kernel
theorem dX4_set_2 : decode cX4_set 2 = .ok (.invokevirtual 98, 3) := by decide +kernel
theorem dX4_set_5 : decode cX4_set 5 = .ok (.ifCond .eq 26, 3) := by decide +kernel
theorem dX4_set_8 : decode cX4_set 8 = .ok (.iload_n 2, 1) := by decide +kernel
theorem dX4_set_9 : decode cX4_set 9 = .ok (.iload_n 3, 1) := by decide +kernel
theorem dX4_set_10 : decode cX4_set 10 = .ok (.invokestatic 111, 3) := by decide +kernel
theorem dX4_set_13 : decode cX4_set 13 = .ok (.ifCond .eq 18, 3) := by decide +kernel
theorem dX4_set_16 : decode cX4_set 16 = .ok (.aload_n 0, 1) := by decide +kernel
theorem dX4_set_17 : decode cX4_set 17 = .ok (.iconst 3, 1) := by decide +kernel
theorem dX4_set_18 : decode cX4_set 18 = .ok (.iconst 4, 1) := by decide +kernel
theorem dX4_set_19 : decode cX4_set 19 = .ok (.iload_n 1, 1) := by decide +kernel
theorem dX4_set_20 : decode cX4_set 20 = .ok (.imul, 1) := by decide +kernel
theorem dX4_set_21 : decode cX4_set 21 = .ok (.iadd, 1) := by decide +kernel
theorem dX4_set_22 : decode cX4_set 22 = .ok (.iload_n 2, 1) := by decide +kernel
theorem dX4_set_23 : decode cX4_set 23 = .ok (.iadd, 1) := by decide +kernel
theorem dX4_set_24 : decode cX4_set 24 = .ok (.iload_n 3, 1) := by decide +kernel
theorem dX4_set_25 : decode cX4_set 25 = .ok (.invokevirtual 49, 3) := by decide +kernel
theorem dX4_set_28 : decode cX4_set 28 = .ok (.goto 9, 3) := by decide +kernel
theorem dX4_set_31 : decode cX4_set 31 = .ok (.aload_n 0, 1) := by decide +kernel
theorem dX4_set_32 : decode cX4_set 32 = .ok (.ldc 44, 2) := by decide +kernel
theorem dX4_set_34 : decode cX4_set 34 = .ok (.invokevirtual 53, 3) := by decide +kernel
theorem dX4_set_37 : decode cX4_set 37 = .ok (.ireturn, 1) := by decide +kernel
theorem dX4_turn_0 : decode cX4_turn 0 = .ok (.aload_n 0, 1) := by decide +kernel
theorem dX4_turn_1 : decode cX4_turn 1 = .ok (.iload_n 1, 1) := by decide +kernel
theorem dX4_turn_2 : decode cX4_turn 2 = .ok (.invokevirtual 98, 3) := by decide +kernel
theorem dX4_turn_5 : decode cX4_turn 5 = .ok (.ifCond .eq 23, 3) := by decide +kernel
theorem dX4_turn_8 : decode cX4_turn 8 = .ok (.iload_n 2, 1) := by decide +kernel
theorem dX4_turn_9 : decode cX4_turn 9 = .ok (.invokestatic 90, 3) := by decide +kernel
theorem dX4_turn_12 : decode cX4_turn 12 = .ok (.ifCond .eq 16, 3) := by decide +kernel
theorem dX4_turn_15 : decode cX4_turn 15 = .ok (.aload_n 0, 1) := by decide +kernel
theorem dX4_turn_16 : decode cX4_turn 16 = .ok (.iconst 3, 1) := by decide +kernel
theorem dX4_turn_17 : decode cX4_turn 17 = .ok (.iconst 4, 1) := by decide +kernel
theorem dX4_turn_18 : decode cX4_turn 18 = .ok (.iload_n 1, 1) := by decide +kernel
theorem dX4_turn_19 : decode cX4_turn 19 = .ok (.imul, 1) := by decide +kernel
theorem dX4_turn_20 : decode cX4_turn 20 = .ok (.iadd, 1) := by decide +kernel
theorem dX4_turn_21 : decode cX4_turn 21 = .ok (.iload_n 2, 1) := by decide +kernel
theorem dX4_turn_22 : decode cX4_turn 22 = .ok (.invokevirtual 49, 3) := by decide +kernel
theorem dX4_turn_25 : decode cX4_turn 25 = .ok (.goto 9, 3) := by decide +kernel
theorem dX4_turn_28 : decode cX4_turn 28 = .ok (.aload_n 0, 1) := by decide +kernel
theorem dX4_turn_29 : decode cX4_turn 29 = .ok (.ldc 44, 2) := by decide +kernel
theorem dX4_turn_31 : decode cX4_turn 31 = .ok (.invokevirtual 53, 3) := by decide +kernel
theorem dX4_turn_34 : decode cX4_turn 34 = .ok (.ireturn, 1) := by decide +kernel
theorem dX4_as_0 : decode cX4_as 0 = .ok (.aload_n 0, 1) := by decide +kernel
theorem dX4_as_1 : decode cX4_as 1 = .ok (.iload_n 1, 1) := by decide +kernel
theorem dX4_as_2 : decode cX4_as 2 = .ok (.invokevirtual 98, 3) := by decide +kernel
theorem dX4_as_5 : decode cX4_as 5 = .ok (.ifCond .eq 10, 3) := by decide +kernel
theorem dX4_as_8 : decode cX4_as 8 = .ok (.iload_n 2, 1) := by decide +kernel
theorem dX4_as_9 : decode cX4_as 9 = .ok (.invokestatic 90, 3) := by decide +kernel
theorem dX4_as_12 : decode cX4_as 12 = .ok (.ifCond .ne 10, 3) := by decide +kernel
theorem dX4_as_15 : decode cX4_as 15 = .ok (.aload_n 0, 1) := by decide +kernel
theorem dX4_as_16 : decode cX4_as 16 = .ok (.ldc 44, 2) := by decide +kernel
theorem dX4_as_18 : decode cX4_as 18 = .ok (.invokevirtual 53, 3) := by decide +kernel
theorem dX4_as_21 : decode cX4_as 21 = .ok (.ireturn, 1) := by decide +kernel
theorem dX4_as_22 : decode cX4_as 22 = .ok (.aload_n 0, 1) := by decide +kernel
theorem dX4_as_23 : decode cX4_as 23 = .ok (.iload_n 1, 1) := by decide +kernel
theorem dX4_as_24 : decode cX4_as 24 = .ok (.iconst 0, 1) := by decide +kernel
theorem dX4_as_25 : decode cX4_as 25 = .ok (.invokevirtual 57, 3) := by decide +kernel
theorem dX4_as_28 : decode cX4_as 28 = .ok (.istore_n 3, 1) := by decide +kernel
theorem dX4_as_29 : decode cX4_as 29 = .ok (.iload_n 2, 1) := by decide +kernel
theorem dX4_as_30 : decode cX4_as 30 = .ok (.ifCond .eq 28, 3) := by decide +kernel
theorem dX4_as_33 : decode cX4_as 33 = .ok (.iload_n 2, 1) := by decide +kernel
theorem dX4_as_34 : decode cX4_as 34 = .ok (.iload_n 3, 1) := by decide +kernel
theorem dX4_as_35 : decode cX4_as 35 = .ok (.if_icmp .eq 23, 3) := by decide +kernel
theorem dX4_as_38 : decode cX4_as 38 = .ok (.iload_n 2, 1) := by decide +kernel
theorem dX4_as_39 : decode cX4_as 39 = .ok (.iconst 1, 1) := by decide +kernel
theorem dX4_as_40 : decode cX4_as 40 = .ok (.if_icmp .ne 8, 3) := by decide +kernel
theorem dX4_as_43 : decode cX4_as 43 = .ok (.iload_n 3, 1) := by decide +kernel
theorem dX4_as_44 : decode cX4_as 44 = .ok (.iconst 4, 1) := by decide +kernel
theorem dX4_as_45 : decode cX4_as 45 = .ok (.if_icmp .eq 13, 3) := by decide +kernel
theorem dX4_as_48 : decode cX4_as 48 = .ok (.iload_n 2, 1) := by decide +kernel
theorem dX4_as_49 : decode cX4_as 49 = .ok (.iconst 2, 1) := by decide +kernel
theorem dX4_as_50 : decode cX4_as 50 = .ok (.if_icmp .ne 12, 3) := by decide +kernel
theorem dX4_as_53 : decode cX4_as 53 = .ok (.iload_n 3, 1) := by decide +kernel
theorem dX4_as_54 : decode cX4_as 54 = .ok (.iconst 5, 1) := by decide +kernel
theorem dX4_as_55 : decode cX4_as 55 = .ok (.if_icmp .ne 7, 3) := by decide +kernel
theorem dX4_as_58 : decode cX4_as 58 = .ok (.iconst 1, 1) := by decide +kernel
theorem dX4_as_59 : decode cX4_as 59 = .ok (.goto 4, 3) := by decide +kernel
theorem dX4_as_62 : decode cX4_as 62 = .ok (.iconst 0, 1) := by decide +kernel
theorem dX4_as_63 : decode cX4_as 63 = .ok (.istore 4, 2) := by decide +kernel
theorem dX4_as_65 : decode cX4_as 65 = .ok (.iload 4, 2) := by decide +kernel
theorem dX4_as_67 : decode cX4_as 67 = .ok (.ifCond .eq 12, 3) := by decide +kernel
theorem dX4_as_70 : decode cX4_as 70 = .ok (.aload_n 0, 1) := by decide +kernel
theorem dX4_as_71 : decode cX4_as 71 = .ok (.iload_n 1, 1) := by decide +kernel
theorem dX4_as_72 : decode cX4_as 72 = .ok (.iconst 1, 1) := by decide +kernel
theorem dX4_as_73 : decode cX4_as 73 = .ok (.invokevirtual 57, 3) := by decide +kernel
theorem dX4_as_76 : decode cX4_as 76 = .ok (.goto 9, 3) := by decide +kernel
theorem dX4_as_79 : decode cX4_as 79 = .ok (.aload_n 0, 1) := by decide +kernel
theorem dX4_as_80 : decode cX4_as 80 = .ok (.ldc 115, 2) := by decide +kernel
theorem dX4_as_82 : decode cX4_as 82 = .ok (.invokevirtual 53, 3) := by decide +kernel
theorem dX4_as_85 : decode cX4_as 85 = .ok (.ireturn, 1) := by decide +kernel
theorem dX4_pushes_0 : decode cX4_pushes 0 = .ok (.aload_n 0, 1) := by decide +kernel
theorem dX4_pushes_1 : decode cX4_pushes 1 = .ok (.iload_n 1, 1) := by decide +kernel
theorem dX4_pushes_2 : decode cX4_pushes 2 = .ok (.iconst 1, 1) := by decide +kernel
theorem dX4_pushes_3 : decode cX4_pushes 3 = .ok (.aload_n 0, 1) := by decide +kernel
theorem dX4_pushes_4 : decode cX4_pushes 4 = .ok (.iload_n 1, 1) := by decide +kernel
theorem dX4_pushes_5 : decode cX4_pushes 5 = .ok (.iconst 1, 1) := by decide +kernel
theorem dX4_pushes_6 : decode cX4_pushes 6 = .ok (.invokevirtual 57, 3) := by decide +kernel
theorem dX4_pushes_9 : decode cX4_pushes 9 = .ok (.iload_n 2, 1) := by decide +kernel
theorem dX4_pushes_10 : decode cX4_pushes 10 = .ok (.iadd, 1) := by decide +kernel
theorem dX4_pushes_11 : decode cX4_pushes 11 = .ok (.sipush 200, 3) := by decide +kernel
theorem dX4_pushes_14 : decode cX4_pushes 14 = .ok (.invokestatic 116, 3) := by decide +kernel
theorem dX4_pushes_17 : decode cX4_pushes 17 = .ok (.invokevirtual 86, 3) := by decide +kernel
theorem dX4_pushes_20 : decode cX4_pushes 20 = .ok (.return_, 1) := by decide +kernel
theorem dX4_push_0 : decode cX4_push 0 = .ok (.aload_n 0, 1) := by decide +kernel
theorem dX4_push_1 : decode cX4_push 1 = .ok (.iload_n 1, 1) := by decide +kernel
theorem dX4_push_2 : decode cX4_push 2 = .ok (.invokevirtual 98, 3) := by decide +kernel
theorem dX4_push_5 : decode cX4_push 5 = .ok (.ifCond .eq 13, 3) := by decide +kernel
theorem dX4_push_8 : decode cX4_push 8 = .ok (.iload_n 2, 1) := by decide +kernel
theorem dX4_push_9 : decode cX4_push 9 = .ok (.iconst 1, 1) := by decide +kernel
theorem dX4_push_10 : decode cX4_push 10 = .ok (.bipush 99, 2) := by decide +kernel
theorem dX4_push_12 : decode cX4_push 12 = .ok (.invokestatic 45, 3) := by decide +kernel
theorem dX4_push_15 : decode cX4_push 15 = .ok (.ifCond .ne 10, 3) := by decide +kernel
theorem dX4_push_18 : decode cX4_push 18 = .ok (.aload_n 0, 1) := by decide +kernel
theorem dX4_push_19 : decode cX4_push 19 = .ok (.ldc 44, 2) := by decide +kernel
theorem dX4_push_21 : decode cX4_push 21 = .ok (.invokevirtual 53, 3) := by decide +kernel
theorem dX4_push_24 : decode cX4_push 24 = .ok (.ireturn, 1) := by decide +kernel
theorem dX4_push_25 : decode cX4_push 25 = .ok (.aload_n 0, 1) := by decide +kernel
theorem dX4_push_26 : decode cX4_push 26 = .ok (.iload_n 1, 1) := by decide +kernel
theorem dX4_push_27 : decode cX4_push 27 = .ok (.iload_n 2, 1) := by decide +kernel
theorem dX4_push_28 : decode cX4_push 28 = .ok (.invokevirtual 119, 3) := by decide +kernel
theorem dX4_push_31 : decode cX4_push 31 = .ok (.aload_n 0, 1) := by decide +kernel
theorem dX4_push_32 : decode cX4_push 32 = .ok (.iload_n 1, 1) := by decide +kernel
theorem dX4_push_33 : decode cX4_push 33 = .ok (.iconst 1, 1) := by decide +kernel
theorem dX4_push_34 : decode cX4_push 34 = .ok (.invokevirtual 57, 3) := by decide +kernel
theorem dX4_push_37 : decode cX4_push 37 = .ok (.ireturn, 1) := by decide +kernel
theorem dX4_swaps_0 : decode cX4_swaps 0 = .ok (.iconst 0, 1) := by decide +kernel
theorem dX4_swaps_1 : decode cX4_swaps 1 = .ok (.istore_n 3, 1) := by decide +kernel
theorem dX4_swaps_2 : decode cX4_swaps 2 = .ok (.iload_n 3, 1) := by decide +kernel
theorem dX4_swaps_3 : decode cX4_swaps 3 = .ok (.iconst 4, 1) := by decide +kernel
theorem dX4_swaps_4 : decode cX4_swaps 4 = .ok (.if_icmp .ge 37, 3) := by decide +kernel
theorem dX4_swaps_7 : decode cX4_swaps 7 = .ok (.aload_n 0, 1) := by decide +kernel
theorem dX4_swaps_8 : decode cX4_swaps 8 = .ok (.iload_n 1, 1) := by decide +kernel
theorem dX4_swaps_9 : decode cX4_swaps 9 = .ok (.iload_n 3, 1) := by decide +kernel
theorem dX4_swaps_10 : decode cX4_swaps 10 = .ok (.invokevirtual 57, 3) := by decide +kernel
theorem dX4_swaps_13 : decode cX4_swaps 13 = .ok (.istore 4, 2) := by decide +kernel
theorem dX4_swaps_15 : decode cX4_swaps 15 = .ok (.aload_n 0, 1) := by decide +kernel
theorem dX4_swaps_16 : decode cX4_swaps 16 = .ok (.iload_n 1, 1) := by decide +kernel
theorem dX4_swaps_17 : decode cX4_swaps 17 = .ok (.iload_n 3, 1) := by decide +kernel
theorem dX4_swaps_18 : decode cX4_swaps 18 = .ok (.aload_n 0, 1) := by decide +kernel
theorem dX4_swaps_19 : decode cX4_swaps 19 = .ok (.iload_n 2, 1) := by decide +kernel
theorem dX4_swaps_20 : decode cX4_swaps 20 = .ok (.iload_n 3, 1) := by decide +kernel
theorem dX4_swaps_21 : decode cX4_swaps 21 = .ok (.invokevirtual 57, 3) := by decide +kernel
theorem dX4_swaps_24 : decode cX4_swaps 24 = .ok (.invokevirtual 86, 3) := by decide +kernel
theorem dX4_swaps_27 : decode cX4_swaps 27 = .ok (.aload_n 0, 1) := by decide +kernel
theorem dX4_swaps_28 : decode cX4_swaps 28 = .ok (.iload_n 2, 1) := by decide +kernel
theorem dX4_swaps_29 : decode cX4_swaps 29 = .ok (.iload_n 3, 1) := by decide +kernel
theorem dX4_swaps_30 : decode cX4_swaps 30 = .ok (.iload 4, 2) := by decide +kernel
theorem dX4_swaps_32 : decode cX4_swaps 32 = .ok (.invokevirtual 86, 3) := by decide +kernel
theorem dX4_swaps_35 : decode cX4_swaps 35 = .ok (.iinc 3 1, 3) := by decide +kernel
theorem dX4_swaps_38 : decode cX4_swaps 38 = .ok (.goto (-36), 3) := by decide +kernel
theorem dX4_swaps_41 : decode cX4_swaps 41 = .ok (.return_, 1) := by decide +kernel
theorem dX4_swap_0 : decode cX4_swap 0 = .ok (.aload_n 0, 1) := by decide +kernel
theorem dX4_swap_1 : decode cX4_swap 1 = .ok (.iload_n 1, 1) := by decide +kernel
theorem dX4_swap_2 : decode cX4_swap 2 = .ok (.invokevirtual 98, 3) := by decide +kernel
theorem dX4_swap_5 : decode cX4_swap 5 = .ok (.ifCond .eq 16, 3) := by decide +kernel
theorem dX4_swap_8 : decode cX4_swap 8 = .ok (.aload_n 0, 1) := by decide +kernel
theorem dX4_swap_9 : decode cX4_swap 9 = .ok (.iload_n 2, 1) := by decide +kernel
theorem dX4_swap_10 : decode cX4_swap 10 = .ok (.invokevirtual 98, 3) := by decide +kernel
theorem dX4_swap_13 : decode cX4_swap 13 = .ok (.ifCond .eq 8, 3) := by decide +kernel
theorem dX4_swap_16 : decode cX4_swap 16 = .ok (.iload_n 1, 1) := by decide +kernel
theorem dX4_swap_17 : decode cX4_swap 17 = .ok (.iload_n 2, 1) := by decide +kernel
theorem dX4_swap_18 : decode cX4_swap 18 = .ok (.if_icmp .ne 10, 3) := by decide +kernel
theorem dX4_swap_21 : decode cX4_swap 21 = .ok (.aload_n 0, 1) := by decide +kernel
theorem dX4_swap_22 : decode cX4_swap 22 = .ok (.ldc 44, 2) := by decide +kernel
theorem dX4_swap_24 : decode cX4_swap 24 = .ok (.invokevirtual 53, 3) := by decide +kernel
theorem dX4_swap_27 : decode cX4_swap 27 = .ok (.ireturn, 1) := by decide +kernel
theorem dX4_swap_28 : decode cX4_swap 28 = .ok (.aload_n 0, 1) := by decide +kernel
theorem dX4_swap_29 : decode cX4_swap 29 = .ok (.iload_n 1, 1) := by decide +kernel
theorem dX4_swap_30 : decode cX4_swap 30 = .ok (.iload_n 2, 1) := by decide +kernel
theorem dX4_swap_31 : decode cX4_swap 31 = .ok (.invokevirtual 123, 3) := by decide +kernel
theorem dX4_swap_34 : decode cX4_swap 34 = .ok (.iconst 1, 1) := by decide +kernel
theorem dX4_swap_35 : decode cX4_swap 35 = .ok (.ireturn, 1) := by decide +kernel
theorem dX4_goes_0 : decode cX4_goes 0 = .ok (.aload_n 0, 1) := by decide +kernel
theorem dX4_goes_1 : decode cX4_goes 1 = .ok (.iload_n 1, 1) := by decide +kernel
theorem dX4_goes_2 : decode cX4_goes 2 = .ok (.iconst 1, 1) := by decide +kernel
theorem dX4_goes_3 : decode cX4_goes 3 = .ok (.aload_n 0, 1) := by decide +kernel
theorem dX4_goes_4 : decode cX4_goes 4 = .ok (.iload_n 1, 1) := by decide +kernel
theorem dX4_goes_5 : decode cX4_goes 5 = .ok (.iconst 1, 1) := by decide +kernel
theorem dX4_goes_6 : decode cX4_goes 6 = .ok (.invokevirtual 57, 3) := by decide +kernel
theorem dX4_goes_9 : decode cX4_goes 9 = .ok (.iload_n 3, 1) := by decide +kernel
theorem dX4_goes_10 : decode cX4_goes 10 = .ok (.isub, 1) := by decide +kernel
theorem dX4_goes_11 : decode cX4_goes 11 = .ok (.invokevirtual 86, 3) := by decide +kernel
theorem dX4_goes_14 : decode cX4_goes 14 = .ok (.aload_n 0, 1) := by decide +kernel
theorem dX4_goes_15 : decode cX4_goes 15 = .ok (.iload_n 2, 1) := by decide +kernel
theorem dX4_goes_16 : decode cX4_goes 16 = .ok (.iconst 1, 1) := by decide +kernel
theorem dX4_goes_17 : decode cX4_goes 17 = .ok (.aload_n 0, 1) := by decide +kernel
theorem dX4_goes_18 : decode cX4_goes 18 = .ok (.iload_n 2, 1) := by decide +kernel
theorem dX4_goes_19 : decode cX4_goes 19 = .ok (.iconst 1, 1) := by decide +kernel
theorem dX4_goes_20 : decode cX4_goes 20 = .ok (.invokevirtual 57, 3) := by decide +kernel
theorem dX4_goes_23 : decode cX4_goes 23 = .ok (.iload_n 3, 1) := by decide +kernel
theorem dX4_goes_24 : decode cX4_goes 24 = .ok (.iadd, 1) := by decide +kernel
theorem dX4_goes_25 : decode cX4_goes 25 = .ok (.invokevirtual 86, 3) := by decide +kernel
theorem dX4_goes_28 : decode cX4_goes 28 = .ok (.aload_n 0, 1) := by decide +kernel
theorem dX4_goes_29 : decode cX4_goes 29 = .ok (.iload_n 1, 1) := by decide +kernel
theorem dX4_goes_30 : decode cX4_goes 30 = .ok (.iconst 3, 1) := by decide +kernel
theorem dX4_goes_31 : decode cX4_goes 31 = .ok (.aload_n 0, 1) := by decide +kernel
theorem dX4_goes_32 : decode cX4_goes 32 = .ok (.iload_n 1, 1) := by decide +kernel
theorem dX4_goes_33 : decode cX4_goes 33 = .ok (.iconst 3, 1) := by decide +kernel
theorem dX4_goes_34 : decode cX4_goes 34 = .ok (.invokevirtual 57, 3) := by decide +kernel
theorem dX4_goes_37 : decode cX4_goes 37 = .ok (.iload_n 3, 1) := by decide +kernel
theorem dX4_goes_38 : decode cX4_goes 38 = .ok (.isub, 1) := by decide +kernel
theorem dX4_goes_39 : decode cX4_goes 39 = .ok (.sipush (-9999), 3) := by decide +kernel
theorem dX4_goes_42 : decode cX4_goes 42 = .ok (.sipush 9999, 3) := by decide +kernel
theorem dX4_goes_45 : decode cX4_goes 45 = .ok (.invokestatic 126, 3) := by decide +kernel
theorem dX4_goes_48 : decode cX4_goes 48 = .ok (.invokevirtual 86, 3) := by decide +kernel
theorem dX4_goes_51 : decode cX4_goes 51 = .ok (.aload_n 0, 1) := by decide +kernel
theorem dX4_goes_52 : decode cX4_goes 52 = .ok (.iload_n 2, 1) := by decide +kernel
theorem dX4_goes_53 : decode cX4_goes 53 = .ok (.iconst 3, 1) := by decide +kernel
theorem dX4_goes_54 : decode cX4_goes 54 = .ok (.aload_n 0, 1) := by decide +kernel
theorem dX4_goes_55 : decode cX4_goes 55 = .ok (.iload_n 2, 1) := by decide +kernel
theorem dX4_goes_56 : decode cX4_goes 56 = .ok (.iconst 3, 1) := by decide +kernel
theorem dX4_goes_57 : decode cX4_goes 57 = .ok (.invokevirtual 57, 3) := by decide +kernel
theorem dX4_goes_60 : decode cX4_goes 60 = .ok (.iload_n 3, 1) := by decide +kernel
theorem dX4_goes_61 : decode cX4_goes 61 = .ok (.iadd, 1) := by decide +kernel
theorem dX4_goes_62 : decode cX4_goes 62 = .ok (.sipush (-9999), 3) := by decide +kernel
theorem dX4_goes_65 : decode cX4_goes 65 = .ok (.sipush 9999, 3) := by decide +kernel
theorem dX4_goes_68 : decode cX4_goes 68 = .ok (.invokestatic 126, 3) := by decide +kernel
theorem dX4_goes_71 : decode cX4_goes 71 = .ok (.invokevirtual 86, 3) := by decide +kernel
theorem dX4_goes_74 : decode cX4_goes 74 = .ok (.return_, 1) := by decide +kernel
theorem dX4_mayGo_0 : decode cX4_mayGo 0 = .ok (.iload_n 3, 1) := by decide +kernel
theorem dX4_mayGo_1 : decode cX4_mayGo 1 = .ok (.aload_n 0, 1) := by decide +kernel
theorem dX4_mayGo_2 : decode cX4_mayGo 2 = .ok (.iload_n 1, 1) := by decide +kernel
theorem dX4_mayGo_3 : decode cX4_mayGo 3 = .ok (.iconst 1, 1) := by decide +kernel
theorem dX4_mayGo_4 : decode cX4_mayGo 4 = .ok (.invokevirtual 57, 3) := by decide +kernel
theorem dX4_mayGo_7 : decode cX4_mayGo 7 = .ok (.sipush 200, 3) := by decide +kernel
theorem dX4_mayGo_10 : decode cX4_mayGo 10 = .ok (.aload_n 0, 1) := by decide +kernel
theorem dX4_mayGo_11 : decode cX4_mayGo 11 = .ok (.iload_n 2, 1) := by decide +kernel
theorem dX4_mayGo_12 : decode cX4_mayGo 12 = .ok (.iconst 1, 1) := by decide +kernel
theorem dX4_mayGo_13 : decode cX4_mayGo 13 = .ok (.invokevirtual 57, 3) := by decide +kernel
theorem dX4_mayGo_16 : decode cX4_mayGo 16 = .ok (.isub, 1) := by decide +kernel
theorem dX4_mayGo_17 : decode cX4_mayGo 17 = .ok (.invokestatic 116, 3) := by decide +kernel
theorem dX4_mayGo_20 : decode cX4_mayGo 20 = .ok (.invokestatic 116, 3) := by decide +kernel
theorem dX4_mayGo_23 : decode cX4_mayGo 23 = .ok (.ireturn, 1) := by decide +kernel
theorem dX4_swings_0 : decode cX4_swings 0 = .ok (.aload_n 0, 1) := by decide +kernel
theorem dX4_swings_1 : decode cX4_swings 1 = .ok (.iload_n 1, 1) := by decide +kernel
theorem dX4_swings_2 : decode cX4_swings 2 = .ok (.invokevirtual 83, 3) := by decide +kernel
theorem dX4_swings_5 : decode cX4_swings 5 = .ok (.istore_n 2, 1) := by decide +kernel
theorem dX4_swings_6 : decode cX4_swings 6 = .ok (.aload_n 0, 1) := by decide +kernel
theorem dX4_swings_7 : decode cX4_swings 7 = .ok (.iload_n 1, 1) := by decide +kernel
theorem dX4_swings_8 : decode cX4_swings 8 = .ok (.invokevirtual 102, 3) := by decide +kernel
theorem dX4_swings_11 : decode cX4_swings 11 = .ok (.istore_n 3, 1) := by decide +kernel
theorem dX4_swings_12 : decode cX4_swings 12 = .ok (.iload_n 3, 1) := by decide +kernel
theorem dX4_swings_13 : decode cX4_swings 13 = .ok (.ifCond .ge 17, 3) := by decide +kernel
theorem dX4_swings_16 : decode cX4_swings 16 = .ok (.aload_n 0, 1) := by decide +kernel
theorem dX4_swings_17 : decode cX4_swings 17 = .ok (.iload_n 1, 1) := by decide +kernel
theorem dX4_swings_18 : decode cX4_swings 18 = .ok (.iload_n 2, 1) := by decide +kernel
theorem dX4_swings_19 : decode cX4_swings 19 = .ok (.aload_n 0, 1) := by decide +kernel
theorem dX4_swings_20 : decode cX4_swings 20 = .ok (.iload_n 1, 1) := by decide +kernel
theorem dX4_swings_21 : decode cX4_swings 21 = .ok (.iload_n 2, 1) := by decide +kernel
theorem dX4_swings_22 : decode cX4_swings 22 = .ok (.iload_n 3, 1) := by decide +kernel
theorem dX4_swings_23 : decode cX4_swings 23 = .ok (.ineg, 1) := by decide +kernel
theorem dX4_swings_24 : decode cX4_swings 24 = .ok (.invokevirtual 130, 3) := by decide +kernel
theorem dX4_swings_27 : decode cX4_swings 27 = .ok (.invokevirtual 133, 3) := by decide +kernel
theorem dX4_swings_30 : decode cX4_swings 30 = .ok (.iload_n 3, 1) := by decide +kernel
theorem dX4_swings_31 : decode cX4_swings 31 = .ok (.ifCond .le 17, 3) := by decide +kernel
theorem dX4_swings_34 : decode cX4_swings 34 = .ok (.aload_n 0, 1) := by decide +kernel
theorem dX4_swings_35 : decode cX4_swings 35 = .ok (.iload_n 1, 1) := by decide +kernel
theorem dX4_swings_36 : decode cX4_swings 36 = .ok (.iconst 2, 1) := by decide +kernel
theorem dX4_swings_37 : decode cX4_swings 37 = .ok (.invokevirtual 57, 3) := by decide +kernel
theorem dX4_swings_40 : decode cX4_swings 40 = .ok (.aload_n 0, 1) := by decide +kernel
theorem dX4_swings_41 : decode cX4_swings 41 = .ok (.iload_n 1, 1) := by decide +kernel
theorem dX4_swings_42 : decode cX4_swings 42 = .ok (.invokevirtual 105, 3) := by decide +kernel
theorem dX4_swings_45 : decode cX4_swings 45 = .ok (.if_icmp .ge 4, 3) := by decide +kernel
theorem dX4_swings_48 : decode cX4_swings 48 = .ok (.return_, 1) := by decide +kernel
theorem dX4_swings_49 : decode cX4_swings 49 = .ok (.aload_n 0, 1) := by decide +kernel
theorem dX4_swings_50 : decode cX4_swings 50 = .ok (.iload_n 2, 1) := by decide +kernel
theorem dX4_swings_51 : decode cX4_swings 51 = .ok (.iload_n 1, 1) := by decide +kernel
theorem dX4_swings_52 : decode cX4_swings 52 = .ok (.iload_n 3, 1) := by decide +kernel
theorem dX4_swings_53 : decode cX4_swings 53 = .ok (.aload_n 0, 1) := by decide +kernel
theorem dX4_swings_54 : decode cX4_swings 54 = .ok (.iload_n 2, 1) := by decide +kernel
theorem dX4_swings_55 : decode cX4_swings 55 = .ok (.invokevirtual 108, 3) := by decide +kernel
theorem dX4_swings_58 : decode cX4_swings 58 = .ok (.invokestatic 116, 3) := by decide +kernel
theorem dX4_swings_61 : decode cX4_swings 61 = .ok (.invokevirtual 130, 3) := by decide +kernel
theorem dX4_swings_64 : decode cX4_swings 64 = .ok (.istore 4, 2) := by decide +kernel
theorem dX4_swings_66 : decode cX4_swings 66 = .ok (.aload_n 0, 1) := by decide +kernel
theorem dX4_swings_67 : decode cX4_swings 67 = .ok (.iload_n 2, 1) := by decide +kernel
theorem dX4_swings_68 : decode cX4_swings 68 = .ok (.iload_n 1, 1) := by decide +kernel
theorem dX4_swings_69 : decode cX4_swings 69 = .ok (.iload 4, 2) := by decide +kernel
theorem dX4_swings_71 : decode cX4_swings 71 = .ok (.invokevirtual 133, 3) := by decide +kernel
theorem dX4_swings_74 : decode cX4_swings 74 = .ok (.iload 4, 2) := by decide +kernel
theorem dX4_swings_76 : decode cX4_swings 76 = .ok (.ifCond .le 44, 3) := by decide +kernel
theorem dX4_swings_79 : decode cX4_swings 79 = .ok (.aload_n 0, 1) := by decide +kernel
theorem dX4_swings_80 : decode cX4_swings 80 = .ok (.iload_n 2, 1) := by decide +kernel
theorem dX4_swings_81 : decode cX4_swings 81 = .ok (.iconst 2, 1) := by decide +kernel
theorem dX4_swings_82 : decode cX4_swings 82 = .ok (.aload_n 0, 1) := by decide +kernel
theorem dX4_swings_83 : decode cX4_swings 83 = .ok (.iload_n 2, 1) := by decide +kernel
theorem dX4_swings_84 : decode cX4_swings 84 = .ok (.iconst 2, 1) := by decide +kernel
theorem dX4_swings_85 : decode cX4_swings 85 = .ok (.invokevirtual 57, 3) := by decide +kernel
theorem dX4_swings_88 : decode cX4_swings 88 = .ok (.aload_n 0, 1) := by decide +kernel
theorem dX4_swings_89 : decode cX4_swings 89 = .ok (.iload_n 1, 1) := by decide +kernel
theorem dX4_swings_90 : decode cX4_swings 90 = .ok (.invokevirtual 105, 3) := by decide +kernel
theorem dX4_swings_93 : decode cX4_swings 93 = .ok (.iadd, 1) := by decide +kernel
theorem dX4_swings_94 : decode cX4_swings 94 = .ok (.bipush 99, 2) := by decide +kernel
theorem dX4_swings_96 : decode cX4_swings 96 = .ok (.invokestatic 116, 3) := by decide +kernel
theorem dX4_swings_99 : decode cX4_swings 99 = .ok (.invokevirtual 86, 3) := by decide +kernel
theorem dX4_swings_102 : decode cX4_swings 102 = .ok (.aload_n 0, 1) := by decide +kernel
theorem dX4_swings_103 : decode cX4_swings 103 = .ok (.iload_n 1, 1) := by decide +kernel
theorem dX4_swings_104 : decode cX4_swings 104 = .ok (.iconst 2, 1) := by decide +kernel
theorem dX4_swings_105 : decode cX4_swings 105 = .ok (.aload_n 0, 1) := by decide +kernel
theorem dX4_swings_106 : decode cX4_swings 106 = .ok (.iload_n 1, 1) := by decide +kernel
theorem dX4_swings_107 : decode cX4_swings 107 = .ok (.iconst 2, 1) := by decide +kernel
theorem dX4_swings_108 : decode cX4_swings 108 = .ok (.invokevirtual 57, 3) := by decide +kernel
theorem dX4_swings_111 : decode cX4_swings 111 = .ok (.aload_n 0, 1) := by decide +kernel
theorem dX4_swings_112 : decode cX4_swings 112 = .ok (.iload_n 1, 1) := by decide +kernel
theorem dX4_swings_113 : decode cX4_swings 113 = .ok (.invokevirtual 105, 3) := by decide +kernel
theorem dX4_swings_116 : decode cX4_swings 116 = .ok (.isub, 1) := by decide +kernel
theorem dX4_swings_117 : decode cX4_swings 117 = .ok (.invokevirtual 86, 3) := by decide +kernel
theorem dX4_swings_120 : decode cX4_swings 120 = .ok (.return_, 1) := by decide +kernel
theorem dX4_levels_0 : decode cX4_levels 0 = .ok (.aload_n 0, 1) := by decide +kernel
theorem dX4_levels_1 : decode cX4_levels 1 = .ok (.iconst 1, 1) := by decide +kernel
theorem dX4_levels_2 : decode cX4_levels 2 = .ok (.invokevirtual 60, 3) := by decide +kernel
theorem dX4_levels_5 : decode cX4_levels 5 = .ok (.istore_n 1, 1) := by decide +kernel
theorem dX4_levels_6 : decode cX4_levels 6 = .ok (.aload_n 0, 1) := by decide +kernel
theorem dX4_levels_7 : decode cX4_levels 7 = .ok (.invokevirtual 63, 3) := by decide +kernel
theorem dX4_levels_10 : decode cX4_levels 10 = .ok (.istore_n 2, 1) := by decide +kernel
theorem dX4_levels_11 : decode cX4_levels 11 = .ok (.aload_n 0, 1) := by decide +kernel
theorem dX4_levels_12 : decode cX4_levels 12 = .ok (.iload_n 1, 1) := by decide +kernel
theorem dX4_levels_13 : decode cX4_levels 13 = .ok (.iconst 1, 1) := by decide +kernel
theorem dX4_levels_14 : decode cX4_levels 14 = .ok (.invokevirtual 57, 3) := by decide +kernel
theorem dX4_levels_17 : decode cX4_levels 17 = .ok (.aload_n 0, 1) := by decide +kernel
theorem dX4_levels_18 : decode cX4_levels 18 = .ok (.iload_n 2, 1) := by decide +kernel
theorem dX4_levels_19 : decode cX4_levels 19 = .ok (.iconst 1, 1) := by decide +kernel
theorem dX4_levels_20 : decode cX4_levels 20 = .ok (.invokevirtual 57, 3) := by decide +kernel
theorem dX4_levels_23 : decode cX4_levels 23 = .ok (.isub, 1) := by decide +kernel
theorem dX4_levels_24 : decode cX4_levels 24 = .ok (.iconst 2, 1) := by decide +kernel
theorem dX4_levels_25 : decode cX4_levels 25 = .ok (.if_icmp .lt 10, 3) := by decide +kernel
theorem dX4_levels_28 : decode cX4_levels 28 = .ok (.aload_n 0, 1) := by decide +kernel
theorem dX4_levels_29 : decode cX4_levels 29 = .ok (.iload_n 1, 1) := by decide +kernel
theorem dX4_levels_30 : decode cX4_levels 30 = .ok (.iload_n 2, 1) := by decide +kernel
theorem dX4_levels_31 : decode cX4_levels 31 = .ok (.iconst 1, 1) := by decide +kernel
theorem dX4_levels_32 : decode cX4_levels 32 = .ok (.invokevirtual 133, 3) := by decide +kernel
theorem dX4_levels_35 : decode cX4_levels 35 = .ok (.return_, 1) := by decide +kernel
theorem dX4_oneMinute_0 : decode cX4_oneMinute 0 = .ok (.aload_n 0, 1) := by decide +kernel
theorem dX4_oneMinute_1 : decode cX4_oneMinute 1 = .ok (.getfield 7, 3) := by decide +kernel
theorem dX4_oneMinute_4 : decode cX4_oneMinute 4 = .ok (.iconst 2, 1) := by decide +kernel
theorem dX4_oneMinute_5 : decode cX4_oneMinute 5 = .ok (.iaload, 1) := by decide +kernel
theorem dX4_oneMinute_6 : decode cX4_oneMinute 6 = .ok (.iconst 1, 1) := by decide +kernel
theorem dX4_oneMinute_7 : decode cX4_oneMinute 7 = .ok (.if_icmp .le 17, 3) := by decide +kernel
theorem dX4_oneMinute_10 : decode cX4_oneMinute 10 = .ok (.aload_n 0, 1) := by decide +kernel
theorem dX4_oneMinute_11 : decode cX4_oneMinute 11 = .ok (.invokevirtual 67, 3) := by decide +kernel
theorem dX4_oneMinute_14 : decode cX4_oneMinute 14 = .ok (.ifCond .eq 10, 3) := by decide +kernel
theorem dX4_oneMinute_17 : decode cX4_oneMinute 17 = .ok (.aload_n 0, 1) := by decide +kernel
theorem dX4_oneMinute_18 : decode cX4_oneMinute 18 = .ok (.invokevirtual 136, 3) := by decide +kernel
theorem dX4_oneMinute_21 : decode cX4_oneMinute 21 = .ok (.goto 36, 3) := by decide +kernel
theorem dX4_oneMinute_24 : decode cX4_oneMinute 24 = .ok (.iconst 0, 1) := by decide +kernel
theorem dX4_oneMinute_25 : decode cX4_oneMinute 25 = .ok (.istore_n 1, 1) := by decide +kernel
theorem dX4_oneMinute_26 : decode cX4_oneMinute 26 = .ok (.iload_n 1, 1) := by decide +kernel
theorem dX4_oneMinute_27 : decode cX4_oneMinute 27 = .ok (.aload_n 0, 1) := by decide +kernel
theorem dX4_oneMinute_28 : decode cX4_oneMinute 28 = .ok (.getfield 7, 3) := by decide +kernel
theorem dX4_oneMinute_31 : decode cX4_oneMinute 31 = .ok (.iconst 2, 1) := by decide +kernel
theorem dX4_oneMinute_32 : decode cX4_oneMinute 32 = .ok (.iaload, 1) := by decide +kernel
theorem dX4_oneMinute_33 : decode cX4_oneMinute 33 = .ok (.if_icmp .ge 24, 3) := by decide +kernel
theorem dX4_oneMinute_36 : decode cX4_oneMinute 36 = .ok (.aload_n 0, 1) := by decide +kernel
theorem dX4_oneMinute_37 : decode cX4_oneMinute 37 = .ok (.getfield 7, 3) := by decide +kernel
theorem dX4_oneMinute_40 : decode cX4_oneMinute 40 = .ok (.iconst 2, 1) := by decide +kernel
theorem dX4_oneMinute_41 : decode cX4_oneMinute 41 = .ok (.iaload, 1) := by decide +kernel
theorem dX4_oneMinute_42 : decode cX4_oneMinute 42 = .ok (.iconst 1, 1) := by decide +kernel
theorem dX4_oneMinute_43 : decode cX4_oneMinute 43 = .ok (.if_icmp .le 14, 3) := by decide +kernel
theorem dX4_oneMinute_46 : decode cX4_oneMinute 46 = .ok (.aload_n 0, 1) := by decide +kernel
theorem dX4_oneMinute_47 : decode cX4_oneMinute 47 = .ok (.iload_n 1, 1) := by decide +kernel
theorem dX4_oneMinute_48 : decode cX4_oneMinute 48 = .ok (.invokevirtual 139, 3) := by decide +kernel
theorem dX4_oneMinute_51 : decode cX4_oneMinute 51 = .ok (.iinc 1 1, 3) := by decide +kernel
theorem dX4_oneMinute_54 : decode cX4_oneMinute 54 = .ok (.goto (-28), 3) := by decide +kernel
theorem dX4_oneMinute_57 : decode cX4_oneMinute 57 = .ok (.aload_n 0, 1) := by decide +kernel
theorem dX4_oneMinute_58 : decode cX4_oneMinute 58 = .ok (.getfield 7, 3) := by decide +kernel
theorem dX4_oneMinute_61 : decode cX4_oneMinute 61 = .ok (.iconst 0, 1) := by decide +kernel
theorem dX4_oneMinute_62 : decode cX4_oneMinute 62 = .ok (.dup2, 1) := by decide +kernel
theorem dX4_oneMinute_63 : decode cX4_oneMinute 63 = .ok (.iaload, 1) := by decide +kernel
theorem dX4_oneMinute_64 : decode cX4_oneMinute 64 = .ok (.iconst 1, 1) := by decide +kernel
theorem dX4_oneMinute_65 : decode cX4_oneMinute 65 = .ok (.iadd, 1) := by decide +kernel
theorem dX4_oneMinute_66 : decode cX4_oneMinute 66 = .ok (.iastore, 1) := by decide +kernel
theorem dX4_oneMinute_67 : decode cX4_oneMinute 67 = .ok (.return_, 1) := by decide +kernel
theorem dX4_passes_0 : decode cX4_passes 0 = .ok (.iconst 0, 1) := by decide +kernel
theorem dX4_passes_1 : decode cX4_passes 1 = .ok (.istore_n 2, 1) := by decide +kernel
theorem dX4_passes_2 : decode cX4_passes 2 = .ok (.iload_n 2, 1) := by decide +kernel
theorem dX4_passes_3 : decode cX4_passes 3 = .ok (.iload_n 1, 1) := by decide +kernel
theorem dX4_passes_4 : decode cX4_passes 4 = .ok (.if_icmp .ge 13, 3) := by decide +kernel
theorem dX4_passes_7 : decode cX4_passes 7 = .ok (.aload_n 0, 1) := by decide +kernel
theorem dX4_passes_8 : decode cX4_passes 8 = .ok (.invokevirtual 143, 3) := by decide +kernel
theorem dX4_passes_11 : decode cX4_passes 11 = .ok (.iinc 2 1, 3) := by decide +kernel
theorem dX4_passes_14 : decode cX4_passes 14 = .ok (.goto (-12), 3) := by decide +kernel
theorem dX4_passes_17 : decode cX4_passes 17 = .ok (.return_, 1) := by decide +kernel
theorem dX4_minutes_0 : decode cX4_minutes 0 = .ok (.iload_n 1, 1) := by decide +kernel
theorem dX4_minutes_1 : decode cX4_minutes 1 = .ok (.iconst 1, 1) := by decide +kernel
theorem dX4_minutes_2 : decode cX4_minutes 2 = .ok (.sipush 200, 3) := by decide +kernel
theorem dX4_minutes_5 : decode cX4_minutes 5 = .ok (.invokestatic 45, 3) := by decide +kernel
theorem dX4_minutes_8 : decode cX4_minutes 8 = .ok (.ifCond .ne 10, 3) := by decide +kernel
theorem dX4_minutes_11 : decode cX4_minutes 11 = .ok (.aload_n 0, 1) := by decide +kernel
theorem dX4_minutes_12 : decode cX4_minutes 12 = .ok (.ldc 44, 2) := by decide +kernel
theorem dX4_minutes_14 : decode cX4_minutes 14 = .ok (.invokevirtual 53, 3) := by decide +kernel
theorem dX4_minutes_17 : decode cX4_minutes 17 = .ok (.ireturn, 1) := by decide +kernel
theorem dX4_minutes_18 : decode cX4_minutes 18 = .ok (.aload_n 0, 1) := by decide +kernel
theorem dX4_minutes_19 : decode cX4_minutes 19 = .ok (.getfield 7, 3) := by decide +kernel
theorem dX4_minutes_22 : decode cX4_minutes 22 = .ok (.iconst 0, 1) := by decide +kernel
theorem dX4_minutes_23 : decode cX4_minutes 23 = .ok (.iaload, 1) := by decide +kernel
theorem dX4_minutes_24 : decode cX4_minutes 24 = .ok (.iload_n 1, 1) := by decide +kernel
theorem dX4_minutes_25 : decode cX4_minutes 25 = .ok (.iadd, 1) := by decide +kernel
theorem dX4_minutes_26 : decode cX4_minutes 26 = .ok (.ldc 146, 2) := by decide +kernel
theorem dX4_minutes_28 : decode cX4_minutes 28 = .ok (.if_icmp .le 10, 3) := by decide +kernel
theorem dX4_minutes_31 : decode cX4_minutes 31 = .ok (.aload_n 0, 1) := by decide +kernel
theorem dX4_minutes_32 : decode cX4_minutes 32 = .ok (.ldc 147, 2) := by decide +kernel
theorem dX4_minutes_34 : decode cX4_minutes 34 = .ok (.invokevirtual 53, 3) := by decide +kernel
theorem dX4_minutes_37 : decode cX4_minutes 37 = .ok (.ireturn, 1) := by decide +kernel
theorem dX4_minutes_38 : decode cX4_minutes 38 = .ok (.aload_n 0, 1) := by decide +kernel
theorem dX4_minutes_39 : decode cX4_minutes 39 = .ok (.iload_n 1, 1) := by decide +kernel
theorem dX4_minutes_40 : decode cX4_minutes 40 = .ok (.invokevirtual 148, 3) := by decide +kernel
theorem dX4_minutes_43 : decode cX4_minutes 43 = .ok (.aload_n 0, 1) := by decide +kernel
theorem dX4_minutes_44 : decode cX4_minutes 44 = .ok (.iconst 1, 1) := by decide +kernel
theorem dX4_minutes_45 : decode cX4_minutes 45 = .ok (.invokevirtual 60, 3) := by decide +kernel
theorem dX4_minutes_48 : decode cX4_minutes 48 = .ok (.ireturn, 1) := by decide +kernel
theorem dX4_behind_0 : decode cX4_behind 0 = .ok (.aload_n 0, 1) := by decide +kernel
theorem dX4_behind_1 : decode cX4_behind 1 = .ok (.iload_n 1, 1) := by decide +kernel
theorem dX4_behind_2 : decode cX4_behind 2 = .ok (.invokevirtual 148, 3) := by decide +kernel
theorem dX4_behind_5 : decode cX4_behind 5 = .ok (.aload_n 0, 1) := by decide +kernel
theorem dX4_behind_6 : decode cX4_behind 6 = .ok (.getfield 7, 3) := by decide +kernel
theorem dX4_behind_9 : decode cX4_behind 9 = .ok (.iload_n 2, 1) := by decide +kernel
theorem dX4_behind_10 : decode cX4_behind 10 = .ok (.iaload, 1) := by decide +kernel
theorem dX4_behind_11 : decode cX4_behind 11 = .ok (.istore_n 3, 1) := by decide +kernel
theorem dX4_behind_12 : decode cX4_behind 12 = .ok (.aload_n 0, 1) := by decide +kernel
theorem dX4_behind_13 : decode cX4_behind 13 = .ok (.iconst 0, 1) := by decide +kernel
theorem dX4_behind_14 : decode cX4_behind 14 = .ok (.aload_n 0, 1) := by decide +kernel
theorem dX4_behind_15 : decode cX4_behind 15 = .ok (.getfield 16, 3) := by decide +kernel
theorem dX4_behind_18 : decode cX4_behind 18 = .ok (.invokevirtual 151, 3) := by decide +kernel
theorem dX4_behind_21 : decode cX4_behind 21 = .ok (.iload_n 3, 1) := by decide +kernel
theorem dX4_behind_22 : decode cX4_behind 22 = .ok (.ireturn, 1) := by decide +kernel
theorem dX4_on_0 : decode cX4_on 0 = .ok (.aload_n 0, 1) := by decide +kernel
theorem dX4_on_1 : decode cX4_on 1 = .ok (.iload_n 1, 1) := by decide +kernel
theorem dX4_on_2 : decode cX4_on 2 = .ok (.invokevirtual 98, 3) := by decide +kernel
theorem dX4_on_5 : decode cX4_on 5 = .ok (.ifCond .eq 23, 3) := by decide +kernel
theorem dX4_on_8 : decode cX4_on 8 = .ok (.iload_n 2, 1) := by decide +kernel
theorem dX4_on_9 : decode cX4_on 9 = .ok (.iconst 0, 1) := by decide +kernel
theorem dX4_on_10 : decode cX4_on 10 = .ok (.sipush 400, 3) := by decide +kernel
theorem dX4_on_13 : decode cX4_on 13 = .ok (.invokestatic 45, 3) := by decide +kernel
theorem dX4_on_16 : decode cX4_on 16 = .ok (.ifCond .eq 12, 3) := by decide +kernel
theorem dX4_on_19 : decode cX4_on 19 = .ok (.iload_n 3, 1) := by decide +kernel
theorem dX4_on_20 : decode cX4_on 20 = .ok (.iconst 0, 1) := by decide +kernel
theorem dX4_on_21 : decode cX4_on 21 = .ok (.iconst 1, 1) := by decide +kernel
theorem dX4_on_22 : decode cX4_on 22 = .ok (.invokestatic 45, 3) := by decide +kernel
theorem dX4_on_25 : decode cX4_on 25 = .ok (.ifCond .ne 10, 3) := by decide +kernel
theorem dX4_on_28 : decode cX4_on 28 = .ok (.aload_n 0, 1) := by decide +kernel
theorem dX4_on_29 : decode cX4_on 29 = .ok (.ldc 44, 2) := by decide +kernel
theorem dX4_on_31 : decode cX4_on 31 = .ok (.invokevirtual 53, 3) := by decide +kernel
theorem dX4_on_34 : decode cX4_on 34 = .ok (.ireturn, 1) := by decide +kernel
theorem dX4_on_35 : decode cX4_on 35 = .ok (.aload_n 0, 1) := by decide +kernel
theorem dX4_on_36 : decode cX4_on 36 = .ok (.iconst 1, 1) := by decide +kernel
theorem dX4_on_37 : decode cX4_on 37 = .ok (.aload_n 0, 1) := by decide +kernel
theorem dX4_on_38 : decode cX4_on 38 = .ok (.getfield 16, 3) := by decide +kernel
theorem dX4_on_41 : decode cX4_on 41 = .ok (.invokevirtual 151, 3) := by decide +kernel
theorem dX4_on_44 : decode cX4_on 44 = .ok (.aload_n 0, 1) := by decide +kernel
theorem dX4_on_45 : decode cX4_on 45 = .ok (.iload_n 2, 1) := by decide +kernel
theorem dX4_on_46 : decode cX4_on 46 = .ok (.iconst 3, 1) := by decide +kernel
theorem dX4_on_47 : decode cX4_on 47 = .ok (.iconst 4, 1) := by decide +kernel
theorem dX4_on_48 : decode cX4_on 48 = .ok (.iload_n 1, 1) := by decide +kernel
theorem dX4_on_49 : decode cX4_on 49 = .ok (.imul, 1) := by decide +kernel
theorem dX4_on_50 : decode cX4_on 50 = .ok (.iadd, 1) := by decide +kernel
theorem dX4_on_51 : decode cX4_on 51 = .ok (.iconst 1, 1) := by decide +kernel
theorem dX4_on_52 : decode cX4_on 52 = .ok (.iadd, 1) := by decide +kernel
theorem dX4_on_53 : decode cX4_on 53 = .ok (.iload_n 3, 1) := by decide +kernel
theorem dX4_on_54 : decode cX4_on 54 = .ok (.iadd, 1) := by decide +kernel
theorem dX4_on_55 : decode cX4_on 55 = .ok (.invokevirtual 155, 3) := by decide +kernel
theorem dX4_on_58 : decode cX4_on 58 = .ok (.ireturn, 1) := by decide +kernel
theorem dX4_owes_0 : decode cX4_owes 0 = .ok (.aload_n 0, 1) := by decide +kernel
theorem dX4_owes_1 : decode cX4_owes 1 = .ok (.iload_n 1, 1) := by decide +kernel
theorem dX4_owes_2 : decode cX4_owes 2 = .ok (.invokevirtual 98, 3) := by decide +kernel
theorem dX4_owes_5 : decode cX4_owes 5 = .ok (.ifCond .eq 14, 3) := by decide +kernel
theorem dX4_owes_8 : decode cX4_owes 8 = .ok (.iload_n 2, 1) := by decide +kernel
theorem dX4_owes_9 : decode cX4_owes 9 = .ok (.iconst 0, 1) := by decide +kernel
theorem dX4_owes_10 : decode cX4_owes 10 = .ok (.sipush 400, 3) := by decide +kernel
theorem dX4_owes_13 : decode cX4_owes 13 = .ok (.invokestatic 45, 3) := by decide +kernel
theorem dX4_owes_16 : decode cX4_owes 16 = .ok (.ifCond .ne 10, 3) := by decide +kernel
theorem dX4_owes_19 : decode cX4_owes 19 = .ok (.aload_n 0, 1) := by decide +kernel
theorem dX4_owes_20 : decode cX4_owes 20 = .ok (.ldc 44, 2) := by decide +kernel
theorem dX4_owes_22 : decode cX4_owes 22 = .ok (.invokevirtual 53, 3) := by decide +kernel
theorem dX4_owes_25 : decode cX4_owes 25 = .ok (.ireturn, 1) := by decide +kernel
theorem dX4_owes_26 : decode cX4_owes 26 = .ok (.aload_n 0, 1) := by decide +kernel
theorem dX4_owes_27 : decode cX4_owes 27 = .ok (.iconst 1, 1) := by decide +kernel
theorem dX4_owes_28 : decode cX4_owes 28 = .ok (.aload_n 0, 1) := by decide +kernel
theorem dX4_owes_29 : decode cX4_owes 29 = .ok (.getfield 16, 3) := by decide +kernel
theorem dX4_owes_32 : decode cX4_owes 32 = .ok (.invokevirtual 151, 3) := by decide +kernel
theorem dX4_owes_35 : decode cX4_owes 35 = .ok (.aload_n 0, 1) := by decide +kernel
theorem dX4_owes_36 : decode cX4_owes 36 = .ok (.iload_n 2, 1) := by decide +kernel
theorem dX4_owes_37 : decode cX4_owes 37 = .ok (.iconst 3, 1) := by decide +kernel
theorem dX4_owes_38 : decode cX4_owes 38 = .ok (.iconst 4, 1) := by decide +kernel
theorem dX4_owes_39 : decode cX4_owes 39 = .ok (.iload_n 1, 1) := by decide +kernel
theorem dX4_owes_40 : decode cX4_owes 40 = .ok (.imul, 1) := by decide +kernel
theorem dX4_owes_41 : decode cX4_owes 41 = .ok (.iadd, 1) := by decide +kernel
theorem dX4_owes_42 : decode cX4_owes 42 = .ok (.iconst 3, 1) := by decide +kernel
theorem dX4_owes_43 : decode cX4_owes 43 = .ok (.iadd, 1) := by decide +kernel
theorem dX4_owes_44 : decode cX4_owes 44 = .ok (.invokevirtual 155, 3) := by decide +kernel
theorem dX4_owes_47 : decode cX4_owes 47 = .ok (.ireturn, 1) := by decide +kernel
theorem dX4_level_0 : decode cX4_level 0 = .ok (.aload_n 0, 1) := by decide +kernel
theorem dX4_level_1 : decode cX4_level 1 = .ok (.iconst 1, 1) := by decide +kernel
theorem dX4_level_2 : decode cX4_level 2 = .ok (.aload_n 0, 1) := by decide +kernel
theorem dX4_level_3 : decode cX4_level 3 = .ok (.getfield 16, 3) := by decide +kernel
theorem dX4_level_6 : decode cX4_level 6 = .ok (.invokevirtual 151, 3) := by decide +kernel
theorem dX4_level_9 : decode cX4_level 9 = .ok (.iconst 0, 1) := by decide +kernel
theorem dX4_level_10 : decode cX4_level 10 = .ok (.istore_n 1, 1) := by decide +kernel
theorem dX4_level_11 : decode cX4_level 11 = .ok (.iload_n 1, 1) := by decide +kernel
theorem dX4_level_12 : decode cX4_level 12 = .ok (.sipush 400, 3) := by decide +kernel
theorem dX4_level_15 : decode cX4_level 15 = .ok (.if_icmp .gt 21, 3) := by decide +kernel
theorem dX4_level_18 : decode cX4_level 18 = .ok (.aload_n 0, 1) := by decide +kernel
theorem dX4_level_19 : decode cX4_level 19 = .ok (.invokevirtual 77, 3) := by decide +kernel
theorem dX4_level_22 : decode cX4_level 22 = .ok (.iconst 1, 1) := by decide +kernel
theorem dX4_level_23 : decode cX4_level 23 = .ok (.if_icmp .le 13, 3) := by decide +kernel
theorem dX4_level_26 : decode cX4_level 26 = .ok (.aload_n 0, 1) := by decide +kernel
theorem dX4_level_27 : decode cX4_level 27 = .ok (.invokevirtual 143, 3) := by decide +kernel
theorem dX4_level_30 : decode cX4_level 30 = .ok (.iinc 1 1, 3) := by decide +kernel
theorem dX4_level_33 : decode cX4_level 33 = .ok (.goto (-22), 3) := by decide +kernel
theorem dX4_level_36 : decode cX4_level 36 = .ok (.aload_n 0, 1) := by decide +kernel
theorem dX4_level_37 : decode cX4_level 37 = .ok (.iconst 0, 1) := by decide +kernel
theorem dX4_level_38 : decode cX4_level 38 = .ok (.aload_n 0, 1) := by decide +kernel
theorem dX4_level_39 : decode cX4_level 39 = .ok (.getfield 16, 3) := by decide +kernel
theorem dX4_level_42 : decode cX4_level 42 = .ok (.invokevirtual 151, 3) := by decide +kernel
theorem dX4_level_45 : decode cX4_level 45 = .ok (.iload_n 1, 1) := by decide +kernel
theorem dX4_level_46 : decode cX4_level 46 = .ok (.sipush 400, 3) := by decide +kernel
theorem dX4_level_49 : decode cX4_level 49 = .ok (.if_icmp .le 12, 3) := by decide +kernel
theorem dX4_level_52 : decode cX4_level 52 = .ok (.aload_n 0, 1) := by decide +kernel
theorem dX4_level_53 : decode cX4_level 53 = .ok (.ldc 158, 2) := by decide +kernel
theorem dX4_level_55 : decode cX4_level 55 = .ok (.invokevirtual 53, 3) := by decide +kernel
theorem dX4_level_58 : decode cX4_level 58 = .ok (.goto 4, 3) := by decide +kernel
theorem dX4_level_61 : decode cX4_level 61 = .ok (.iload_n 1, 1) := by decide +kernel
theorem dX4_level_62 : decode cX4_level 62 = .ok (.ireturn, 1) := by decide +kernel
theorem dX4_comes_0 : decode cX4_comes 0 = .ok (.aload_n 0, 1) := by decide +kernel
theorem dX4_comes_1 : decode cX4_comes 1 = .ok (.iload_n 1, 1) := by decide +kernel
theorem dX4_comes_2 : decode cX4_comes 2 = .ok (.invokevirtual 98, 3) := by decide +kernel
theorem dX4_comes_5 : decode cX4_comes 5 = .ok (.ifCond .eq 14, 3) := by decide +kernel
theorem dX4_comes_8 : decode cX4_comes 8 = .ok (.iload_n 2, 1) := by decide +kernel
theorem dX4_comes_9 : decode cX4_comes 9 = .ok (.iconst 0, 1) := by decide +kernel
theorem dX4_comes_10 : decode cX4_comes 10 = .ok (.sipush 200, 3) := by decide +kernel
theorem dX4_comes_13 : decode cX4_comes 13 = .ok (.invokestatic 45, 3) := by decide +kernel
theorem dX4_comes_16 : decode cX4_comes 16 = .ok (.ifCond .ne 10, 3) := by decide +kernel
theorem dX4_comes_19 : decode cX4_comes 19 = .ok (.aload_n 0, 1) := by decide +kernel
theorem dX4_comes_20 : decode cX4_comes 20 = .ok (.ldc 44, 2) := by decide +kernel
theorem dX4_comes_22 : decode cX4_comes 22 = .ok (.invokevirtual 53, 3) := by decide +kernel
theorem dX4_comes_25 : decode cX4_comes 25 = .ok (.ireturn, 1) := by decide +kernel
theorem dX4_comes_26 : decode cX4_comes 26 = .ok (.aload_n 0, 1) := by decide +kernel
theorem dX4_comes_27 : decode cX4_comes 27 = .ok (.iconst 1, 1) := by decide +kernel
theorem dX4_comes_28 : decode cX4_comes 28 = .ok (.aload_n 0, 1) := by decide +kernel
theorem dX4_comes_29 : decode cX4_comes 29 = .ok (.getfield 16, 3) := by decide +kernel
theorem dX4_comes_32 : decode cX4_comes 32 = .ok (.invokevirtual 151, 3) := by decide +kernel
theorem dX4_comes_35 : decode cX4_comes 35 = .ok (.iconst 0, 1) := by decide +kernel
theorem dX4_comes_36 : decode cX4_comes 36 = .ok (.istore_n 3, 1) := by decide +kernel
theorem dX4_comes_37 : decode cX4_comes 37 = .ok (.iload_n 3, 1) := by decide +kernel
theorem dX4_comes_38 : decode cX4_comes 38 = .ok (.sipush 400, 3) := by decide +kernel
theorem dX4_comes_41 : decode cX4_comes 41 = .ok (.if_icmp .gt 23, 3) := by decide +kernel
theorem dX4_comes_44 : decode cX4_comes 44 = .ok (.aload_n 0, 1) := by decide +kernel
theorem dX4_comes_45 : decode cX4_comes 45 = .ok (.iload_n 1, 1) := by decide +kernel
theorem dX4_comes_46 : decode cX4_comes 46 = .ok (.iconst 1, 1) := by decide +kernel
theorem dX4_comes_47 : decode cX4_comes 47 = .ok (.invokevirtual 57, 3) := by decide +kernel
theorem dX4_comes_50 : decode cX4_comes 50 = .ok (.iload_n 2, 1) := by decide +kernel
theorem dX4_comes_51 : decode cX4_comes 51 = .ok (.if_icmp .ge 13, 3) := by decide +kernel
theorem dX4_comes_54 : decode cX4_comes 54 = .ok (.aload_n 0, 1) := by decide +kernel
theorem dX4_comes_55 : decode cX4_comes 55 = .ok (.invokevirtual 143, 3) := by decide +kernel
theorem dX4_comes_58 : decode cX4_comes 58 = .ok (.iinc 3 1, 3) := by decide +kernel
theorem dX4_comes_61 : decode cX4_comes 61 = .ok (.goto (-24), 3) := by decide +kernel
theorem dX4_comes_64 : decode cX4_comes 64 = .ok (.aload_n 0, 1) := by decide +kernel
theorem dX4_comes_65 : decode cX4_comes 65 = .ok (.iconst 0, 1) := by decide +kernel
theorem dX4_comes_66 : decode cX4_comes 66 = .ok (.aload_n 0, 1) := by decide +kernel
theorem dX4_comes_67 : decode cX4_comes 67 = .ok (.getfield 16, 3) := by decide +kernel
theorem dX4_comes_70 : decode cX4_comes 70 = .ok (.invokevirtual 151, 3) := by decide +kernel
theorem dX4_comes_73 : decode cX4_comes 73 = .ok (.iload_n 3, 1) := by decide +kernel
theorem dX4_comes_74 : decode cX4_comes 74 = .ok (.sipush 400, 3) := by decide +kernel
theorem dX4_comes_77 : decode cX4_comes 77 = .ok (.if_icmp .le 12, 3) := by decide +kernel
theorem dX4_comes_80 : decode cX4_comes 80 = .ok (.aload_n 0, 1) := by decide +kernel
theorem dX4_comes_81 : decode cX4_comes 81 = .ok (.ldc 158, 2) := by decide +kernel
theorem dX4_comes_83 : decode cX4_comes 83 = .ok (.invokevirtual 53, 3) := by decide +kernel
theorem dX4_comes_86 : decode cX4_comes 86 = .ok (.goto 4, 3) := by decide +kernel
theorem dX4_comes_89 : decode cX4_comes 89 = .ok (.iload_n 3, 1) := by decide +kernel
theorem dX4_comes_90 : decode cX4_comes 90 = .ok (.ireturn, 1) := by decide +kernel
theorem dX4_dust_0 : decode cX4_dust 0 = .ok (.aload_n 0, 1) := by decide +kernel
theorem dX4_dust_1 : decode cX4_dust 1 = .ok (.iload_n 1, 1) := by decide +kernel
theorem dX4_dust_2 : decode cX4_dust 2 = .ok (.invokevirtual 98, 3) := by decide +kernel
theorem dX4_dust_5 : decode cX4_dust 5 = .ok (.ifCond .ne 10, 3) := by decide +kernel
theorem dX4_dust_8 : decode cX4_dust 8 = .ok (.aload_n 0, 1) := by decide +kernel
theorem dX4_dust_9 : decode cX4_dust 9 = .ok (.ldc 44, 2) := by decide +kernel
theorem dX4_dust_11 : decode cX4_dust 11 = .ok (.invokevirtual 53, 3) := by decide +kernel
theorem dX4_dust_14 : decode cX4_dust 14 = .ok (.ireturn, 1) := by decide +kernel
theorem dX4_dust_15 : decode cX4_dust 15 = .ok (.aload_n 0, 1) := by decide +kernel
theorem dX4_dust_16 : decode cX4_dust 16 = .ok (.iconst 1, 1) := by decide +kernel
theorem dX4_dust_17 : decode cX4_dust 17 = .ok (.aload_n 0, 1) := by decide +kernel
theorem dX4_dust_18 : decode cX4_dust 18 = .ok (.getfield 16, 3) := by decide +kernel
theorem dX4_dust_21 : decode cX4_dust 21 = .ok (.invokevirtual 151, 3) := by decide +kernel
theorem dX4_dust_24 : decode cX4_dust 24 = .ok (.iconst 0, 1) := by decide +kernel
theorem dX4_dust_25 : decode cX4_dust 25 = .ok (.istore_n 2, 1) := by decide +kernel
theorem dX4_dust_26 : decode cX4_dust 26 = .ok (.iload_n 2, 1) := by decide +kernel
theorem dX4_dust_27 : decode cX4_dust 27 = .ok (.sipush 400, 3) := by decide +kernel
theorem dX4_dust_30 : decode cX4_dust 30 = .ok (.if_icmp .gt 22, 3) := by decide +kernel
theorem dX4_dust_33 : decode cX4_dust 33 = .ok (.aload_n 0, 1) := by decide +kernel
theorem dX4_dust_34 : decode cX4_dust 34 = .ok (.iload_n 1, 1) := by decide +kernel
theorem dX4_dust_35 : decode cX4_dust 35 = .ok (.iconst 1, 1) := by decide +kernel
theorem dX4_dust_36 : decode cX4_dust 36 = .ok (.invokevirtual 57, 3) := by decide +kernel
theorem dX4_dust_39 : decode cX4_dust 39 = .ok (.ifCond .le 13, 3) := by decide +kernel
theorem dX4_dust_42 : decode cX4_dust 42 = .ok (.aload_n 0, 1) := by decide +kernel
theorem dX4_dust_43 : decode cX4_dust 43 = .ok (.invokevirtual 143, 3) := by decide +kernel
theorem dX4_dust_46 : decode cX4_dust 46 = .ok (.iinc 2 1, 3) := by decide +kernel
theorem dX4_dust_49 : decode cX4_dust 49 = .ok (.goto (-23), 3) := by decide +kernel
theorem dX4_dust_52 : decode cX4_dust 52 = .ok (.aload_n 0, 1) := by decide +kernel
theorem dX4_dust_53 : decode cX4_dust 53 = .ok (.iconst 0, 1) := by decide +kernel
theorem dX4_dust_54 : decode cX4_dust 54 = .ok (.aload_n 0, 1) := by decide +kernel
theorem dX4_dust_55 : decode cX4_dust 55 = .ok (.getfield 16, 3) := by decide +kernel
theorem dX4_dust_58 : decode cX4_dust 58 = .ok (.invokevirtual 151, 3) := by decide +kernel
theorem dX4_dust_61 : decode cX4_dust 61 = .ok (.iload_n 2, 1) := by decide +kernel
theorem dX4_dust_62 : decode cX4_dust 62 = .ok (.sipush 400, 3) := by decide +kernel
theorem dX4_dust_65 : decode cX4_dust 65 = .ok (.if_icmp .le 12, 3) := by decide +kernel
theorem dX4_dust_68 : decode cX4_dust 68 = .ok (.aload_n 0, 1) := by decide +kernel
theorem dX4_dust_69 : decode cX4_dust 69 = .ok (.ldc 158, 2) := by decide +kernel
theorem dX4_dust_71 : decode cX4_dust 71 = .ok (.invokevirtual 53, 3) := by decide +kernel
theorem dX4_dust_74 : decode cX4_dust 74 = .ok (.goto 4, 3) := by decide +kernel
theorem dX4_dust_77 : decode cX4_dust 77 = .ok (.iload_n 2, 1) := by decide +kernel
theorem dX4_dust_78 : decode cX4_dust 78 = .ok (.ireturn, 1) := by decide +kernel
theorem dX4_heightAt_0 : decode cX4_heightAt 0 = .ok (.iconst 3, 1) := by decide +kernel
theorem dX4_heightAt_1 : decode cX4_heightAt 1 = .ok (.iconst 4, 1) := by decide +kernel
theorem dX4_heightAt_2 : decode cX4_heightAt 2 = .ok (.iload_n 0, 1) := by decide +kernel
theorem dX4_heightAt_3 : decode cX4_heightAt 3 = .ok (.imul, 1) := by decide +kernel
theorem dX4_heightAt_4 : decode cX4_heightAt 4 = .ok (.iadd, 1) := by decide +kernel
theorem dX4_heightAt_5 : decode cX4_heightAt 5 = .ok (.iconst 1, 1) := by decide +kernel
theorem dX4_heightAt_6 : decode cX4_heightAt 6 = .ok (.iadd, 1) := by decide +kernel
theorem dX4_heightAt_7 : decode cX4_heightAt 7 = .ok (.ireturn, 1) := by decide +kernel
theorem dX4_place_0 : decode cX4_place 0 = .ok (.aload_n 0, 1) := by decide +kernel
theorem dX4_place_1 : decode cX4_place 1 = .ok (.iload_n 1, 1) := by decide +kernel
theorem dX4_place_2 : decode cX4_place 2 = .ok (.invokevirtual 98, 3) := by decide +kernel
theorem dX4_place_5 : decode cX4_place 5 = .ok (.ifCond .eq 13, 3) := by decide +kernel
theorem dX4_place_8 : decode cX4_place 8 = .ok (.iload_n 2, 1) := by decide +kernel
theorem dX4_place_9 : decode cX4_place 9 = .ok (.iconst 1, 1) := by decide +kernel
theorem dX4_place_10 : decode cX4_place 10 = .ok (.bipush 100, 2) := by decide +kernel
theorem dX4_place_12 : decode cX4_place 12 = .ok (.invokestatic 45, 3) := by decide +kernel
theorem dX4_place_15 : decode cX4_place 15 = .ok (.ifCond .ne 10, 3) := by decide +kernel
theorem dX4_place_18 : decode cX4_place 18 = .ok (.aload_n 0, 1) := by decide +kernel
theorem dX4_place_19 : decode cX4_place 19 = .ok (.ldc 44, 2) := by decide +kernel
theorem dX4_place_21 : decode cX4_place 21 = .ok (.invokevirtual 53, 3) := by decide +kernel
theorem dX4_place_24 : decode cX4_place 24 = .ok (.ireturn, 1) := by decide +kernel
theorem dX4_place_25 : decode cX4_place 25 = .ok (.aload_n 0, 1) := by decide +kernel
theorem dX4_place_26 : decode cX4_place 26 = .ok (.iconst 1, 1) := by decide +kernel
theorem dX4_place_27 : decode cX4_place 27 = .ok (.aload_n 0, 1) := by decide +kernel
theorem dX4_place_28 : decode cX4_place 28 = .ok (.getfield 16, 3) := by decide +kernel
theorem dX4_place_31 : decode cX4_place 31 = .ok (.invokevirtual 151, 3) := by decide +kernel
theorem dX4_place_34 : decode cX4_place 34 = .ok (.iconst (-1), 1) := by decide +kernel
theorem dX4_place_35 : decode cX4_place 35 = .ok (.istore_n 3, 1) := by decide +kernel
theorem dX4_place_36 : decode cX4_place 36 = .ok (.aload_n 0, 1) := by decide +kernel
theorem dX4_place_37 : decode cX4_place 37 = .ok (.iload_n 2, 1) := by decide +kernel
theorem dX4_place_38 : decode cX4_place 38 = .ok (.iload_n 1, 1) := by decide +kernel
theorem dX4_place_39 : decode cX4_place 39 = .ok (.invokestatic 159, 3) := by decide +kernel
theorem dX4_place_42 : decode cX4_place 42 = .ok (.invokevirtual 155, 3) := by decide +kernel
theorem dX4_place_45 : decode cX4_place 45 = .ok (.istore 4, 2) := by decide +kernel
theorem dX4_place_47 : decode cX4_place 47 = .ok (.iconst 0, 1) := by decide +kernel
theorem dX4_place_48 : decode cX4_place 48 = .ok (.istore 5, 2) := by decide +kernel
theorem dX4_place_50 : decode cX4_place 50 = .ok (.iload 5, 2) := by decide +kernel
theorem dX4_place_52 : decode cX4_place 52 = .ok (.aload_n 0, 1) := by decide +kernel
theorem dX4_place_53 : decode cX4_place 53 = .ok (.getfield 7, 3) := by decide +kernel
theorem dX4_place_56 : decode cX4_place 56 = .ok (.iconst 2, 1) := by decide +kernel
theorem dX4_place_57 : decode cX4_place 57 = .ok (.iaload, 1) := by decide +kernel
theorem dX4_place_58 : decode cX4_place 58 = .ok (.if_icmp .ge 64, 3) := by decide +kernel
theorem dX4_place_61 : decode cX4_place 61 = .ok (.iload 5, 2) := by decide +kernel
theorem dX4_place_63 : decode cX4_place 63 = .ok (.iload_n 1, 1) := by decide +kernel
theorem dX4_place_64 : decode cX4_place 64 = .ok (.if_icmp .eq 52, 3) := by decide +kernel
theorem dX4_place_67 : decode cX4_place 67 = .ok (.aload_n 0, 1) := by decide +kernel
theorem dX4_place_68 : decode cX4_place 68 = .ok (.iload_n 1, 1) := by decide +kernel
theorem dX4_place_69 : decode cX4_place 69 = .ok (.iload 5, 2) := by decide +kernel
theorem dX4_place_71 : decode cX4_place 71 = .ok (.invokevirtual 123, 3) := by decide +kernel
theorem dX4_place_74 : decode cX4_place 74 = .ok (.aload_n 0, 1) := by decide +kernel
theorem dX4_place_75 : decode cX4_place 75 = .ok (.iload_n 2, 1) := by decide +kernel
theorem dX4_place_76 : decode cX4_place 76 = .ok (.iload 5, 2) := by decide +kernel
theorem dX4_place_78 : decode cX4_place 78 = .ok (.invokestatic 159, 3) := by decide +kernel
theorem dX4_place_81 : decode cX4_place 81 = .ok (.invokevirtual 155, 3) := by decide +kernel
theorem dX4_place_84 : decode cX4_place 84 = .ok (.istore 6, 2) := by decide +kernel
theorem dX4_place_86 : decode cX4_place 86 = .ok (.iload 6, 2) := by decide +kernel
theorem dX4_place_88 : decode cX4_place 88 = .ok (.iload 4, 2) := by decide +kernel
theorem dX4_place_90 : decode cX4_place 90 = .ok (.if_icmp .le 8, 3) := by decide +kernel
theorem dX4_place_93 : decode cX4_place 93 = .ok (.iload 5, 2) := by decide +kernel
theorem dX4_place_95 : decode cX4_place 95 = .ok (.goto 4, 3) := by decide +kernel
theorem dX4_place_98 : decode cX4_place 98 = .ok (.iload_n 3, 1) := by decide +kernel
theorem dX4_place_99 : decode cX4_place 99 = .ok (.istore_n 3, 1) := by decide +kernel
theorem dX4_place_100 : decode cX4_place 100 = .ok (.iload 6, 2) := by decide +kernel
theorem dX4_place_102 : decode cX4_place 102 = .ok (.iload 4, 2) := by decide +kernel
theorem dX4_place_104 : decode cX4_place 104 = .ok (.if_icmp .le 8, 3) := by decide +kernel
theorem dX4_place_107 : decode cX4_place 107 = .ok (.iload 6, 2) := by decide +kernel
theorem dX4_place_109 : decode cX4_place 109 = .ok (.goto 5, 3) := by decide +kernel
theorem dX4_place_112 : decode cX4_place 112 = .ok (.iload 4, 2) := by decide +kernel
theorem dX4_place_114 : decode cX4_place 114 = .ok (.istore 4, 2) := by decide +kernel
theorem dX4_place_116 : decode cX4_place 116 = .ok (.iinc 5 1, 3) := by decide +kernel
theorem dX4_place_119 : decode cX4_place 119 = .ok (.goto (-69), 3) := by decide +kernel
theorem dX4_place_122 : decode cX4_place 122 = .ok (.iload_n 3, 1) := by decide +kernel
theorem dX4_place_123 : decode cX4_place 123 = .ok (.ifCond .ge 12, 3) := by decide +kernel
theorem dX4_place_126 : decode cX4_place 126 = .ok (.aload_n 0, 1) := by decide +kernel
theorem dX4_place_127 : decode cX4_place 127 = .ok (.ldc 158, 2) := by decide +kernel
theorem dX4_place_129 : decode cX4_place 129 = .ok (.invokevirtual 53, 3) := by decide +kernel
theorem dX4_place_132 : decode cX4_place 132 = .ok (.goto 4, 3) := by decide +kernel
theorem dX4_place_135 : decode cX4_place 135 = .ok (.iload_n 3, 1) := by decide +kernel
theorem dX4_place_136 : decode cX4_place 136 = .ok (.ireturn, 1) := by decide +kernel
theorem dX4_kind_0 : decode cX4_kind 0 = .ok (.aload_n 0, 1) := by decide +kernel
theorem dX4_kind_1 : decode cX4_kind 1 = .ok (.iload_n 1, 1) := by decide +kernel
theorem dX4_kind_2 : decode cX4_kind 2 = .ok (.invokevirtual 98, 3) := by decide +kernel
theorem dX4_kind_5 : decode cX4_kind 5 = .ok (.ifCond .eq 13, 3) := by decide +kernel
theorem dX4_kind_8 : decode cX4_kind 8 = .ok (.iload_n 2, 1) := by decide +kernel
theorem dX4_kind_9 : decode cX4_kind 9 = .ok (.iconst 1, 1) := by decide +kernel
theorem dX4_kind_10 : decode cX4_kind 10 = .ok (.bipush 100, 2) := by decide +kernel
theorem dX4_kind_12 : decode cX4_kind 12 = .ok (.invokestatic 45, 3) := by decide +kernel
theorem dX4_kind_15 : decode cX4_kind 15 = .ok (.ifCond .ne 10, 3) := by decide +kernel
theorem dX4_kind_18 : decode cX4_kind 18 = .ok (.aload_n 0, 1) := by decide +kernel
theorem dX4_kind_19 : decode cX4_kind 19 = .ok (.ldc 44, 2) := by decide +kernel
theorem dX4_kind_21 : decode cX4_kind 21 = .ok (.invokevirtual 53, 3) := by decide +kernel
theorem dX4_kind_24 : decode cX4_kind 24 = .ok (.ireturn, 1) := by decide +kernel
theorem dX4_kind_25 : decode cX4_kind 25 = .ok (.aload_n 0, 1) := by decide +kernel
theorem dX4_kind_26 : decode cX4_kind 26 = .ok (.iconst 1, 1) := by decide +kernel
theorem dX4_kind_27 : decode cX4_kind 27 = .ok (.aload_n 0, 1) := by decide +kernel
theorem dX4_kind_28 : decode cX4_kind 28 = .ok (.getfield 16, 3) := by decide +kernel
theorem dX4_kind_31 : decode cX4_kind 31 = .ok (.invokevirtual 151, 3) := by decide +kernel
theorem dX4_kind_34 : decode cX4_kind 34 = .ok (.iconst 0, 1) := by decide +kernel
theorem dX4_kind_35 : decode cX4_kind 35 = .ok (.istore_n 3, 1) := by decide +kernel
theorem dX4_kind_36 : decode cX4_kind 36 = .ok (.iconst (-1), 1) := by decide +kernel
theorem dX4_kind_37 : decode cX4_kind 37 = .ok (.istore 4, 2) := by decide +kernel
theorem dX4_kind_39 : decode cX4_kind 39 = .ok (.iconst 0, 1) := by decide +kernel
theorem dX4_kind_40 : decode cX4_kind 40 = .ok (.istore 5, 2) := by decide +kernel
theorem dX4_kind_42 : decode cX4_kind 42 = .ok (.iload 5, 2) := by decide +kernel
theorem dX4_kind_44 : decode cX4_kind 44 = .ok (.bipush 6, 2) := by decide +kernel
theorem dX4_kind_46 : decode cX4_kind 46 = .ok (.if_icmp .ge 58, 3) := by decide +kernel
theorem dX4_kind_49 : decode cX4_kind 49 = .ok (.aload_n 0, 1) := by decide +kernel
theorem dX4_kind_50 : decode cX4_kind 50 = .ok (.iload_n 1, 1) := by decide +kernel
theorem dX4_kind_51 : decode cX4_kind 51 = .ok (.iconst 0, 1) := by decide +kernel
theorem dX4_kind_52 : decode cX4_kind 52 = .ok (.iload 5, 2) := by decide +kernel
theorem dX4_kind_54 : decode cX4_kind 54 = .ok (.invokevirtual 86, 3) := by decide +kernel
theorem dX4_kind_57 : decode cX4_kind 57 = .ok (.aload_n 0, 1) := by decide +kernel
theorem dX4_kind_58 : decode cX4_kind 58 = .ok (.iload_n 2, 1) := by decide +kernel
theorem dX4_kind_59 : decode cX4_kind 59 = .ok (.iload_n 1, 1) := by decide +kernel
theorem dX4_kind_60 : decode cX4_kind 60 = .ok (.invokestatic 159, 3) := by decide +kernel
theorem dX4_kind_63 : decode cX4_kind 63 = .ok (.invokevirtual 155, 3) := by decide +kernel
theorem dX4_kind_66 : decode cX4_kind 66 = .ok (.istore 6, 2) := by decide +kernel
theorem dX4_kind_68 : decode cX4_kind 68 = .ok (.iload 6, 2) := by decide +kernel
theorem dX4_kind_70 : decode cX4_kind 70 = .ok (.iload 4, 2) := by decide +kernel
theorem dX4_kind_72 : decode cX4_kind 72 = .ok (.if_icmp .le 8, 3) := by decide +kernel
theorem dX4_kind_75 : decode cX4_kind 75 = .ok (.iload 5, 2) := by decide +kernel
theorem dX4_kind_77 : decode cX4_kind 77 = .ok (.goto 4, 3) := by decide +kernel
theorem dX4_kind_80 : decode cX4_kind 80 = .ok (.iload_n 3, 1) := by decide +kernel
theorem dX4_kind_81 : decode cX4_kind 81 = .ok (.istore_n 3, 1) := by decide +kernel
theorem dX4_kind_82 : decode cX4_kind 82 = .ok (.iload 6, 2) := by decide +kernel
theorem dX4_kind_84 : decode cX4_kind 84 = .ok (.iload 4, 2) := by decide +kernel
theorem dX4_kind_86 : decode cX4_kind 86 = .ok (.if_icmp .le 8, 3) := by decide +kernel
theorem dX4_kind_89 : decode cX4_kind 89 = .ok (.iload 6, 2) := by decide +kernel
theorem dX4_kind_91 : decode cX4_kind 91 = .ok (.goto 5, 3) := by decide +kernel
theorem dX4_kind_94 : decode cX4_kind 94 = .ok (.iload 4, 2) := by decide +kernel
theorem dX4_kind_96 : decode cX4_kind 96 = .ok (.istore 4, 2) := by decide +kernel
theorem dX4_kind_98 : decode cX4_kind 98 = .ok (.iinc 5 1, 3) := by decide +kernel
theorem dX4_kind_101 : decode cX4_kind 101 = .ok (.goto (-59), 3) := by decide +kernel
theorem dX4_kind_104 : decode cX4_kind 104 = .ok (.iload_n 3, 1) := by decide +kernel
theorem dX4_kind_105 : decode cX4_kind 105 = .ok (.ireturn, 1) := by decide +kernel
theorem dX4_marbles_0 : decode cX4_marbles 0 = .ok (.aload_n 0, 1) := by decide +kernel
theorem dX4_marbles_1 : decode cX4_marbles 1 = .ok (.iload_n 1, 1) := by decide +kernel
theorem dX4_marbles_2 : decode cX4_marbles 2 = .ok (.invokevirtual 98, 3) := by decide +kernel
theorem dX4_marbles_5 : decode cX4_marbles 5 = .ok (.ifCond .eq 24, 3) := by decide +kernel
theorem dX4_marbles_8 : decode cX4_marbles 8 = .ok (.iload_n 2, 1) := by decide +kernel
theorem dX4_marbles_9 : decode cX4_marbles 9 = .ok (.iconst 1, 1) := by decide +kernel
theorem dX4_marbles_10 : decode cX4_marbles 10 = .ok (.bipush 100, 2) := by decide +kernel
theorem dX4_marbles_12 : decode cX4_marbles 12 = .ok (.invokestatic 45, 3) := by decide +kernel
theorem dX4_marbles_15 : decode cX4_marbles 15 = .ok (.ifCond .eq 14, 3) := by decide +kernel
theorem dX4_marbles_18 : decode cX4_marbles 18 = .ok (.iload_n 3, 1) := by decide +kernel
theorem dX4_marbles_19 : decode cX4_marbles 19 = .ok (.iconst 0, 1) := by decide +kernel
theorem dX4_marbles_20 : decode cX4_marbles 20 = .ok (.sipush 200, 3) := by decide +kernel
theorem dX4_marbles_23 : decode cX4_marbles 23 = .ok (.invokestatic 45, 3) := by decide +kernel
theorem dX4_marbles_26 : decode cX4_marbles 26 = .ok (.ifCond .ne 10, 3) := by decide +kernel
theorem dX4_marbles_29 : decode cX4_marbles 29 = .ok (.aload_n 0, 1) := by decide +kernel
theorem dX4_marbles_30 : decode cX4_marbles 30 = .ok (.ldc 44, 2) := by decide +kernel
theorem dX4_marbles_32 : decode cX4_marbles 32 = .ok (.invokevirtual 53, 3) := by decide +kernel
theorem dX4_marbles_35 : decode cX4_marbles 35 = .ok (.ireturn, 1) := by decide +kernel
theorem dX4_marbles_36 : decode cX4_marbles 36 = .ok (.aload_n 0, 1) := by decide +kernel
theorem dX4_marbles_37 : decode cX4_marbles 37 = .ok (.iconst 1, 1) := by decide +kernel
theorem dX4_marbles_38 : decode cX4_marbles 38 = .ok (.aload_n 0, 1) := by decide +kernel
theorem dX4_marbles_39 : decode cX4_marbles 39 = .ok (.getfield 16, 3) := by decide +kernel
theorem dX4_marbles_42 : decode cX4_marbles 42 = .ok (.invokevirtual 151, 3) := by decide +kernel
theorem dX4_marbles_45 : decode cX4_marbles 45 = .ok (.iconst (-1), 1) := by decide +kernel
theorem dX4_marbles_46 : decode cX4_marbles 46 = .ok (.istore 4, 2) := by decide +kernel
theorem dX4_marbles_48 : decode cX4_marbles 48 = .ok (.iconst 0, 1) := by decide +kernel
theorem dX4_marbles_49 : decode cX4_marbles 49 = .ok (.istore 5, 2) := by decide +kernel
theorem dX4_marbles_51 : decode cX4_marbles 51 = .ok (.iload 4, 2) := by decide +kernel
theorem dX4_marbles_53 : decode cX4_marbles 53 = .ok (.bipush 99, 2) := by decide +kernel
theorem dX4_marbles_55 : decode cX4_marbles 55 = .ok (.if_icmp .ge 42, 3) := by decide +kernel
theorem dX4_marbles_58 : decode cX4_marbles 58 = .ok (.iload 5, 2) := by decide +kernel
theorem dX4_marbles_60 : decode cX4_marbles 60 = .ok (.ifCond .ne 37, 3) := by decide +kernel
theorem dX4_marbles_63 : decode cX4_marbles 63 = .ok (.iinc 4 1, 3) := by decide +kernel
theorem dX4_marbles_66 : decode cX4_marbles 66 = .ok (.aload_n 0, 1) := by decide +kernel
theorem dX4_marbles_67 : decode cX4_marbles 67 = .ok (.iload_n 1, 1) := by decide +kernel
theorem dX4_marbles_68 : decode cX4_marbles 68 = .ok (.iconst 2, 1) := by decide +kernel
theorem dX4_marbles_69 : decode cX4_marbles 69 = .ok (.iload 4, 2) := by decide +kernel
theorem dX4_marbles_71 : decode cX4_marbles 71 = .ok (.invokevirtual 86, 3) := by decide +kernel
theorem dX4_marbles_74 : decode cX4_marbles 74 = .ok (.aload_n 0, 1) := by decide +kernel
theorem dX4_marbles_75 : decode cX4_marbles 75 = .ok (.iload_n 2, 1) := by decide +kernel
theorem dX4_marbles_76 : decode cX4_marbles 76 = .ok (.iload_n 1, 1) := by decide +kernel
theorem dX4_marbles_77 : decode cX4_marbles 77 = .ok (.invokestatic 159, 3) := by decide +kernel
theorem dX4_marbles_80 : decode cX4_marbles 80 = .ok (.invokevirtual 155, 3) := by decide +kernel
theorem dX4_marbles_83 : decode cX4_marbles 83 = .ok (.iload_n 3, 1) := by decide +kernel
theorem dX4_marbles_84 : decode cX4_marbles 84 = .ok (.if_icmp .lt 7, 3) := by decide +kernel
theorem dX4_marbles_87 : decode cX4_marbles 87 = .ok (.iconst 1, 1) := by decide +kernel
theorem dX4_marbles_88 : decode cX4_marbles 88 = .ok (.goto 4, 3) := by decide +kernel
theorem dX4_marbles_91 : decode cX4_marbles 91 = .ok (.iconst 0, 1) := by decide +kernel
theorem dX4_marbles_92 : decode cX4_marbles 92 = .ok (.istore 5, 2) := by decide +kernel
theorem dX4_marbles_94 : decode cX4_marbles 94 = .ok (.goto (-43), 3) := by decide +kernel
theorem dX4_marbles_97 : decode cX4_marbles 97 = .ok (.iload 5, 2) := by decide +kernel
theorem dX4_marbles_99 : decode cX4_marbles 99 = .ok (.ifCond .eq 8, 3) := by decide +kernel
theorem dX4_marbles_102 : decode cX4_marbles 102 = .ok (.iload 4, 2) := by decide +kernel
theorem dX4_marbles_104 : decode cX4_marbles 104 = .ok (.goto 9, 3) := by decide +kernel
theorem dX4_marbles_107 : decode cX4_marbles 107 = .ok (.aload_n 0, 1) := by decide +kernel
theorem dX4_marbles_108 : decode cX4_marbles 108 = .ok (.ldc 158, 2) := by decide +kernel
theorem dX4_marbles_110 : decode cX4_marbles 110 = .ok (.invokevirtual 53, 3) := by decide +kernel
theorem dX4_marbles_113 : decode cX4_marbles 113 = .ok (.ireturn, 1) := by decide +kernel
theorem dX4_night_0 : decode cX4_night 0 = .ok (.iload_n 1, 1) := by decide +kernel
theorem dX4_night_1 : decode cX4_night 1 = .ok (.iconst 1, 1) := by decide +kernel
theorem dX4_night_2 : decode cX4_night 2 = .ok (.bipush 120, 2) := by decide +kernel
theorem dX4_night_4 : decode cX4_night 4 = .ok (.invokestatic 45, 3) := by decide +kernel
theorem dX4_night_7 : decode cX4_night 7 = .ok (.ifCond .ne 10, 3) := by decide +kernel
theorem dX4_night_10 : decode cX4_night 10 = .ok (.aload_n 0, 1) := by decide +kernel
theorem dX4_night_11 : decode cX4_night 11 = .ok (.ldc 44, 2) := by decide +kernel
theorem dX4_night_13 : decode cX4_night 13 = .ok (.invokevirtual 53, 3) := by decide +kernel
theorem dX4_night_16 : decode cX4_night 16 = .ok (.ireturn, 1) := by decide +kernel
theorem dX4_night_17 : decode cX4_night 17 = .ok (.iconst 0, 1) := by decide +kernel
theorem dX4_night_18 : decode cX4_night 18 = .ok (.istore_n 2, 1) := by decide +kernel
theorem dX4_night_19 : decode cX4_night 19 = .ok (.sipush 201, 3) := by decide +kernel
theorem dX4_night_22 : decode cX4_night 22 = .ok (.istore_n 3, 1) := by decide +kernel
theorem dX4_night_23 : decode cX4_night 23 = .ok (.aload_n 0, 1) := by decide +kernel
theorem dX4_night_24 : decode cX4_night 24 = .ok (.iconst 1, 1) := by decide +kernel
theorem dX4_night_25 : decode cX4_night 25 = .ok (.aload_n 0, 1) := by decide +kernel
theorem dX4_night_26 : decode cX4_night 26 = .ok (.getfield 16, 3) := by decide +kernel
theorem dX4_night_29 : decode cX4_night 29 = .ok (.invokevirtual 151, 3) := by decide +kernel
theorem dX4_night_32 : decode cX4_night 32 = .ok (.iconst 0, 1) := by decide +kernel
theorem dX4_night_33 : decode cX4_night 33 = .ok (.istore 4, 2) := by decide +kernel
theorem dX4_night_35 : decode cX4_night 35 = .ok (.iload 4, 2) := by decide +kernel
theorem dX4_night_37 : decode cX4_night 37 = .ok (.bipush 60, 2) := by decide +kernel
theorem dX4_night_39 : decode cX4_night 39 = .ok (.if_icmp .ge 63, 3) := by decide +kernel
theorem dX4_night_42 : decode cX4_night 42 = .ok (.aload_n 0, 1) := by decide +kernel
theorem dX4_night_43 : decode cX4_night 43 = .ok (.getfield 7, 3) := by decide +kernel
theorem dX4_night_46 : decode cX4_night 46 = .ok (.iconst 1, 1) := by decide +kernel
theorem dX4_night_47 : decode cX4_night 47 = .ok (.iload 4, 2) := by decide +kernel
theorem dX4_night_49 : decode cX4_night 49 = .ok (.iastore, 1) := by decide +kernel
theorem dX4_night_50 : decode cX4_night 50 = .ok (.aload_n 0, 1) := by decide +kernel
theorem dX4_night_51 : decode cX4_night 51 = .ok (.iload_n 1, 1) := by decide +kernel
theorem dX4_night_52 : decode cX4_night 52 = .ok (.invokevirtual 148, 3) := by decide +kernel
theorem dX4_night_55 : decode cX4_night 55 = .ok (.aload_n 0, 1) := by decide +kernel
theorem dX4_night_56 : decode cX4_night 56 = .ok (.invokevirtual 77, 3) := by decide +kernel
theorem dX4_night_59 : decode cX4_night 59 = .ok (.istore 5, 2) := by decide +kernel
theorem dX4_night_61 : decode cX4_night 61 = .ok (.aload_n 0, 1) := by decide +kernel
theorem dX4_night_62 : decode cX4_night 62 = .ok (.iconst 0, 1) := by decide +kernel
theorem dX4_night_63 : decode cX4_night 63 = .ok (.aload_n 0, 1) := by decide +kernel
theorem dX4_night_64 : decode cX4_night 64 = .ok (.getfield 16, 3) := by decide +kernel
theorem dX4_night_67 : decode cX4_night 67 = .ok (.invokevirtual 151, 3) := by decide +kernel
theorem dX4_night_70 : decode cX4_night 70 = .ok (.iload 5, 2) := by decide +kernel
theorem dX4_night_72 : decode cX4_night 72 = .ok (.iload_n 3, 1) := by decide +kernel
theorem dX4_night_73 : decode cX4_night 73 = .ok (.if_icmp .ge 8, 3) := by decide +kernel
theorem dX4_night_76 : decode cX4_night 76 = .ok (.iload 4, 2) := by decide +kernel
theorem dX4_night_78 : decode cX4_night 78 = .ok (.goto 4, 3) := by decide +kernel
theorem dX4_night_81 : decode cX4_night 81 = .ok (.iload_n 2, 1) := by decide +kernel
theorem dX4_night_82 : decode cX4_night 82 = .ok (.istore_n 2, 1) := by decide +kernel
theorem dX4_night_83 : decode cX4_night 83 = .ok (.iload 5, 2) := by decide +kernel
theorem dX4_night_85 : decode cX4_night 85 = .ok (.iload_n 3, 1) := by decide +kernel
theorem dX4_night_86 : decode cX4_night 86 = .ok (.if_icmp .ge 8, 3) := by decide +kernel
theorem dX4_night_89 : decode cX4_night 89 = .ok (.iload 5, 2) := by decide +kernel
theorem dX4_night_91 : decode cX4_night 91 = .ok (.goto 4, 3) := by decide +kernel
theorem dX4_night_94 : decode cX4_night 94 = .ok (.iload_n 3, 1) := by decide +kernel
theorem dX4_night_95 : decode cX4_night 95 = .ok (.istore_n 3, 1) := by decide +kernel
theorem dX4_night_96 : decode cX4_night 96 = .ok (.iinc 4 1, 3) := by decide +kernel
theorem dX4_night_99 : decode cX4_night 99 = .ok (.goto (-64), 3) := by decide +kernel
theorem dX4_night_102 : decode cX4_night 102 = .ok (.iload_n 2, 1) := by decide +kernel
theorem dX4_night_103 : decode cX4_night 103 = .ok (.ireturn, 1) := by decide +kernel
theorem dX4_enough_0 : decode cX4_enough 0 = .ok (.aload_n 0, 1) := by decide +kernel
theorem dX4_enough_1 : decode cX4_enough 1 = .ok (.iload_n 1, 1) := by decide +kernel
theorem dX4_enough_2 : decode cX4_enough 2 = .ok (.invokevirtual 98, 3) := by decide +kernel
theorem dX4_enough_5 : decode cX4_enough 5 = .ok (.ifCond .eq 24, 3) := by decide +kernel
theorem dX4_enough_8 : decode cX4_enough 8 = .ok (.iload_n 2, 1) := by decide +kernel
theorem dX4_enough_9 : decode cX4_enough 9 = .ok (.iconst 0, 1) := by decide +kernel
theorem dX4_enough_10 : decode cX4_enough 10 = .ok (.bipush 100, 2) := by decide +kernel
theorem dX4_enough_12 : decode cX4_enough 12 = .ok (.invokestatic 45, 3) := by decide +kernel
theorem dX4_enough_15 : decode cX4_enough 15 = .ok (.ifCond .eq 14, 3) := by decide +kernel
theorem dX4_enough_18 : decode cX4_enough 18 = .ok (.iload_n 3, 1) := by decide +kernel
theorem dX4_enough_19 : decode cX4_enough 19 = .ok (.iconst 0, 1) := by decide +kernel
theorem dX4_enough_20 : decode cX4_enough 20 = .ok (.sipush 200, 3) := by decide +kernel
theorem dX4_enough_23 : decode cX4_enough 23 = .ok (.invokestatic 45, 3) := by decide +kernel
theorem dX4_enough_26 : decode cX4_enough 26 = .ok (.ifCond .ne 10, 3) := by decide +kernel
theorem dX4_enough_29 : decode cX4_enough 29 = .ok (.aload_n 0, 1) := by decide +kernel
theorem dX4_enough_30 : decode cX4_enough 30 = .ok (.ldc 44, 2) := by decide +kernel
theorem dX4_enough_32 : decode cX4_enough 32 = .ok (.invokevirtual 53, 3) := by decide +kernel
theorem dX4_enough_35 : decode cX4_enough 35 = .ok (.ireturn, 1) := by decide +kernel
theorem dX4_enough_36 : decode cX4_enough 36 = .ok (.aload_n 0, 1) := by decide +kernel
theorem dX4_enough_37 : decode cX4_enough 37 = .ok (.iconst 1, 1) := by decide +kernel
theorem dX4_enough_38 : decode cX4_enough 38 = .ok (.aload_n 0, 1) := by decide +kernel
theorem dX4_enough_39 : decode cX4_enough 39 = .ok (.getfield 16, 3) := by decide +kernel
theorem dX4_enough_42 : decode cX4_enough 42 = .ok (.invokevirtual 151, 3) := by decide +kernel
theorem dX4_enough_45 : decode cX4_enough 45 = .ok (.iconst (-1), 1) := by decide +kernel
theorem dX4_enough_46 : decode cX4_enough 46 = .ok (.istore 4, 2) := by decide +kernel
theorem dX4_enough_48 : decode cX4_enough 48 = .ok (.iconst 0, 1) := by decide +kernel
theorem dX4_enough_49 : decode cX4_enough 49 = .ok (.istore 5, 2) := by decide +kernel
theorem dX4_enough_51 : decode cX4_enough 51 = .ok (.iload 4, 2) := by decide +kernel
theorem dX4_enough_53 : decode cX4_enough 53 = .ok (.bipush 99, 2) := by decide +kernel
theorem dX4_enough_55 : decode cX4_enough 55 = .ok (.if_icmp .ge 41, 3) := by decide +kernel
theorem dX4_enough_58 : decode cX4_enough 58 = .ok (.iload 5, 2) := by decide +kernel
theorem dX4_enough_60 : decode cX4_enough 60 = .ok (.ifCond .ne 36, 3) := by decide +kernel
theorem dX4_enough_63 : decode cX4_enough 63 = .ok (.iinc 4 1, 3) := by decide +kernel
theorem dX4_enough_66 : decode cX4_enough 66 = .ok (.aload_n 0, 1) := by decide +kernel
theorem dX4_enough_67 : decode cX4_enough 67 = .ok (.iload_n 1, 1) := by decide +kernel
theorem dX4_enough_68 : decode cX4_enough 68 = .ok (.iload 4, 2) := by decide +kernel
theorem dX4_enough_70 : decode cX4_enough 70 = .ok (.invokevirtual 119, 3) := by decide +kernel
theorem dX4_enough_73 : decode cX4_enough 73 = .ok (.aload_n 0, 1) := by decide +kernel
theorem dX4_enough_74 : decode cX4_enough 74 = .ok (.iload_n 2, 1) := by decide +kernel
theorem dX4_enough_75 : decode cX4_enough 75 = .ok (.iload_n 1, 1) := by decide +kernel
theorem dX4_enough_76 : decode cX4_enough 76 = .ok (.invokestatic 159, 3) := by decide +kernel
theorem dX4_enough_79 : decode cX4_enough 79 = .ok (.invokevirtual 155, 3) := by decide +kernel
theorem dX4_enough_82 : decode cX4_enough 82 = .ok (.iload_n 3, 1) := by decide +kernel
theorem dX4_enough_83 : decode cX4_enough 83 = .ok (.if_icmp .lt 7, 3) := by decide +kernel
theorem dX4_enough_86 : decode cX4_enough 86 = .ok (.iconst 1, 1) := by decide +kernel
theorem dX4_enough_87 : decode cX4_enough 87 = .ok (.goto 4, 3) := by decide +kernel
theorem dX4_enough_90 : decode cX4_enough 90 = .ok (.iconst 0, 1) := by decide +kernel
theorem dX4_enough_91 : decode cX4_enough 91 = .ok (.istore 5, 2) := by decide +kernel
theorem dX4_enough_93 : decode cX4_enough 93 = .ok (.goto (-42), 3) := by decide +kernel
theorem dX4_enough_96 : decode cX4_enough 96 = .ok (.iload 5, 2) := by decide +kernel
theorem dX4_enough_98 : decode cX4_enough 98 = .ok (.ifCond .eq 8, 3) := by decide +kernel
theorem dX4_enough_101 : decode cX4_enough 101 = .ok (.iload 4, 2) := by decide +kernel
theorem dX4_enough_103 : decode cX4_enough 103 = .ok (.goto 9, 3) := by decide +kernel
theorem dX4_enough_106 : decode cX4_enough 106 = .ok (.aload_n 0, 1) := by decide +kernel
theorem dX4_enough_107 : decode cX4_enough 107 = .ok (.ldc 158, 2) := by decide +kernel
theorem dX4_enough_109 : decode cX4_enough 109 = .ok (.invokevirtual 53, 3) := by decide +kernel
theorem dX4_enough_112 : decode cX4_enough 112 = .ok (.ireturn, 1) := by decide +kernel
theorem dX4_whom_0 : decode cX4_whom 0 = .ok (.iload_n 1, 1) := by decide +kernel
theorem dX4_whom_1 : decode cX4_whom 1 = .ok (.iconst 1, 1) := by decide +kernel
theorem dX4_whom_2 : decode cX4_whom 2 = .ok (.bipush 99, 2) := by decide +kernel
theorem dX4_whom_4 : decode cX4_whom 4 = .ok (.invokestatic 45, 3) := by decide +kernel
theorem dX4_whom_7 : decode cX4_whom 7 = .ok (.ifCond .eq 13, 3) := by decide +kernel
theorem dX4_whom_10 : decode cX4_whom 10 = .ok (.iload_n 2, 1) := by decide +kernel
theorem dX4_whom_11 : decode cX4_whom 11 = .ok (.iconst 0, 1) := by decide +kernel
theorem dX4_whom_12 : decode cX4_whom 12 = .ok (.bipush 100, 2) := by decide +kernel
theorem dX4_whom_14 : decode cX4_whom 14 = .ok (.invokestatic 45, 3) := by decide +kernel
theorem dX4_whom_17 : decode cX4_whom 17 = .ok (.ifCond .ne 10, 3) := by decide +kernel
theorem dX4_whom_20 : decode cX4_whom 20 = .ok (.aload_n 0, 1) := by decide +kernel
theorem dX4_whom_21 : decode cX4_whom 21 = .ok (.ldc 44, 2) := by decide +kernel
theorem dX4_whom_23 : decode cX4_whom 23 = .ok (.invokevirtual 53, 3) := by decide +kernel
theorem dX4_whom_26 : decode cX4_whom 26 = .ok (.ireturn, 1) := by decide +kernel
theorem dX4_whom_27 : decode cX4_whom 27 = .ok (.aload_n 0, 1) := by decide +kernel
theorem dX4_whom_28 : decode cX4_whom 28 = .ok (.iconst 1, 1) := by decide +kernel
theorem dX4_whom_29 : decode cX4_whom 29 = .ok (.aload_n 0, 1) := by decide +kernel
theorem dX4_whom_30 : decode cX4_whom 30 = .ok (.getfield 16, 3) := by decide +kernel
theorem dX4_whom_33 : decode cX4_whom 33 = .ok (.invokevirtual 151, 3) := by decide +kernel
theorem dX4_whom_36 : decode cX4_whom 36 = .ok (.iconst (-1), 1) := by decide +kernel
theorem dX4_whom_37 : decode cX4_whom 37 = .ok (.istore_n 3, 1) := by decide +kernel
theorem dX4_whom_38 : decode cX4_whom 38 = .ok (.iconst (-1), 1) := by decide +kernel
theorem dX4_whom_39 : decode cX4_whom 39 = .ok (.istore 4, 2) := by decide +kernel
theorem dX4_whom_41 : decode cX4_whom 41 = .ok (.iconst 0, 1) := by decide +kernel
theorem dX4_whom_42 : decode cX4_whom 42 = .ok (.istore 5, 2) := by decide +kernel
theorem dX4_whom_44 : decode cX4_whom 44 = .ok (.iload 5, 2) := by decide +kernel
theorem dX4_whom_46 : decode cX4_whom 46 = .ok (.aload_n 0, 1) := by decide +kernel
theorem dX4_whom_47 : decode cX4_whom 47 = .ok (.getfield 7, 3) := by decide +kernel
theorem dX4_whom_50 : decode cX4_whom 50 = .ok (.iconst 2, 1) := by decide +kernel
theorem dX4_whom_51 : decode cX4_whom 51 = .ok (.iaload, 1) := by decide +kernel
theorem dX4_whom_52 : decode cX4_whom 52 = .ok (.if_icmp .ge 58, 3) := by decide +kernel
theorem dX4_whom_55 : decode cX4_whom 55 = .ok (.aload_n 0, 1) := by decide +kernel
theorem dX4_whom_56 : decode cX4_whom 56 = .ok (.iload 5, 2) := by decide +kernel
theorem dX4_whom_58 : decode cX4_whom 58 = .ok (.iload_n 1, 1) := by decide +kernel
theorem dX4_whom_59 : decode cX4_whom 59 = .ok (.invokevirtual 119, 3) := by decide +kernel
theorem dX4_whom_62 : decode cX4_whom 62 = .ok (.aload_n 0, 1) := by decide +kernel
theorem dX4_whom_63 : decode cX4_whom 63 = .ok (.iload_n 2, 1) := by decide +kernel
theorem dX4_whom_64 : decode cX4_whom 64 = .ok (.iload 5, 2) := by decide +kernel
theorem dX4_whom_66 : decode cX4_whom 66 = .ok (.invokestatic 159, 3) := by decide +kernel
theorem dX4_whom_69 : decode cX4_whom 69 = .ok (.invokevirtual 155, 3) := by decide +kernel
theorem dX4_whom_72 : decode cX4_whom 72 = .ok (.istore 6, 2) := by decide +kernel
theorem dX4_whom_74 : decode cX4_whom 74 = .ok (.iload 6, 2) := by decide +kernel
theorem dX4_whom_76 : decode cX4_whom 76 = .ok (.iload 4, 2) := by decide +kernel
theorem dX4_whom_78 : decode cX4_whom 78 = .ok (.if_icmp .le 8, 3) := by decide +kernel
theorem dX4_whom_81 : decode cX4_whom 81 = .ok (.iload 5, 2) := by decide +kernel
theorem dX4_whom_83 : decode cX4_whom 83 = .ok (.goto 4, 3) := by decide +kernel
theorem dX4_whom_86 : decode cX4_whom 86 = .ok (.iload_n 3, 1) := by decide +kernel
theorem dX4_whom_87 : decode cX4_whom 87 = .ok (.istore_n 3, 1) := by decide +kernel
theorem dX4_whom_88 : decode cX4_whom 88 = .ok (.iload 6, 2) := by decide +kernel
theorem dX4_whom_90 : decode cX4_whom 90 = .ok (.iload 4, 2) := by decide +kernel
theorem dX4_whom_92 : decode cX4_whom 92 = .ok (.if_icmp .le 8, 3) := by decide +kernel
theorem dX4_whom_95 : decode cX4_whom 95 = .ok (.iload 6, 2) := by decide +kernel
theorem dX4_whom_97 : decode cX4_whom 97 = .ok (.goto 5, 3) := by decide +kernel
theorem dX4_whom_100 : decode cX4_whom 100 = .ok (.iload 4, 2) := by decide +kernel
theorem dX4_whom_102 : decode cX4_whom 102 = .ok (.istore 4, 2) := by decide +kernel
theorem dX4_whom_104 : decode cX4_whom 104 = .ok (.iinc 5 1, 3) := by decide +kernel
theorem dX4_whom_107 : decode cX4_whom 107 = .ok (.goto (-63), 3) := by decide +kernel
theorem dX4_whom_110 : decode cX4_whom 110 = .ok (.iload_n 3, 1) := by decide +kernel
theorem dX4_whom_111 : decode cX4_whom 111 = .ok (.ifCond .ge 12, 3) := by decide +kernel
theorem dX4_whom_114 : decode cX4_whom 114 = .ok (.aload_n 0, 1) := by decide +kernel
theorem dX4_whom_115 : decode cX4_whom 115 = .ok (.ldc 158, 2) := by decide +kernel
theorem dX4_whom_117 : decode cX4_whom 117 = .ok (.invokevirtual 53, 3) := by decide +kernel
theorem dX4_whom_120 : decode cX4_whom 120 = .ok (.goto 4, 3) := by decide +kernel
theorem dX4_whom_123 : decode cX4_whom 123 = .ok (.iload_n 3, 1) := by decide +kernel
theorem dX4_whom_124 : decode cX4_whom 124 = .ok (.ireturn, 1) := by decide +kernel
theorem dX4_debtor_0 : decode cX4_debtor 0 = .ok (.iload_n 1, 1) := by decide +kernel
theorem dX4_debtor_1 : decode cX4_debtor 1 = .ok (.iconst 0, 1) := by decide +kernel
theorem dX4_debtor_2 : decode cX4_debtor 2 = .ok (.sipush 400, 3) := by decide +kernel
theorem dX4_debtor_5 : decode cX4_debtor 5 = .ok (.invokestatic 45, 3) := by decide +kernel
theorem dX4_debtor_8 : decode cX4_debtor 8 = .ok (.ifCond .ne 10, 3) := by decide +kernel
theorem dX4_debtor_11 : decode cX4_debtor 11 = .ok (.aload_n 0, 1) := by decide +kernel
theorem dX4_debtor_12 : decode cX4_debtor 12 = .ok (.ldc 44, 2) := by decide +kernel
theorem dX4_debtor_14 : decode cX4_debtor 14 = .ok (.invokevirtual 53, 3) := by decide +kernel
theorem dX4_debtor_17 : decode cX4_debtor 17 = .ok (.ireturn, 1) := by decide +kernel
theorem dX4_debtor_18 : decode cX4_debtor 18 = .ok (.aload_n 0, 1) := by decide +kernel
theorem dX4_debtor_19 : decode cX4_debtor 19 = .ok (.iconst 1, 1) := by decide +kernel
theorem dX4_debtor_20 : decode cX4_debtor 20 = .ok (.aload_n 0, 1) := by decide +kernel
theorem dX4_debtor_21 : decode cX4_debtor 21 = .ok (.getfield 16, 3) := by decide +kernel
theorem dX4_debtor_24 : decode cX4_debtor 24 = .ok (.invokevirtual 151, 3) := by decide +kernel
theorem dX4_debtor_27 : decode cX4_debtor 27 = .ok (.aload_n 0, 1) := by decide +kernel
theorem dX4_debtor_28 : decode cX4_debtor 28 = .ok (.iload_n 1, 1) := by decide +kernel
theorem dX4_debtor_29 : decode cX4_debtor 29 = .ok (.invokevirtual 148, 3) := by decide +kernel
theorem dX4_debtor_32 : decode cX4_debtor 32 = .ok (.aload_n 0, 1) := by decide +kernel
theorem dX4_debtor_33 : decode cX4_debtor 33 = .ok (.iconst 3, 1) := by decide +kernel
theorem dX4_debtor_34 : decode cX4_debtor 34 = .ok (.invokevirtual 60, 3) := by decide +kernel
theorem dX4_debtor_37 : decode cX4_debtor 37 = .ok (.istore_n 2, 1) := by decide +kernel
theorem dX4_debtor_38 : decode cX4_debtor 38 = .ok (.aload_n 0, 1) := by decide +kernel
theorem dX4_debtor_39 : decode cX4_debtor 39 = .ok (.iconst 0, 1) := by decide +kernel
theorem dX4_debtor_40 : decode cX4_debtor 40 = .ok (.aload_n 0, 1) := by decide +kernel
theorem dX4_debtor_41 : decode cX4_debtor 41 = .ok (.getfield 16, 3) := by decide +kernel
theorem dX4_debtor_44 : decode cX4_debtor 44 = .ok (.invokevirtual 151, 3) := by decide +kernel
theorem dX4_debtor_47 : decode cX4_debtor 47 = .ok (.iload_n 2, 1) := by decide +kernel
theorem dX4_debtor_48 : decode cX4_debtor 48 = .ok (.ifCond .ge 12, 3) := by decide +kernel
theorem dX4_debtor_51 : decode cX4_debtor 51 = .ok (.aload_n 0, 1) := by decide +kernel
theorem dX4_debtor_52 : decode cX4_debtor 52 = .ok (.ldc 158, 2) := by decide +kernel
theorem dX4_debtor_54 : decode cX4_debtor 54 = .ok (.invokevirtual 53, 3) := by decide +kernel
theorem dX4_debtor_57 : decode cX4_debtor 57 = .ok (.goto 4, 3) := by decide +kernel
theorem dX4_debtor_60 : decode cX4_debtor 60 = .ok (.iload_n 2, 1) := by decide +kernel
theorem dX4_debtor_61 : decode cX4_debtor 61 = .ok (.ireturn, 1) := by decide +kernel
theorem dX4_feed_0 : decode cX4_feed 0 = .ok (.iload_n 2, 1) := by decide +kernel
theorem dX4_feed_1 : decode cX4_feed 1 = .ok (.iconst 1, 1) := by decide +kernel
theorem dX4_feed_2 : decode cX4_feed 2 = .ok (.iconst 4, 1) := by decide +kernel
theorem dX4_feed_3 : decode cX4_feed 3 = .ok (.invokestatic 45, 3) := by decide +kernel
theorem dX4_feed_6 : decode cX4_feed 6 = .ok (.ifCond .ne 10, 3) := by decide +kernel
theorem dX4_feed_9 : decode cX4_feed 9 = .ok (.aload_n 0, 1) := by decide +kernel
theorem dX4_feed_10 : decode cX4_feed 10 = .ok (.ldc 44, 2) := by decide +kernel
theorem dX4_feed_12 : decode cX4_feed 12 = .ok (.invokevirtual 53, 3) := by decide +kernel
theorem dX4_feed_15 : decode cX4_feed 15 = .ok (.ireturn, 1) := by decide +kernel
theorem dX4_feed_16 : decode cX4_feed 16 = .ok (.aload_n 0, 1) := by decide +kernel
theorem dX4_feed_17 : decode cX4_feed 17 = .ok (.getfield 162, 3) := by decide +kernel
theorem dX4_feed_20 : decode cX4_feed 20 = .ok (.iload_n 2, 1) := by decide +kernel
theorem dX4_feed_21 : decode cX4_feed 21 = .ok (.iadd, 1) := by decide +kernel
theorem dX4_feed_22 : decode cX4_feed 22 = .ok (.bipush 120, 2) := by decide +kernel
theorem dX4_feed_24 : decode cX4_feed 24 = .ok (.if_icmp .le 10, 3) := by decide +kernel
theorem dX4_feed_27 : decode cX4_feed 27 = .ok (.aload_n 0, 1) := by decide +kernel
theorem dX4_feed_28 : decode cX4_feed 28 = .ok (.ldc 94, 2) := by decide +kernel
theorem dX4_feed_30 : decode cX4_feed 30 = .ok (.invokevirtual 53, 3) := by decide +kernel
theorem dX4_feed_33 : decode cX4_feed 33 = .ok (.ireturn, 1) := by decide +kernel
theorem dX4_feed_34 : decode cX4_feed 34 = .ok (.iload_n 2, 1) := by decide +kernel
theorem dX4_feed_35 : decode cX4_feed 35 = .ok (.iconst 1, 1) := by decide +kernel
theorem dX4_feed_36 : decode cX4_feed 36 = .ok (.isub, 1) := by decide +kernel
theorem dX4_feed_37 : decode cX4_feed 37 = .ok (.istore_n 3, 1) := by decide +kernel
theorem dX4_feed_38 : decode cX4_feed 38 = .ok (.iload_n 3, 1) := by decide +kernel
theorem dX4_feed_39 : decode cX4_feed 39 = .ok (.ifCond .lt 38, 3) := by decide +kernel
theorem dX4_feed_42 : decode cX4_feed 42 = .ok (.aload_n 0, 1) := by decide +kernel
theorem dX4_feed_43 : decode cX4_feed 43 = .ok (.getfield 22, 3) := by decide +kernel
theorem dX4_feed_46 : decode cX4_feed 46 = .ok (.aload_n 0, 1) := by decide +kernel
theorem dX4_feed_47 : decode cX4_feed 47 = .ok (.getfield 162, 3) := by decide +kernel
theorem dX4_feed_50 : decode cX4_feed 50 = .ok (.iload_n 1, 1) := by decide +kernel
theorem dX4_feed_51 : decode cX4_feed 51 = .ok (.bipush 8, 2) := by decide +kernel
theorem dX4_feed_53 : decode cX4_feed 53 = .ok (.iload_n 3, 1) := by decide +kernel
theorem dX4_feed_54 : decode cX4_feed 54 = .ok (.imul, 1) := by decide +kernel
theorem dX4_feed_55 : decode cX4_feed 55 = .ok (.ishr, 1) := by decide +kernel
theorem dX4_feed_56 : decode cX4_feed 56 = .ok (.sipush 255, 3) := by decide +kernel
theorem dX4_feed_59 : decode cX4_feed 59 = .ok (.iand, 1) := by decide +kernel
theorem dX4_feed_60 : decode cX4_feed 60 = .ok (.iastore, 1) := by decide +kernel
theorem dX4_feed_61 : decode cX4_feed 61 = .ok (.aload_n 0, 1) := by decide +kernel
theorem dX4_feed_62 : decode cX4_feed 62 = .ok (.dup, 1) := by decide +kernel
theorem dX4_feed_63 : decode cX4_feed 63 = .ok (.getfield 162, 3) := by decide +kernel
theorem dX4_feed_66 : decode cX4_feed 66 = .ok (.iconst 1, 1) := by decide +kernel
theorem dX4_feed_67 : decode cX4_feed 67 = .ok (.iadd, 1) := by decide +kernel
theorem dX4_feed_68 : decode cX4_feed 68 = .ok (.putfield 162, 3) := by decide +kernel
theorem dX4_feed_71 : decode cX4_feed 71 = .ok (.iinc 3 (-1), 3) := by decide +kernel
theorem dX4_feed_74 : decode cX4_feed 74 = .ok (.goto (-36), 3) := by decide +kernel
theorem dX4_feed_77 : decode cX4_feed 77 = .ok (.aload_n 0, 1) := by decide +kernel
theorem dX4_feed_78 : decode cX4_feed 78 = .ok (.getfield 162, 3) := by decide +kernel
theorem dX4_feed_81 : decode cX4_feed 81 = .ok (.ireturn, 1) := by decide +kernel
theorem dX4_wipe_0 : decode cX4_wipe 0 = .ok (.aload_n 0, 1) := by decide +kernel
theorem dX4_wipe_1 : decode cX4_wipe 1 = .ok (.getfield 162, 3) := by decide +kernel
theorem dX4_wipe_4 : decode cX4_wipe 4 = .ok (.istore_n 1, 1) := by decide +kernel
theorem dX4_wipe_5 : decode cX4_wipe 5 = .ok (.aload_n 0, 1) := by decide +kernel
theorem dX4_wipe_6 : decode cX4_wipe 6 = .ok (.iconst 0, 1) := by decide +kernel
theorem dX4_wipe_7 : decode cX4_wipe 7 = .ok (.putfield 162, 3) := by decide +kernel
theorem dX4_wipe_10 : decode cX4_wipe 10 = .ok (.iload_n 1, 1) := by decide +kernel
theorem dX4_wipe_11 : decode cX4_wipe 11 = .ok (.ireturn, 1) := by decide +kernel
theorem dX4_byteAt_0 : decode cX4_byteAt 0 = .ok (.iload_n 1, 1) := by decide +kernel
theorem dX4_byteAt_1 : decode cX4_byteAt 1 = .ok (.aload_n 0, 1) := by decide +kernel
theorem dX4_byteAt_2 : decode cX4_byteAt 2 = .ok (.getfield 162, 3) := by decide +kernel
theorem dX4_byteAt_5 : decode cX4_byteAt 5 = .ok (.if_icmp .ge 12, 3) := by decide +kernel
theorem dX4_byteAt_8 : decode cX4_byteAt 8 = .ok (.aload_n 0, 1) := by decide +kernel
theorem dX4_byteAt_9 : decode cX4_byteAt 9 = .ok (.getfield 22, 3) := by decide +kernel
theorem dX4_byteAt_12 : decode cX4_byteAt 12 = .ok (.iload_n 1, 1) := by decide +kernel
theorem dX4_byteAt_13 : decode cX4_byteAt 13 = .ok (.iaload, 1) := by decide +kernel
theorem dX4_byteAt_14 : decode cX4_byteAt 14 = .ok (.goto 4, 3) := by decide +kernel
theorem dX4_byteAt_17 : decode cX4_byteAt 17 = .ok (.iconst (-1), 1) := by decide +kernel
theorem dX4_byteAt_18 : decode cX4_byteAt 18 = .ok (.ireturn, 1) := by decide +kernel
theorem dX4_isLetter_0 : decode cX4_isLetter 0 = .ok (.iload_n 0, 1) := by decide +kernel
theorem dX4_isLetter_1 : decode cX4_isLetter 1 = .ok (.bipush 97, 2) := by decide +kernel
theorem dX4_isLetter_3 : decode cX4_isLetter 3 = .ok (.bipush 122, 2) := by decide +kernel
theorem dX4_isLetter_5 : decode cX4_isLetter 5 = .ok (.invokestatic 45, 3) := by decide +kernel
theorem dX4_isLetter_8 : decode cX4_isLetter 8 = .ok (.ireturn, 1) := by decide +kernel
theorem dX4_isDigit_0 : decode cX4_isDigit 0 = .ok (.iload_n 0, 1) := by decide +kernel
theorem dX4_isDigit_1 : decode cX4_isDigit 1 = .ok (.bipush 48, 2) := by decide +kernel
theorem dX4_isDigit_3 : decode cX4_isDigit 3 = .ok (.bipush 57, 2) := by decide +kernel
theorem dX4_isDigit_5 : decode cX4_isDigit 5 = .ok (.invokestatic 45, 3) := by decide +kernel
theorem dX4_isDigit_8 : decode cX4_isDigit 8 = .ok (.ireturn, 1) := by decide +kernel
theorem dX4_advance_0 : decode cX4_advance 0 = .ok (.aload_n 0, 1) := by decide +kernel
theorem dX4_advance_1 : decode cX4_advance 1 = .ok (.aload_n 0, 1) := by decide +kernel
theorem dX4_advance_2 : decode cX4_advance 2 = .ok (.getfield 166, 3) := by decide +kernel
theorem dX4_advance_5 : decode cX4_advance 5 = .ok (.putfield 169, 3) := by decide +kernel
theorem dX4_advance_8 : decode cX4_advance 8 = .ok (.aload_n 0, 1) := by decide +kernel
theorem dX4_advance_9 : decode cX4_advance 9 = .ok (.aload_n 0, 1) := by decide +kernel
theorem dX4_advance_10 : decode cX4_advance 10 = .ok (.getfield 169, 3) := by decide +kernel
theorem dX4_advance_13 : decode cX4_advance 13 = .ok (.invokevirtual 172, 3) := by decide +kernel
theorem dX4_advance_16 : decode cX4_advance 16 = .ok (.bipush 32, 2) := by decide +kernel
theorem dX4_advance_18 : decode cX4_advance 18 = .ok (.if_icmp .ne 16, 3) := by decide +kernel
theorem dX4_advance_21 : decode cX4_advance 21 = .ok (.aload_n 0, 1) := by decide +kernel
theorem dX4_advance_22 : decode cX4_advance 22 = .ok (.dup, 1) := by decide +kernel
theorem dX4_advance_23 : decode cX4_advance 23 = .ok (.getfield 169, 3) := by decide +kernel
theorem dX4_advance_26 : decode cX4_advance 26 = .ok (.iconst 1, 1) := by decide +kernel
theorem dX4_advance_27 : decode cX4_advance 27 = .ok (.iadd, 1) := by decide +kernel
theorem dX4_advance_28 : decode cX4_advance 28 = .ok (.putfield 169, 3) := by decide +kernel
theorem dX4_advance_31 : decode cX4_advance 31 = .ok (.goto (-23), 3) := by decide +kernel
theorem dX4_advance_34 : decode cX4_advance 34 = .ok (.aload_n 0, 1) := by decide +kernel
theorem dX4_advance_35 : decode cX4_advance 35 = .ok (.aload_n 0, 1) := by decide +kernel
theorem dX4_advance_36 : decode cX4_advance 36 = .ok (.getfield 169, 3) := by decide +kernel
theorem dX4_advance_39 : decode cX4_advance 39 = .ok (.putfield 166, 3) := by decide +kernel
theorem dX4_advance_42 : decode cX4_advance 42 = .ok (.aload_n 0, 1) := by decide +kernel
theorem dX4_advance_43 : decode cX4_advance 43 = .ok (.aload_n 0, 1) := by decide +kernel
theorem dX4_advance_44 : decode cX4_advance 44 = .ok (.getfield 169, 3) := by decide +kernel
theorem dX4_advance_47 : decode cX4_advance 47 = .ok (.invokevirtual 172, 3) := by decide +kernel
theorem dX4_advance_50 : decode cX4_advance 50 = .ok (.istore_n 1, 1) := by decide +kernel
theorem dX4_advance_51 : decode cX4_advance 51 = .ok (.aload_n 0, 1) := by decide +kernel
theorem dX4_advance_52 : decode cX4_advance 52 = .ok (.iload_n 1, 1) := by decide +kernel
theorem dX4_advance_53 : decode cX4_advance 53 = .ok (.ifCond .ge 7, 3) := by decide +kernel
theorem dX4_advance_56 : decode cX4_advance 56 = .ok (.iconst 0, 1) := by decide +kernel
theorem dX4_advance_57 : decode cX4_advance 57 = .ok (.goto 26, 3) := by decide +kernel
theorem dX4_advance_60 : decode cX4_advance 60 = .ok (.iload_n 1, 1) := by decide +kernel
theorem dX4_advance_61 : decode cX4_advance 61 = .ok (.invokestatic 175, 3) := by decide +kernel
theorem dX4_advance_64 : decode cX4_advance 64 = .ok (.ifCond .eq 7, 3) := by decide +kernel
theorem dX4_advance_67 : decode cX4_advance 67 = .ok (.iconst 1, 1) := by decide +kernel
theorem dX4_advance_68 : decode cX4_advance 68 = .ok (.goto 15, 3) := by decide +kernel
theorem dX4_advance_71 : decode cX4_advance 71 = .ok (.iload_n 1, 1) := by decide +kernel
theorem dX4_advance_72 : decode cX4_advance 72 = .ok (.invokestatic 178, 3) := by decide +kernel
theorem dX4_advance_75 : decode cX4_advance 75 = .ok (.ifCond .eq 7, 3) := by decide +kernel
theorem dX4_advance_78 : decode cX4_advance 78 = .ok (.iconst 2, 1) := by decide +kernel
theorem dX4_advance_79 : decode cX4_advance 79 = .ok (.goto 4, 3) := by decide +kernel
theorem dX4_advance_82 : decode cX4_advance 82 = .ok (.iconst 3, 1) := by decide +kernel
theorem dX4_advance_83 : decode cX4_advance 83 = .ok (.putfield 181, 3) := by decide +kernel
theorem dX4_advance_86 : decode cX4_advance 86 = .ok (.aload_n 0, 1) := by decide +kernel
theorem dX4_advance_87 : decode cX4_advance 87 = .ok (.lconst 0, 1) := by decide +kernel
theorem dX4_advance_88 : decode cX4_advance 88 = .ok (.putfield 184, 3) := by decide +kernel
theorem dX4_advance_91 : decode cX4_advance 91 = .ok (.aload_n 0, 1) := by decide +kernel
theorem dX4_advance_92 : decode cX4_advance 92 = .ok (.aload_n 0, 1) := by decide +kernel
theorem dX4_advance_93 : decode cX4_advance 93 = .ok (.getfield 181, 3) := by decide +kernel
theorem dX4_advance_96 : decode cX4_advance 96 = .ok (.iconst 2, 1) := by decide +kernel
theorem dX4_advance_97 : decode cX4_advance 97 = .ok (.if_icmp .ne 7, 3) := by decide +kernel
theorem dX4_advance_100 : decode cX4_advance 100 = .ok (.iconst 0, 1) := by decide +kernel
theorem dX4_advance_101 : decode cX4_advance 101 = .ok (.goto 4, 3) := by decide +kernel
theorem dX4_advance_104 : decode cX4_advance 104 = .ok (.iload_n 1, 1) := by decide +kernel
theorem dX4_advance_105 : decode cX4_advance 105 = .ok (.putfield 188, 3) := by decide +kernel
theorem dX4_advance_108 : decode cX4_advance 108 = .ok (.aload_n 0, 1) := by decide +kernel
theorem dX4_advance_109 : decode cX4_advance 109 = .ok (.getfield 181, 3) := by decide +kernel
theorem dX4_advance_112 : decode cX4_advance 112 = .ok (.iconst 3, 1) := by decide +kernel
theorem dX4_advance_113 : decode cX4_advance 113 = .ok (.if_icmp .ne 13, 3) := by decide +kernel
theorem dX4_advance_116 : decode cX4_advance 116 = .ok (.aload_n 0, 1) := by decide +kernel
theorem dX4_advance_117 : decode cX4_advance 117 = .ok (.dup, 1) := by decide +kernel
theorem dX4_advance_118 : decode cX4_advance 118 = .ok (.getfield 166, 3) := by decide +kernel
theorem dX4_advance_121 : decode cX4_advance 121 = .ok (.iconst 1, 1) := by decide +kernel
theorem dX4_advance_122 : decode cX4_advance 122 = .ok (.iadd, 1) := by decide +kernel
theorem dX4_advance_123 : decode cX4_advance 123 = .ok (.putfield 166, 3) := by decide +kernel
theorem dX4_advance_126 : decode cX4_advance 126 = .ok (.aload_n 0, 1) := by decide +kernel
theorem dX4_advance_127 : decode cX4_advance 127 = .ok (.getfield 181, 3) := by decide +kernel
theorem dX4_advance_130 : decode cX4_advance 130 = .ok (.iconst 1, 1) := by decide +kernel
theorem dX4_advance_131 : decode cX4_advance 131 = .ok (.if_icmp .ne 76, 3) := by decide +kernel
theorem dX4_advance_134 : decode cX4_advance 134 = .ok (.aload_n 0, 1) := by decide +kernel
theorem dX4_advance_135 : decode cX4_advance 135 = .ok (.aload_n 0, 1) := by decide +kernel
theorem dX4_advance_136 : decode cX4_advance 136 = .ok (.getfield 166, 3) := by decide +kernel
theorem dX4_advance_139 : decode cX4_advance 139 = .ok (.invokevirtual 172, 3) := by decide +kernel
theorem dX4_advance_142 : decode cX4_advance 142 = .ok (.invokestatic 175, 3) := by decide +kernel
theorem dX4_advance_145 : decode cX4_advance 145 = .ok (.ifCond .eq 62, 3) := by decide +kernel
theorem dX4_advance_148 : decode cX4_advance 148 = .ok (.aload_n 0, 1) := by decide +kernel
theorem dX4_advance_149 : decode cX4_advance 149 = .ok (.aload_n 0, 1) := by decide +kernel
theorem dX4_advance_150 : decode cX4_advance 150 = .ok (.getfield 166, 3) := by decide +kernel
theorem dX4_advance_153 : decode cX4_advance 153 = .ok (.aload_n 0, 1) := by decide +kernel
theorem dX4_advance_154 : decode cX4_advance 154 = .ok (.getfield 169, 3) := by decide +kernel
theorem dX4_advance_157 : decode cX4_advance 157 = .ok (.isub, 1) := by decide +kernel
theorem dX4_advance_158 : decode cX4_advance 158 = .ok (.bipush 12, 2) := by decide +kernel
theorem dX4_advance_160 : decode cX4_advance 160 = .ok (.if_icmp .ge 28, 3) := by decide +kernel
theorem dX4_advance_163 : decode cX4_advance 163 = .ok (.ldc2_w 191, 3) := by decide +kernel
theorem dX4_advance_166 : decode cX4_advance 166 = .ok (.aload_n 0, 1) := by decide +kernel
theorem dX4_advance_167 : decode cX4_advance 167 = .ok (.getfield 184, 3) := by decide +kernel
theorem dX4_advance_170 : decode cX4_advance 170 = .ok (.lmul, 1) := by decide +kernel
theorem dX4_advance_171 : decode cX4_advance 171 = .ok (.aload_n 0, 1) := by decide +kernel
theorem dX4_advance_172 : decode cX4_advance 172 = .ok (.aload_n 0, 1) := by decide +kernel
theorem dX4_advance_173 : decode cX4_advance 173 = .ok (.getfield 166, 3) := by decide +kernel
theorem dX4_advance_176 : decode cX4_advance 176 = .ok (.invokevirtual 172, 3) := by decide +kernel
theorem dX4_advance_179 : decode cX4_advance 179 = .ok (.i2l, 1) := by decide +kernel
theorem dX4_advance_180 : decode cX4_advance 180 = .ok (.ladd, 1) := by decide +kernel
theorem dX4_advance_181 : decode cX4_advance 181 = .ok (.ldc2_w 193, 3) := by decide +kernel
theorem dX4_advance_184 : decode cX4_advance 184 = .ok (.lsub, 1) := by decide +kernel
theorem dX4_advance_185 : decode cX4_advance 185 = .ok (.goto 6, 3) := by decide +kernel
theorem dX4_advance_188 : decode cX4_advance 188 = .ok (.ldc2_w 195, 3) := by decide +kernel
theorem dX4_advance_191 : decode cX4_advance 191 = .ok (.putfield 184, 3) := by decide +kernel
theorem dX4_advance_194 : decode cX4_advance 194 = .ok (.aload_n 0, 1) := by decide +kernel
theorem dX4_advance_195 : decode cX4_advance 195 = .ok (.dup, 1) := by decide +kernel
theorem dX4_advance_196 : decode cX4_advance 196 = .ok (.getfield 166, 3) := by decide +kernel
theorem dX4_advance_199 : decode cX4_advance 199 = .ok (.iconst 1, 1) := by decide +kernel
theorem dX4_advance_200 : decode cX4_advance 200 = .ok (.iadd, 1) := by decide +kernel
theorem dX4_advance_201 : decode cX4_advance 201 = .ok (.putfield 166, 3) := by decide +kernel
theorem dX4_advance_204 : decode cX4_advance 204 = .ok (.goto (-78), 3) := by decide +kernel
theorem dX4_advance_207 : decode cX4_advance 207 = .ok (.aload_n 0, 1) := by decide +kernel
theorem dX4_advance_208 : decode cX4_advance 208 = .ok (.getfield 181, 3) := by decide +kernel
theorem dX4_advance_211 : decode cX4_advance 211 = .ok (.iconst 2, 1) := by decide +kernel
theorem dX4_advance_212 : decode cX4_advance 212 = .ok (.if_icmp .ne 69, 3) := by decide +kernel
theorem dX4_advance_215 : decode cX4_advance 215 = .ok (.aload_n 0, 1) := by decide +kernel
theorem dX4_advance_216 : decode cX4_advance 216 = .ok (.aload_n 0, 1) := by decide +kernel
theorem dX4_advance_217 : decode cX4_advance 217 = .ok (.getfield 166, 3) := by decide +kernel
theorem dX4_advance_220 : decode cX4_advance 220 = .ok (.invokevirtual 172, 3) := by decide +kernel
theorem dX4_advance_223 : decode cX4_advance 223 = .ok (.invokestatic 178, 3) := by decide +kernel
theorem dX4_advance_226 : decode cX4_advance 226 = .ok (.ifCond .eq 55, 3) := by decide +kernel
theorem dX4_advance_229 : decode cX4_advance 229 = .ok (.aload_n 0, 1) := by decide +kernel
theorem dX4_advance_230 : decode cX4_advance 230 = .ok (.aload_n 0, 1) := by decide +kernel
theorem dX4_advance_231 : decode cX4_advance 231 = .ok (.getfield 188, 3) := by decide +kernel
theorem dX4_advance_234 : decode cX4_advance 234 = .ok (.sipush 999, 3) := by decide +kernel
theorem dX4_advance_237 : decode cX4_advance 237 = .ok (.if_icmp .le 9, 3) := by decide +kernel
theorem dX4_advance_240 : decode cX4_advance 240 = .ok (.sipush 10000, 3) := by decide +kernel
theorem dX4_advance_243 : decode cX4_advance 243 = .ok (.goto 22, 3) := by decide +kernel
theorem dX4_advance_246 : decode cX4_advance 246 = .ok (.bipush 10, 2) := by decide +kernel
theorem dX4_advance_248 : decode cX4_advance 248 = .ok (.aload_n 0, 1) := by decide +kernel
theorem dX4_advance_249 : decode cX4_advance 249 = .ok (.getfield 188, 3) := by decide +kernel
theorem dX4_advance_252 : decode cX4_advance 252 = .ok (.imul, 1) := by decide +kernel
theorem dX4_advance_253 : decode cX4_advance 253 = .ok (.aload_n 0, 1) := by decide +kernel
theorem dX4_advance_254 : decode cX4_advance 254 = .ok (.aload_n 0, 1) := by decide +kernel
theorem dX4_advance_255 : decode cX4_advance 255 = .ok (.getfield 166, 3) := by decide +kernel
theorem dX4_advance_258 : decode cX4_advance 258 = .ok (.invokevirtual 172, 3) := by decide +kernel
theorem dX4_advance_261 : decode cX4_advance 261 = .ok (.iadd, 1) := by decide +kernel
theorem dX4_advance_262 : decode cX4_advance 262 = .ok (.bipush 48, 2) := by decide +kernel
theorem dX4_advance_264 : decode cX4_advance 264 = .ok (.isub, 1) := by decide +kernel
theorem dX4_advance_265 : decode cX4_advance 265 = .ok (.putfield 188, 3) := by decide +kernel
theorem dX4_advance_268 : decode cX4_advance 268 = .ok (.aload_n 0, 1) := by decide +kernel
theorem dX4_advance_269 : decode cX4_advance 269 = .ok (.dup, 1) := by decide +kernel
theorem dX4_advance_270 : decode cX4_advance 270 = .ok (.getfield 166, 3) := by decide +kernel
theorem dX4_advance_273 : decode cX4_advance 273 = .ok (.iconst 1, 1) := by decide +kernel
theorem dX4_advance_274 : decode cX4_advance 274 = .ok (.iadd, 1) := by decide +kernel
theorem dX4_advance_275 : decode cX4_advance 275 = .ok (.putfield 166, 3) := by decide +kernel
theorem dX4_advance_278 : decode cX4_advance 278 = .ok (.goto (-71), 3) := by decide +kernel
theorem dX4_advance_281 : decode cX4_advance 281 = .ok (.return_, 1) := by decide +kernel
theorem dX4_isWord_0 : decode cX4_isWord 0 = .ok (.aload_n 0, 1) := by decide +kernel
theorem dX4_isWord_1 : decode cX4_isWord 1 = .ok (.getfield 181, 3) := by decide +kernel
theorem dX4_isWord_4 : decode cX4_isWord 4 = .ok (.iconst 1, 1) := by decide +kernel
theorem dX4_isWord_5 : decode cX4_isWord 5 = .ok (.if_icmp .ne 16, 3) := by decide +kernel
theorem dX4_isWord_8 : decode cX4_isWord 8 = .ok (.aload_n 0, 1) := by decide +kernel
theorem dX4_isWord_9 : decode cX4_isWord 9 = .ok (.getfield 184, 3) := by decide +kernel
theorem dX4_isWord_12 : decode cX4_isWord 12 = .ok (.lload_n 1, 1) := by decide +kernel
theorem dX4_isWord_13 : decode cX4_isWord 13 = .ok (.lcmp, 1) := by decide +kernel
theorem dX4_isWord_14 : decode cX4_isWord 14 = .ok (.ifCond .ne 7, 3) := by decide +kernel
theorem dX4_isWord_17 : decode cX4_isWord 17 = .ok (.iconst 1, 1) := by decide +kernel
theorem dX4_isWord_18 : decode cX4_isWord 18 = .ok (.goto 4, 3) := by decide +kernel
theorem dX4_isWord_21 : decode cX4_isWord 21 = .ok (.iconst 0, 1) := by decide +kernel
theorem dX4_isWord_22 : decode cX4_isWord 22 = .ok (.ireturn, 1) := by decide +kernel
theorem dX4_kindHere_0 : decode cX4_kindHere 0 = .ok (.aload_n 0, 1) := by decide +kernel
theorem dX4_kindHere_1 : decode cX4_kindHere 1 = .ok (.ldc2_w 197, 3) := by decide +kernel
theorem dX4_kindHere_4 : decode cX4_kindHere 4 = .ok (.invokevirtual 199, 3) := by decide +kernel
theorem dX4_kindHere_7 : decode cX4_kindHere 7 = .ok (.ifCond .eq 7, 3) := by decide +kernel
theorem dX4_kindHere_10 : decode cX4_kindHere 10 = .ok (.iconst 0, 1) := by decide +kernel
theorem dX4_kindHere_11 : decode cX4_kindHere 11 = .ok (.goto 74, 3) := by decide +kernel
theorem dX4_kindHere_14 : decode cX4_kindHere 14 = .ok (.aload_n 0, 1) := by decide +kernel
theorem dX4_kindHere_15 : decode cX4_kindHere 15 = .ok (.ldc2_w 203, 3) := by decide +kernel
theorem dX4_kindHere_18 : decode cX4_kindHere 18 = .ok (.invokevirtual 199, 3) := by decide +kernel
theorem dX4_kindHere_21 : decode cX4_kindHere 21 = .ok (.ifCond .eq 7, 3) := by decide +kernel
theorem dX4_kindHere_24 : decode cX4_kindHere 24 = .ok (.iconst 1, 1) := by decide +kernel
theorem dX4_kindHere_25 : decode cX4_kindHere 25 = .ok (.goto 60, 3) := by decide +kernel
theorem dX4_kindHere_28 : decode cX4_kindHere 28 = .ok (.aload_n 0, 1) := by decide +kernel
theorem dX4_kindHere_29 : decode cX4_kindHere 29 = .ok (.ldc2_w 205, 3) := by decide +kernel
theorem dX4_kindHere_32 : decode cX4_kindHere 32 = .ok (.invokevirtual 199, 3) := by decide +kernel
theorem dX4_kindHere_35 : decode cX4_kindHere 35 = .ok (.ifCond .eq 7, 3) := by decide +kernel
theorem dX4_kindHere_38 : decode cX4_kindHere 38 = .ok (.iconst 2, 1) := by decide +kernel
theorem dX4_kindHere_39 : decode cX4_kindHere 39 = .ok (.goto 46, 3) := by decide +kernel
theorem dX4_kindHere_42 : decode cX4_kindHere 42 = .ok (.aload_n 0, 1) := by decide +kernel
theorem dX4_kindHere_43 : decode cX4_kindHere 43 = .ok (.ldc2_w 207, 3) := by decide +kernel
theorem dX4_kindHere_46 : decode cX4_kindHere 46 = .ok (.invokevirtual 199, 3) := by decide +kernel
theorem dX4_kindHere_49 : decode cX4_kindHere 49 = .ok (.ifCond .eq 7, 3) := by decide +kernel
theorem dX4_kindHere_52 : decode cX4_kindHere 52 = .ok (.iconst 3, 1) := by decide +kernel
theorem dX4_kindHere_53 : decode cX4_kindHere 53 = .ok (.goto 32, 3) := by decide +kernel
theorem dX4_kindHere_56 : decode cX4_kindHere 56 = .ok (.aload_n 0, 1) := by decide +kernel
theorem dX4_kindHere_57 : decode cX4_kindHere 57 = .ok (.ldc2_w 209, 3) := by decide +kernel
theorem dX4_kindHere_60 : decode cX4_kindHere 60 = .ok (.invokevirtual 199, 3) := by decide +kernel
theorem dX4_kindHere_63 : decode cX4_kindHere 63 = .ok (.ifCond .eq 7, 3) := by decide +kernel
theorem dX4_kindHere_66 : decode cX4_kindHere 66 = .ok (.iconst 4, 1) := by decide +kernel
theorem dX4_kindHere_67 : decode cX4_kindHere 67 = .ok (.goto 18, 3) := by decide +kernel
theorem dX4_kindHere_70 : decode cX4_kindHere 70 = .ok (.aload_n 0, 1) := by decide +kernel
theorem dX4_kindHere_71 : decode cX4_kindHere 71 = .ok (.ldc2_w 211, 3) := by decide +kernel
theorem dX4_kindHere_74 : decode cX4_kindHere 74 = .ok (.invokevirtual 199, 3) := by decide +kernel
theorem dX4_kindHere_77 : decode cX4_kindHere 77 = .ok (.ifCond .eq 7, 3) := by decide +kernel
theorem dX4_kindHere_80 : decode cX4_kindHere 80 = .ok (.iconst 5, 1) := by decide +kernel
theorem dX4_kindHere_81 : decode cX4_kindHere 81 = .ok (.goto 4, 3) := by decide +kernel
theorem dX4_kindHere_84 : decode cX4_kindHere 84 = .ok (.iconst (-1), 1) := by decide +kernel
theorem dX4_kindHere_85 : decode cX4_kindHere 85 = .ok (.ireturn, 1) := by decide +kernel
theorem dX4_wantNumber_0 : decode cX4_wantNumber 0 = .ok (.aload_n 0, 1) := by decide +kernel
theorem dX4_wantNumber_1 : decode cX4_wantNumber 1 = .ok (.getfield 188, 3) := by decide +kernel
theorem dX4_wantNumber_4 : decode cX4_wantNumber 4 = .ok (.istore_n 3, 1) := by decide +kernel
theorem dX4_wantNumber_5 : decode cX4_wantNumber 5 = .ok (.aload_n 0, 1) := by decide +kernel
theorem dX4_wantNumber_6 : decode cX4_wantNumber 6 = .ok (.aload_n 0, 1) := by decide +kernel
theorem dX4_wantNumber_7 : decode cX4_wantNumber 7 = .ok (.getfield 213, 3) := by decide +kernel
theorem dX4_wantNumber_10 : decode cX4_wantNumber 10 = .ok (.ifCond .eq 24, 3) := by decide +kernel
theorem dX4_wantNumber_13 : decode cX4_wantNumber 13 = .ok (.aload_n 0, 1) := by decide +kernel
theorem dX4_wantNumber_14 : decode cX4_wantNumber 14 = .ok (.getfield 181, 3) := by decide +kernel
theorem dX4_wantNumber_17 : decode cX4_wantNumber 17 = .ok (.iconst 2, 1) := by decide +kernel
theorem dX4_wantNumber_18 : decode cX4_wantNumber 18 = .ok (.if_icmp .ne 16, 3) := by decide +kernel
theorem dX4_wantNumber_21 : decode cX4_wantNumber 21 = .ok (.iload_n 3, 1) := by decide +kernel
theorem dX4_wantNumber_22 : decode cX4_wantNumber 22 = .ok (.iload_n 1, 1) := by decide +kernel
theorem dX4_wantNumber_23 : decode cX4_wantNumber 23 = .ok (.iload_n 2, 1) := by decide +kernel
theorem dX4_wantNumber_24 : decode cX4_wantNumber 24 = .ok (.invokestatic 45, 3) := by decide +kernel
theorem dX4_wantNumber_27 : decode cX4_wantNumber 27 = .ok (.ifCond .eq 7, 3) := by decide +kernel
theorem dX4_wantNumber_30 : decode cX4_wantNumber 30 = .ok (.iconst 1, 1) := by decide +kernel
theorem dX4_wantNumber_31 : decode cX4_wantNumber 31 = .ok (.goto 4, 3) := by decide +kernel
theorem dX4_wantNumber_34 : decode cX4_wantNumber 34 = .ok (.iconst 0, 1) := by decide +kernel
theorem dX4_wantNumber_35 : decode cX4_wantNumber 35 = .ok (.putfield 213, 3) := by decide +kernel
theorem dX4_wantNumber_38 : decode cX4_wantNumber 38 = .ok (.aload_n 0, 1) := by decide +kernel
theorem dX4_wantNumber_39 : decode cX4_wantNumber 39 = .ok (.getfield 213, 3) := by decide +kernel
theorem dX4_wantNumber_42 : decode cX4_wantNumber 42 = .ok (.ifCond .eq 7, 3) := by decide +kernel
theorem dX4_wantNumber_45 : decode cX4_wantNumber 45 = .ok (.aload_n 0, 1) := by decide +kernel
theorem dX4_wantNumber_46 : decode cX4_wantNumber 46 = .ok (.invokevirtual 217, 3) := by decide +kernel
theorem dX4_wantNumber_49 : decode cX4_wantNumber 49 = .ok (.iload_n 3, 1) := by decide +kernel
theorem dX4_wantNumber_50 : decode cX4_wantNumber 50 = .ok (.ireturn, 1) := by decide +kernel
theorem dX4_mayWant_0 : decode cX4_mayWant 0 = .ok (.aload_n 0, 1) := by decide +kernel
theorem dX4_mayWant_1 : decode cX4_mayWant 1 = .ok (.getfield 213, 3) := by decide +kernel
theorem dX4_mayWant_4 : decode cX4_mayWant 4 = .ok (.ifCond .eq 11, 3) := by decide +kernel
theorem dX4_mayWant_7 : decode cX4_mayWant 7 = .ok (.aload_n 0, 1) := by decide +kernel
theorem dX4_mayWant_8 : decode cX4_mayWant 8 = .ok (.lload_n 1, 1) := by decide +kernel
theorem dX4_mayWant_9 : decode cX4_mayWant 9 = .ok (.invokevirtual 199, 3) := by decide +kernel
theorem dX4_mayWant_12 : decode cX4_mayWant 12 = .ok (.ifCond .ne 6, 3) := by decide +kernel
theorem dX4_mayWant_15 : decode cX4_mayWant 15 = .ok (.iload 5, 2) := by decide +kernel
theorem dX4_mayWant_17 : decode cX4_mayWant 17 = .ok (.ireturn, 1) := by decide +kernel
theorem dX4_mayWant_18 : decode cX4_mayWant 18 = .ok (.aload_n 0, 1) := by decide +kernel
theorem dX4_mayWant_19 : decode cX4_mayWant 19 = .ok (.invokevirtual 217, 3) := by decide +kernel
theorem dX4_mayWant_22 : decode cX4_mayWant 22 = .ok (.aload_n 0, 1) := by decide +kernel
theorem dX4_mayWant_23 : decode cX4_mayWant 23 = .ok (.iload_n 3, 1) := by decide +kernel
theorem dX4_mayWant_24 : decode cX4_mayWant 24 = .ok (.iload 4, 2) := by decide +kernel
theorem dX4_mayWant_26 : decode cX4_mayWant 26 = .ok (.invokevirtual 220, 3) := by decide +kernel
theorem dX4_mayWant_29 : decode cX4_mayWant 29 = .ok (.ireturn, 1) := by decide +kernel
theorem dX4_wantOne_0 : decode cX4_wantOne 0 = .ok (.aload_n 0, 1) := by decide +kernel
theorem dX4_wantOne_1 : decode cX4_wantOne 1 = .ok (.aload_n 0, 1) := by decide +kernel
theorem dX4_wantOne_2 : decode cX4_wantOne 2 = .ok (.getfield 7, 3) := by decide +kernel
theorem dX4_wantOne_5 : decode cX4_wantOne 5 = .ok (.iconst 2, 1) := by decide +kernel
theorem dX4_wantOne_6 : decode cX4_wantOne 6 = .ok (.iaload, 1) := by decide +kernel
theorem dX4_wantOne_7 : decode cX4_wantOne 7 = .ok (.bipush 8, 2) := by decide +kernel
theorem dX4_wantOne_9 : decode cX4_wantOne 9 = .ok (.if_icmp .ge 7, 3) := by decide +kernel
theorem dX4_wantOne_12 : decode cX4_wantOne 12 = .ok (.iconst 1, 1) := by decide +kernel
theorem dX4_wantOne_13 : decode cX4_wantOne 13 = .ok (.goto 4, 3) := by decide +kernel
theorem dX4_wantOne_16 : decode cX4_wantOne 16 = .ok (.iconst 0, 1) := by decide +kernel
theorem dX4_wantOne_17 : decode cX4_wantOne 17 = .ok (.putfield 213, 3) := by decide +kernel
theorem dX4_wantOne_20 : decode cX4_wantOne 20 = .ok (.aload_n 0, 1) := by decide +kernel
theorem dX4_wantOne_21 : decode cX4_wantOne 21 = .ok (.getfield 213, 3) := by decide +kernel
theorem dX4_wantOne_24 : decode cX4_wantOne 24 = .ok (.ifCond .ne 4, 3) := by decide +kernel
theorem dX4_wantOne_27 : decode cX4_wantOne 27 = .ok (.return_, 1) := by decide +kernel
theorem dX4_wantOne_28 : decode cX4_wantOne 28 = .ok (.aload_n 0, 1) := by decide +kernel
theorem dX4_wantOne_29 : decode cX4_wantOne 29 = .ok (.invokevirtual 217, 3) := by decide +kernel
theorem dX4_wantOne_32 : decode cX4_wantOne 32 = .ok (.aload_n 0, 1) := by decide +kernel
theorem dX4_wantOne_33 : decode cX4_wantOne 33 = .ok (.ldc2_w 223, 3) := by decide +kernel
theorem dX4_wantOne_36 : decode cX4_wantOne 36 = .ok (.iconst 0, 1) := by decide +kernel
theorem dX4_wantOne_37 : decode cX4_wantOne 37 = .ok (.sipush 200, 3) := by decide +kernel
theorem dX4_wantOne_40 : decode cX4_wantOne 40 = .ok (.bipush 50, 2) := by decide +kernel
theorem dX4_wantOne_42 : decode cX4_wantOne 42 = .ok (.invokevirtual 225, 3) := by decide +kernel
theorem dX4_wantOne_45 : decode cX4_wantOne 45 = .ok (.istore_n 2, 1) := by decide +kernel
theorem dX4_wantOne_46 : decode cX4_wantOne 46 = .ok (.aload_n 0, 1) := by decide +kernel
theorem dX4_wantOne_47 : decode cX4_wantOne 47 = .ok (.ldc2_w 229, 3) := by decide +kernel
theorem dX4_wantOne_50 : decode cX4_wantOne 50 = .ok (.iconst 0, 1) := by decide +kernel
theorem dX4_wantOne_51 : decode cX4_wantOne 51 = .ok (.bipush 99, 2) := by decide +kernel
theorem dX4_wantOne_53 : decode cX4_wantOne 53 = .ok (.iconst 5, 1) := by decide +kernel
theorem dX4_wantOne_54 : decode cX4_wantOne 54 = .ok (.invokevirtual 225, 3) := by decide +kernel
theorem dX4_wantOne_57 : decode cX4_wantOne 57 = .ok (.istore_n 3, 1) := by decide +kernel
theorem dX4_wantOne_58 : decode cX4_wantOne 58 = .ok (.aload_n 0, 1) := by decide +kernel
theorem dX4_wantOne_59 : decode cX4_wantOne 59 = .ok (.getfield 213, 3) := by decide +kernel
theorem dX4_wantOne_62 : decode cX4_wantOne 62 = .ok (.ifCond .eq 10, 3) := by decide +kernel
theorem dX4_wantOne_65 : decode cX4_wantOne 65 = .ok (.aload_n 0, 1) := by decide +kernel
theorem dX4_wantOne_66 : decode cX4_wantOne 66 = .ok (.iload_n 1, 1) := by decide +kernel
theorem dX4_wantOne_67 : decode cX4_wantOne 67 = .ok (.iload_n 2, 1) := by decide +kernel
theorem dX4_wantOne_68 : decode cX4_wantOne 68 = .ok (.iload_n 3, 1) := by decide +kernel
theorem dX4_wantOne_69 : decode cX4_wantOne 69 = .ok (.invokevirtual 95, 3) := by decide +kernel
theorem dX4_wantOne_72 : decode cX4_wantOne 72 = .ok (.return_, 1) := by decide +kernel
theorem dX4_wantPush_0 : decode cX4_wantPush 0 = .ok (.aload_n 0, 1) := by decide +kernel
theorem dX4_wantPush_1 : decode cX4_wantPush 1 = .ok (.invokevirtual 217, 3) := by decide +kernel
theorem dX4_wantPush_4 : decode cX4_wantPush 4 = .ok (.aload_n 0, 1) := by decide +kernel
theorem dX4_wantPush_5 : decode cX4_wantPush 5 = .ok (.iconst 0, 1) := by decide +kernel
theorem dX4_wantPush_6 : decode cX4_wantPush 6 = .ok (.aload_n 0, 1) := by decide +kernel
theorem dX4_wantPush_7 : decode cX4_wantPush 7 = .ok (.getfield 7, 3) := by decide +kernel
theorem dX4_wantPush_10 : decode cX4_wantPush 10 = .ok (.iconst 2, 1) := by decide +kernel
theorem dX4_wantPush_11 : decode cX4_wantPush 11 = .ok (.iaload, 1) := by decide +kernel
theorem dX4_wantPush_12 : decode cX4_wantPush 12 = .ok (.iconst 1, 1) := by decide +kernel
theorem dX4_wantPush_13 : decode cX4_wantPush 13 = .ok (.isub, 1) := by decide +kernel
theorem dX4_wantPush_14 : decode cX4_wantPush 14 = .ok (.invokevirtual 220, 3) := by decide +kernel
theorem dX4_wantPush_17 : decode cX4_wantPush 17 = .ok (.istore_n 1, 1) := by decide +kernel
theorem dX4_wantPush_18 : decode cX4_wantPush 18 = .ok (.aload_n 0, 1) := by decide +kernel
theorem dX4_wantPush_19 : decode cX4_wantPush 19 = .ok (.getfield 213, 3) := by decide +kernel
theorem dX4_wantPush_22 : decode cX4_wantPush 22 = .ok (.ifCond .eq 13, 3) := by decide +kernel
theorem dX4_wantPush_25 : decode cX4_wantPush 25 = .ok (.aload_n 0, 1) := by decide +kernel
theorem dX4_wantPush_26 : decode cX4_wantPush 26 = .ok (.iconst 1, 1) := by decide +kernel
theorem dX4_wantPush_27 : decode cX4_wantPush 27 = .ok (.bipush 99, 2) := by decide +kernel
theorem dX4_wantPush_29 : decode cX4_wantPush 29 = .ok (.invokevirtual 220, 3) := by decide +kernel
theorem dX4_wantPush_32 : decode cX4_wantPush 32 = .ok (.goto 4, 3) := by decide +kernel
theorem dX4_wantPush_35 : decode cX4_wantPush 35 = .ok (.iconst 0, 1) := by decide +kernel
theorem dX4_wantPush_36 : decode cX4_wantPush 36 = .ok (.istore_n 2, 1) := by decide +kernel
theorem dX4_wantPush_37 : decode cX4_wantPush 37 = .ok (.aload_n 0, 1) := by decide +kernel
theorem dX4_wantPush_38 : decode cX4_wantPush 38 = .ok (.getfield 213, 3) := by decide +kernel
theorem dX4_wantPush_41 : decode cX4_wantPush 41 = .ok (.ifCond .eq 9, 3) := by decide +kernel
theorem dX4_wantPush_44 : decode cX4_wantPush 44 = .ok (.aload_n 0, 1) := by decide +kernel
theorem dX4_wantPush_45 : decode cX4_wantPush 45 = .ok (.iload_n 1, 1) := by decide +kernel
theorem dX4_wantPush_46 : decode cX4_wantPush 46 = .ok (.iload_n 2, 1) := by decide +kernel
theorem dX4_wantPush_47 : decode cX4_wantPush 47 = .ok (.invokevirtual 119, 3) := by decide +kernel
theorem dX4_wantPush_50 : decode cX4_wantPush 50 = .ok (.return_, 1) := by decide +kernel
theorem dX4_wantItem_0 : decode cX4_wantItem 0 = .ok (.aload_n 0, 1) := by decide +kernel
theorem dX4_wantItem_1 : decode cX4_wantItem 1 = .ok (.invokevirtual 231, 3) := by decide +kernel
theorem dX4_wantItem_4 : decode cX4_wantItem 4 = .ok (.ifCond .lt 14, 3) := by decide +kernel
theorem dX4_wantItem_7 : decode cX4_wantItem 7 = .ok (.aload_n 0, 1) := by decide +kernel
theorem dX4_wantItem_8 : decode cX4_wantItem 8 = .ok (.aload_n 0, 1) := by decide +kernel
theorem dX4_wantItem_9 : decode cX4_wantItem 9 = .ok (.invokevirtual 231, 3) := by decide +kernel
theorem dX4_wantItem_12 : decode cX4_wantItem 12 = .ok (.invokevirtual 234, 3) := by decide +kernel
theorem dX4_wantItem_15 : decode cX4_wantItem 15 = .ok (.goto 73, 3) := by decide +kernel
theorem dX4_wantItem_18 : decode cX4_wantItem 18 = .ok (.aload_n 0, 1) := by decide +kernel
theorem dX4_wantItem_19 : decode cX4_wantItem 19 = .ok (.ldc2_w 237, 3) := by decide +kernel
theorem dX4_wantItem_22 : decode cX4_wantItem 22 = .ok (.invokevirtual 199, 3) := by decide +kernel
theorem dX4_wantItem_25 : decode cX4_wantItem 25 = .ok (.ifCond .eq 10, 3) := by decide +kernel
theorem dX4_wantItem_28 : decode cX4_wantItem 28 = .ok (.aload_n 0, 1) := by decide +kernel
theorem dX4_wantItem_29 : decode cX4_wantItem 29 = .ok (.invokevirtual 239, 3) := by decide +kernel
theorem dX4_wantItem_32 : decode cX4_wantItem 32 = .ok (.goto 56, 3) := by decide +kernel
theorem dX4_wantItem_35 : decode cX4_wantItem 35 = .ok (.aload_n 0, 1) := by decide +kernel
theorem dX4_wantItem_36 : decode cX4_wantItem 36 = .ok (.ldc2_w 242, 3) := by decide +kernel
theorem dX4_wantItem_39 : decode cX4_wantItem 39 = .ok (.invokevirtual 199, 3) := by decide +kernel
theorem dX4_wantItem_42 : decode cX4_wantItem 42 = .ok (.ifCond .eq 41, 3) := by decide +kernel
theorem dX4_wantItem_45 : decode cX4_wantItem 45 = .ok (.aload_n 0, 1) := by decide +kernel
theorem dX4_wantItem_46 : decode cX4_wantItem 46 = .ok (.invokevirtual 217, 3) := by decide +kernel
theorem dX4_wantItem_49 : decode cX4_wantItem 49 = .ok (.aload_n 0, 1) := by decide +kernel
theorem dX4_wantItem_50 : decode cX4_wantItem 50 = .ok (.iconst 0, 1) := by decide +kernel
theorem dX4_wantItem_51 : decode cX4_wantItem 51 = .ok (.bipush 59, 2) := by decide +kernel
theorem dX4_wantItem_53 : decode cX4_wantItem 53 = .ok (.invokevirtual 220, 3) := by decide +kernel
theorem dX4_wantItem_56 : decode cX4_wantItem 56 = .ok (.istore_n 1, 1) := by decide +kernel
theorem dX4_wantItem_57 : decode cX4_wantItem 57 = .ok (.aload_n 0, 1) := by decide +kernel
theorem dX4_wantItem_58 : decode cX4_wantItem 58 = .ok (.getfield 7, 3) := by decide +kernel
theorem dX4_wantItem_61 : decode cX4_wantItem 61 = .ok (.iconst 1, 1) := by decide +kernel
theorem dX4_wantItem_62 : decode cX4_wantItem 62 = .ok (.aload_n 0, 1) := by decide +kernel
theorem dX4_wantItem_63 : decode cX4_wantItem 63 = .ok (.getfield 213, 3) := by decide +kernel
theorem dX4_wantItem_66 : decode cX4_wantItem 66 = .ok (.ifCond .eq 7, 3) := by decide +kernel
theorem dX4_wantItem_69 : decode cX4_wantItem 69 = .ok (.iload_n 1, 1) := by decide +kernel
theorem dX4_wantItem_70 : decode cX4_wantItem 70 = .ok (.goto 9, 3) := by decide +kernel
theorem dX4_wantItem_73 : decode cX4_wantItem 73 = .ok (.aload_n 0, 1) := by decide +kernel
theorem dX4_wantItem_74 : decode cX4_wantItem 74 = .ok (.getfield 7, 3) := by decide +kernel
theorem dX4_wantItem_77 : decode cX4_wantItem 77 = .ok (.iconst 1, 1) := by decide +kernel
theorem dX4_wantItem_78 : decode cX4_wantItem 78 = .ok (.iaload, 1) := by decide +kernel
theorem dX4_wantItem_79 : decode cX4_wantItem 79 = .ok (.iastore, 1) := by decide +kernel
theorem dX4_wantItem_80 : decode cX4_wantItem 80 = .ok (.goto 8, 3) := by decide +kernel
theorem dX4_wantItem_83 : decode cX4_wantItem 83 = .ok (.aload_n 0, 1) := by decide +kernel
theorem dX4_wantItem_84 : decode cX4_wantItem 84 = .ok (.iconst 0, 1) := by decide +kernel
theorem dX4_wantItem_85 : decode cX4_wantItem 85 = .ok (.putfield 213, 3) := by decide +kernel
theorem dX4_wantItem_88 : decode cX4_wantItem 88 = .ok (.return_, 1) := by decide +kernel
theorem dX4_ground_0 : decode cX4_ground 0 = .ok (.aload_n 0, 1) := by decide +kernel
theorem dX4_ground_1 : decode cX4_ground 1 = .ok (.iconst 1, 1) := by decide +kernel
theorem dX4_ground_2 : decode cX4_ground 2 = .ok (.aload_n 0, 1) := by decide +kernel
theorem dX4_ground_3 : decode cX4_ground 3 = .ok (.getfield 41, 3) := by decide +kernel
theorem dX4_ground_6 : decode cX4_ground 6 = .ok (.invokevirtual 151, 3) := by decide +kernel
theorem dX4_ground_9 : decode cX4_ground 9 = .ok (.aload_n 0, 1) := by decide +kernel
theorem dX4_ground_10 : decode cX4_ground 10 = .ok (.iconst 0, 1) := by decide +kernel
theorem dX4_ground_11 : decode cX4_ground 11 = .ok (.putfield 166, 3) := by decide +kernel
theorem dX4_ground_14 : decode cX4_ground 14 = .ok (.aload_n 0, 1) := by decide +kernel
theorem dX4_ground_15 : decode cX4_ground 15 = .ok (.iconst 1, 1) := by decide +kernel
theorem dX4_ground_16 : decode cX4_ground 16 = .ok (.putfield 213, 3) := by decide +kernel
theorem dX4_ground_19 : decode cX4_ground 19 = .ok (.iconst 0, 1) := by decide +kernel
theorem dX4_ground_20 : decode cX4_ground 20 = .ok (.istore_n 1, 1) := by decide +kernel
theorem dX4_ground_21 : decode cX4_ground 21 = .ok (.iconst 1, 1) := by decide +kernel
theorem dX4_ground_22 : decode cX4_ground 22 = .ok (.istore_n 2, 1) := by decide +kernel
theorem dX4_ground_23 : decode cX4_ground 23 = .ok (.iload_n 2, 1) := by decide +kernel
theorem dX4_ground_24 : decode cX4_ground 24 = .ok (.ifCond .eq 47, 3) := by decide +kernel
theorem dX4_ground_27 : decode cX4_ground 27 = .ok (.aload_n 0, 1) := by decide +kernel
theorem dX4_ground_28 : decode cX4_ground 28 = .ok (.invokevirtual 217, 3) := by decide +kernel
theorem dX4_ground_31 : decode cX4_ground 31 = .ok (.aload_n 0, 1) := by decide +kernel
theorem dX4_ground_32 : decode cX4_ground 32 = .ok (.invokevirtual 244, 3) := by decide +kernel
theorem dX4_ground_35 : decode cX4_ground 35 = .ok (.iinc 1 1, 3) := by decide +kernel
theorem dX4_ground_38 : decode cX4_ground 38 = .ok (.aload_n 0, 1) := by decide +kernel
theorem dX4_ground_39 : decode cX4_ground 39 = .ok (.getfield 213, 3) := by decide +kernel
theorem dX4_ground_42 : decode cX4_ground 42 = .ok (.ifCond .eq 24, 3) := by decide +kernel
theorem dX4_ground_45 : decode cX4_ground 45 = .ok (.aload_n 0, 1) := by decide +kernel
theorem dX4_ground_46 : decode cX4_ground 46 = .ok (.getfield 181, 3) := by decide +kernel
theorem dX4_ground_49 : decode cX4_ground 49 = .ok (.iconst 3, 1) := by decide +kernel
theorem dX4_ground_50 : decode cX4_ground 50 = .ok (.if_icmp .ne 16, 3) := by decide +kernel
theorem dX4_ground_53 : decode cX4_ground 53 = .ok (.aload_n 0, 1) := by decide +kernel
theorem dX4_ground_54 : decode cX4_ground 54 = .ok (.getfield 188, 3) := by decide +kernel
theorem dX4_ground_57 : decode cX4_ground 57 = .ok (.bipush 59, 2) := by decide +kernel
theorem dX4_ground_59 : decode cX4_ground 59 = .ok (.if_icmp .ne 7, 3) := by decide +kernel
theorem dX4_ground_62 : decode cX4_ground 62 = .ok (.iconst 1, 1) := by decide +kernel
theorem dX4_ground_63 : decode cX4_ground 63 = .ok (.goto 4, 3) := by decide +kernel
theorem dX4_ground_66 : decode cX4_ground 66 = .ok (.iconst 0, 1) := by decide +kernel
theorem dX4_ground_67 : decode cX4_ground 67 = .ok (.istore_n 2, 1) := by decide +kernel
theorem dX4_ground_68 : decode cX4_ground 68 = .ok (.goto (-45), 3) := by decide +kernel
theorem dX4_ground_71 : decode cX4_ground 71 = .ok (.aload_n 0, 1) := by decide +kernel
theorem dX4_ground_72 : decode cX4_ground 72 = .ok (.aload_n 0, 1) := by decide +kernel
theorem dX4_ground_73 : decode cX4_ground 73 = .ok (.getfield 213, 3) := by decide +kernel
theorem dX4_ground_76 : decode cX4_ground 76 = .ok (.ifCond .eq 14, 3) := by decide +kernel
theorem dX4_ground_79 : decode cX4_ground 79 = .ok (.aload_n 0, 1) := by decide +kernel
theorem dX4_ground_80 : decode cX4_ground 80 = .ok (.getfield 181, 3) := by decide +kernel
theorem dX4_ground_83 : decode cX4_ground 83 = .ok (.ifCond .ne 7, 3) := by decide +kernel
theorem dX4_ground_86 : decode cX4_ground 86 = .ok (.iconst 1, 1) := by decide +kernel
theorem dX4_ground_87 : decode cX4_ground 87 = .ok (.goto 4, 3) := by decide +kernel
theorem dX4_ground_90 : decode cX4_ground 90 = .ok (.iconst 0, 1) := by decide +kernel
theorem dX4_ground_91 : decode cX4_ground 91 = .ok (.putfield 213, 3) := by decide +kernel
theorem dX4_ground_94 : decode cX4_ground 94 = .ok (.aload_n 0, 1) := by decide +kernel
theorem dX4_ground_95 : decode cX4_ground 95 = .ok (.iconst 0, 1) := by decide +kernel
theorem dX4_ground_96 : decode cX4_ground 96 = .ok (.putfield 162, 3) := by decide +kernel
theorem dX4_ground_99 : decode cX4_ground 99 = .ok (.aload_n 0, 1) := by decide +kernel
theorem dX4_ground_100 : decode cX4_ground 100 = .ok (.getfield 213, 3) := by decide +kernel
theorem dX4_ground_103 : decode cX4_ground 103 = .ok (.ifCond .ne 19, 3) := by decide +kernel
theorem dX4_ground_106 : decode cX4_ground 106 = .ok (.aload_n 0, 1) := by decide +kernel
theorem dX4_ground_107 : decode cX4_ground 107 = .ok (.iconst 0, 1) := by decide +kernel
theorem dX4_ground_108 : decode cX4_ground 108 = .ok (.aload_n 0, 1) := by decide +kernel
theorem dX4_ground_109 : decode cX4_ground 109 = .ok (.getfield 41, 3) := by decide +kernel
theorem dX4_ground_112 : decode cX4_ground 112 = .ok (.invokevirtual 151, 3) := by decide +kernel
theorem dX4_ground_115 : decode cX4_ground 115 = .ok (.iconst (-1), 1) := by decide +kernel
theorem dX4_ground_116 : decode cX4_ground 116 = .ok (.aload_n 0, 1) := by decide +kernel
theorem dX4_ground_117 : decode cX4_ground 117 = .ok (.getfield 169, 3) := by decide +kernel
theorem dX4_ground_120 : decode cX4_ground 120 = .ok (.isub, 1) := by decide +kernel
theorem dX4_ground_121 : decode cX4_ground 121 = .ok (.ireturn, 1) := by decide +kernel
theorem dX4_ground_122 : decode cX4_ground 122 = .ok (.iload_n 1, 1) := by decide +kernel
theorem dX4_ground_123 : decode cX4_ground 123 = .ok (.ireturn, 1) := by decide +kernel
theorem dX4_isSheet_0 : decode cX4_isSheet 0 = .ok (.iload_n 0, 1) := by decide +kernel
theorem dX4_isSheet_1 : decode cX4_isSheet 1 = .ok (.iconst 0, 1) := by decide +kernel
theorem dX4_isSheet_2 : decode cX4_isSheet 2 = .ok (.iconst 3, 1) := by decide +kernel
theorem dX4_isSheet_3 : decode cX4_isSheet 3 = .ok (.invokestatic 45, 3) := by decide +kernel
theorem dX4_isSheet_6 : decode cX4_isSheet 6 = .ok (.ireturn, 1) := by decide +kernel
theorem dX4_narrow_0 : decode cX4_narrow 0 = .ok (.iload_n 0, 1) := by decide +kernel
theorem dX4_narrow_1 : decode cX4_narrow 1 = .ok (.bipush 8, 2) := by decide +kernel
theorem dX4_narrow_3 : decode cX4_narrow 3 = .ok (.if_icmp .ne 13, 3) := by decide +kernel
theorem dX4_narrow_6 : decode cX4_narrow 6 = .ok (.lload_n 1, 1) := by decide +kernel
theorem dX4_narrow_7 : decode cX4_narrow 7 = .ok (.bipush 56, 2) := by decide +kernel
theorem dX4_narrow_9 : decode cX4_narrow 9 = .ok (.lshl, 1) := by decide +kernel
theorem dX4_narrow_10 : decode cX4_narrow 10 = .ok (.bipush 56, 2) := by decide +kernel
theorem dX4_narrow_12 : decode cX4_narrow 12 = .ok (.lshr, 1) := by decide +kernel
theorem dX4_narrow_13 : decode cX4_narrow 13 = .ok (.goto 20, 3) := by decide +kernel
theorem dX4_narrow_16 : decode cX4_narrow 16 = .ok (.iload_n 0, 1) := by decide +kernel
theorem dX4_narrow_17 : decode cX4_narrow 17 = .ok (.bipush 16, 2) := by decide +kernel
theorem dX4_narrow_19 : decode cX4_narrow 19 = .ok (.if_icmp .ne 13, 3) := by decide +kernel
theorem dX4_narrow_22 : decode cX4_narrow 22 = .ok (.lload_n 1, 1) := by decide +kernel
theorem dX4_narrow_23 : decode cX4_narrow 23 = .ok (.bipush 48, 2) := by decide +kernel
theorem dX4_narrow_25 : decode cX4_narrow 25 = .ok (.lshl, 1) := by decide +kernel
theorem dX4_narrow_26 : decode cX4_narrow 26 = .ok (.bipush 48, 2) := by decide +kernel
theorem dX4_narrow_28 : decode cX4_narrow 28 = .ok (.lshr, 1) := by decide +kernel
theorem dX4_narrow_29 : decode cX4_narrow 29 = .ok (.goto 4, 3) := by decide +kernel
theorem dX4_narrow_32 : decode cX4_narrow 32 = .ok (.lload_n 1, 1) := by decide +kernel
theorem dX4_narrow_33 : decode cX4_narrow 33 = .ok (.lreturn, 1) := by decide +kernel
theorem dX4_sheet_0 : decode cX4_sheet 0 = .ok (.iload_n 1, 1) := by decide +kernel
theorem dX4_sheet_1 : decode cX4_sheet 1 = .ok (.invokestatic 247, 3) := by decide +kernel
theorem dX4_sheet_4 : decode cX4_sheet 4 = .ok (.ifCond .eq 25, 3) := by decide +kernel
theorem dX4_sheet_7 : decode cX4_sheet 7 = .ok (.iload_n 2, 1) := by decide +kernel
theorem dX4_sheet_8 : decode cX4_sheet 8 = .ok (.ifCond .eq 28, 3) := by decide +kernel
theorem dX4_sheet_11 : decode cX4_sheet 11 = .ok (.iload_n 2, 1) := by decide +kernel
theorem dX4_sheet_12 : decode cX4_sheet 12 = .ok (.bipush 8, 2) := by decide +kernel
theorem dX4_sheet_14 : decode cX4_sheet 14 = .ok (.if_icmp .eq 22, 3) := by decide +kernel
theorem dX4_sheet_17 : decode cX4_sheet 17 = .ok (.iload_n 2, 1) := by decide +kernel
theorem dX4_sheet_18 : decode cX4_sheet 18 = .ok (.bipush 16, 2) := by decide +kernel
theorem dX4_sheet_20 : decode cX4_sheet 20 = .ok (.if_icmp .eq 16, 3) := by decide +kernel
theorem dX4_sheet_23 : decode cX4_sheet 23 = .ok (.iload_n 2, 1) := by decide +kernel
theorem dX4_sheet_24 : decode cX4_sheet 24 = .ok (.bipush 64, 2) := by decide +kernel
theorem dX4_sheet_26 : decode cX4_sheet 26 = .ok (.if_icmp .eq 10, 3) := by decide +kernel
theorem dX4_sheet_29 : decode cX4_sheet 29 = .ok (.aload_n 0, 1) := by decide +kernel
theorem dX4_sheet_30 : decode cX4_sheet 30 = .ok (.ldc 44, 2) := by decide +kernel
theorem dX4_sheet_32 : decode cX4_sheet 32 = .ok (.invokevirtual 53, 3) := by decide +kernel
theorem dX4_sheet_35 : decode cX4_sheet 35 = .ok (.ireturn, 1) := by decide +kernel
theorem dX4_sheet_36 : decode cX4_sheet 36 = .ok (.iload_n 3, 1) := by decide +kernel
theorem dX4_sheet_37 : decode cX4_sheet 37 = .ok (.ifCond .ge 10, 3) := by decide +kernel
theorem dX4_sheet_40 : decode cX4_sheet 40 = .ok (.aload_n 0, 1) := by decide +kernel
theorem dX4_sheet_41 : decode cX4_sheet 41 = .ok (.ldc 250, 2) := by decide +kernel
theorem dX4_sheet_43 : decode cX4_sheet 43 = .ok (.invokevirtual 53, 3) := by decide +kernel
theorem dX4_sheet_46 : decode cX4_sheet 46 = .ok (.ireturn, 1) := by decide +kernel
theorem dX4_sheet_47 : decode cX4_sheet 47 = .ok (.iload_n 3, 1) := by decide +kernel
theorem dX4_sheet_48 : decode cX4_sheet 48 = .ok (.bipush 40, 2) := by decide +kernel
theorem dX4_sheet_50 : decode cX4_sheet 50 = .ok (.if_icmp .le 10, 3) := by decide +kernel
theorem dX4_sheet_53 : decode cX4_sheet 53 = .ok (.aload_n 0, 1) := by decide +kernel
theorem dX4_sheet_54 : decode cX4_sheet 54 = .ok (.ldc 44, 2) := by decide +kernel
theorem dX4_sheet_56 : decode cX4_sheet 56 = .ok (.invokevirtual 53, 3) := by decide +kernel
theorem dX4_sheet_59 : decode cX4_sheet 59 = .ok (.ireturn, 1) := by decide +kernel
theorem dX4_sheet_60 : decode cX4_sheet 60 = .ok (.aload_n 0, 1) := by decide +kernel
theorem dX4_sheet_61 : decode cX4_sheet 61 = .ok (.getfield 25, 3) := by decide +kernel
theorem dX4_sheet_64 : decode cX4_sheet 64 = .ok (.iload_n 1, 1) := by decide +kernel
theorem dX4_sheet_65 : decode cX4_sheet 65 = .ok (.iload_n 2, 1) := by decide +kernel
theorem dX4_sheet_66 : decode cX4_sheet 66 = .ok (.iastore, 1) := by decide +kernel
theorem dX4_sheet_67 : decode cX4_sheet 67 = .ok (.aload_n 0, 1) := by decide +kernel
theorem dX4_sheet_68 : decode cX4_sheet 68 = .ok (.getfield 28, 3) := by decide +kernel
theorem dX4_sheet_71 : decode cX4_sheet 71 = .ok (.iload_n 1, 1) := by decide +kernel
theorem dX4_sheet_72 : decode cX4_sheet 72 = .ok (.iload_n 2, 1) := by decide +kernel
theorem dX4_sheet_73 : decode cX4_sheet 73 = .ok (.ifCond .ne 7, 3) := by decide +kernel
theorem dX4_sheet_76 : decode cX4_sheet 76 = .ok (.iconst 0, 1) := by decide +kernel
theorem dX4_sheet_77 : decode cX4_sheet 77 = .ok (.goto 4, 3) := by decide +kernel
theorem dX4_sheet_80 : decode cX4_sheet 80 = .ok (.iload_n 3, 1) := by decide +kernel
theorem dX4_sheet_81 : decode cX4_sheet 81 = .ok (.iastore, 1) := by decide +kernel
theorem dX4_sheet_82 : decode cX4_sheet 82 = .ok (.iconst 0, 1) := by decide +kernel
theorem dX4_sheet_83 : decode cX4_sheet 83 = .ok (.istore 4, 2) := by decide +kernel
theorem dX4_sheet_85 : decode cX4_sheet 85 = .ok (.iload 4, 2) := by decide +kernel
theorem dX4_sheet_87 : decode cX4_sheet 87 = .ok (.bipush 40, 2) := by decide +kernel
theorem dX4_sheet_89 : decode cX4_sheet 89 = .ok (.if_icmp .ge 22, 3) := by decide +kernel
theorem dX4_sheet_92 : decode cX4_sheet 92 = .ok (.aload_n 0, 1) := by decide +kernel
theorem dX4_sheet_93 : decode cX4_sheet 93 = .ok (.getfield 31, 3) := by decide +kernel
theorem dX4_sheet_96 : decode cX4_sheet 96 = .ok (.bipush 40, 2) := by decide +kernel
theorem dX4_sheet_98 : decode cX4_sheet 98 = .ok (.iload_n 1, 1) := by decide +kernel
theorem dX4_sheet_99 : decode cX4_sheet 99 = .ok (.imul, 1) := by decide +kernel
theorem dX4_sheet_100 : decode cX4_sheet 100 = .ok (.iload 4, 2) := by decide +kernel
theorem dX4_sheet_102 : decode cX4_sheet 102 = .ok (.iadd, 1) := by decide +kernel
theorem dX4_sheet_103 : decode cX4_sheet 103 = .ok (.lconst 0, 1) := by decide +kernel
theorem dX4_sheet_104 : decode cX4_sheet 104 = .ok (.lastore, 1) := by decide +kernel
theorem dX4_sheet_105 : decode cX4_sheet 105 = .ok (.iinc 4 1, 3) := by decide +kernel
theorem dX4_sheet_108 : decode cX4_sheet 108 = .ok (.goto (-23), 3) := by decide +kernel
theorem dX4_sheet_111 : decode cX4_sheet 111 = .ok (.aload_n 0, 1) := by decide +kernel
theorem dX4_sheet_112 : decode cX4_sheet 112 = .ok (.getfield 28, 3) := by decide +kernel
theorem dX4_sheet_115 : decode cX4_sheet 115 = .ok (.iload_n 1, 1) := by decide +kernel
theorem dX4_sheet_116 : decode cX4_sheet 116 = .ok (.iaload, 1) := by decide +kernel
theorem dX4_sheet_117 : decode cX4_sheet 117 = .ok (.ireturn, 1) := by decide +kernel
