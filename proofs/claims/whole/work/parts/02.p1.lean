theorem dX7_push_19 : decode cX7_push 19 = .ok (.aload_n 0, 1) := by decide +kernel
theorem dX7_push_20 : decode cX7_push 20 = .ok (.getfield 15, 3) := by decide +kernel
theorem dX7_push_23 : decode cX7_push 23 = .ok (.aload_n 0, 1) := by decide +kernel
theorem dX7_push_24 : decode cX7_push 24 = .ok (.getfield 22, 3) := by decide +kernel
theorem dX7_push_27 : decode cX7_push 27 = .ok (.iload_n 1, 1) := by decide +kernel
theorem dX7_push_28 : decode cX7_push 28 = .ok (.iastore, 1) := by decide +kernel
theorem dX7_push_29 : decode cX7_push 29 = .ok (.aload_n 0, 1) := by decide +kernel
theorem dX7_push_30 : decode cX7_push 30 = .ok (.dup, 1) := by decide +kernel
theorem dX7_push_31 : decode cX7_push 31 = .ok (.getfield 22, 3) := by decide +kernel
theorem dX7_push_34 : decode cX7_push 34 = .ok (.iconst 1, 1) := by decide +kernel
theorem dX7_push_35 : decode cX7_push 35 = .ok (.iadd, 1) := by decide +kernel
theorem dX7_push_36 : decode cX7_push 36 = .ok (.putfield 22, 3) := by decide +kernel
theorem dX7_push_39 : decode cX7_push 39 = .ok (.return_, 1) := by decide +kernel
theorem dX7_put_0 : decode cX7_put 0 = .ok (.aload_n 0, 1) := by decide +kernel
theorem dX7_put_1 : decode cX7_put 1 = .ok (.getfield 18, 3) := by decide +kernel
theorem dX7_put_4 : decode cX7_put 4 = .ok (.ifCond .lt 35, 3) := by decide +kernel
theorem dX7_put_7 : decode cX7_put 7 = .ok (.aload_n 0, 1) := by decide +kernel
theorem dX7_put_8 : decode cX7_put 8 = .ok (.getfield 18, 3) := by decide +kernel
theorem dX7_put_11 : decode cX7_put 11 = .ok (.aload_n 0, 1) := by decide +kernel
theorem dX7_put_12 : decode cX7_put 12 = .ok (.getfield 9, 3) := by decide +kernel
theorem dX7_put_15 : decode cX7_put 15 = .ok (.arraylength, 1) := by decide +kernel
theorem dX7_put_16 : decode cX7_put 16 = .ok (.if_icmp .ge 23, 3) := by decide +kernel
theorem dX7_put_19 : decode cX7_put 19 = .ok (.aload_n 0, 1) := by decide +kernel
theorem dX7_put_20 : decode cX7_put 20 = .ok (.getfield 9, 3) := by decide +kernel
theorem dX7_put_23 : decode cX7_put 23 = .ok (.aload_n 0, 1) := by decide +kernel
theorem dX7_put_24 : decode cX7_put 24 = .ok (.getfield 18, 3) := by decide +kernel
theorem dX7_put_27 : decode cX7_put 27 = .ok (.iload_n 1, 1) := by decide +kernel
theorem dX7_put_28 : decode cX7_put 28 = .ok (.iastore, 1) := by decide +kernel
theorem dX7_put_29 : decode cX7_put 29 = .ok (.aload_n 0, 1) := by decide +kernel
theorem dX7_put_30 : decode cX7_put 30 = .ok (.dup, 1) := by decide +kernel
theorem dX7_put_31 : decode cX7_put 31 = .ok (.getfield 18, 3) := by decide +kernel
theorem dX7_put_34 : decode cX7_put 34 = .ok (.iconst 1, 1) := by decide +kernel
theorem dX7_put_35 : decode cX7_put 35 = .ok (.iadd, 1) := by decide +kernel
theorem dX7_put_36 : decode cX7_put 36 = .ok (.putfield 18, 3) := by decide +kernel
theorem dX7_put_39 : decode cX7_put 39 = .ok (.return_, 1) := by decide +kernel
theorem dX8_init_0 : decode cX8_init 0 = .ok (.aload_n 0, 1) := by decide +kernel
theorem dX8_init_1 : decode cX8_init 1 = .ok (.invokespecial 3, 3) := by decide +kernel
theorem dX8_init_4 : decode cX8_init 4 = .ok (.aload_n 0, 1) := by decide +kernel
theorem dX8_init_5 : decode cX8_init 5 = .ok (.iload_n 1, 1) := by decide +kernel
theorem dX8_init_6 : decode cX8_init 6 = .ok (.putfield 9, 3) := by decide +kernel
theorem dX8_init_9 : decode cX8_init 9 = .ok (.aload_n 0, 1) := by decide +kernel
theorem dX8_init_10 : decode cX8_init 10 = .ok (.iload_n 2, 1) := by decide +kernel
theorem dX8_init_11 : decode cX8_init 11 = .ok (.putfield 15, 3) := by decide +kernel
theorem dX8_init_14 : decode cX8_init 14 = .ok (.aload_n 0, 1) := by decide +kernel
theorem dX8_init_15 : decode cX8_init 15 = .ok (.iconst 0, 1) := by decide +kernel
theorem dX8_init_16 : decode cX8_init 16 = .ok (.iload_n 1, 1) := by decide +kernel
theorem dX8_init_17 : decode cX8_init 17 = .ok (.iload_n 2, 1) := by decide +kernel
theorem dX8_init_18 : decode cX8_init 18 = .ok (.imul, 1) := by decide +kernel
theorem dX8_init_19 : decode cX8_init 19 = .ok (.invokestatic 18, 3) := by decide +kernel
theorem dX8_init_22 : decode cX8_init 22 = .ok (.newarray .int, 2) := by decide +kernel
theorem dX8_init_24 : decode cX8_init 24 = .ok (.putfield 24, 3) := by decide +kernel
theorem dX8_init_27 : decode cX8_init 27 = .ok (.return_, 1) := by decide +kernel
theorem dX8_isFull_0 : decode cX8_isFull 0 = .ok (.aload_n 0, 1) := by decide +kernel
theorem dX8_isFull_1 : decode cX8_isFull 1 = .ok (.getfield 28, 3) := by decide +kernel
theorem dX8_isFull_4 : decode cX8_isFull 4 = .ok (.aload_n 0, 1) := by decide +kernel
theorem dX8_isFull_5 : decode cX8_isFull 5 = .ok (.getfield 9, 3) := by decide +kernel
theorem dX8_isFull_8 : decode cX8_isFull 8 = .ok (.if_icmp .lt 7, 3) := by decide +kernel
theorem dX8_isFull_11 : decode cX8_isFull 11 = .ok (.iconst 1, 1) := by decide +kernel
theorem dX8_isFull_12 : decode cX8_isFull 12 = .ok (.goto 4, 3) := by decide +kernel
theorem dX8_isFull_15 : decode cX8_isFull 15 = .ok (.iconst 0, 1) := by decide +kernel
theorem dX8_isFull_16 : decode cX8_isFull 16 = .ok (.ireturn, 1) := by decide +kernel
theorem dX8_get_0 : decode cX8_get 0 = .ok (.aload_n 0, 1) := by decide +kernel
theorem dX8_get_1 : decode cX8_get 1 = .ok (.iload_n 1, 1) := by decide +kernel
theorem dX8_get_2 : decode cX8_get 2 = .ok (.iload_n 2, 1) := by decide +kernel
theorem dX8_get_3 : decode cX8_get 3 = .ok (.invokevirtual 31, 3) := by decide +kernel
theorem dX8_get_6 : decode cX8_get 6 = .ok (.istore_n 3, 1) := by decide +kernel
theorem dX8_get_7 : decode cX8_get 7 = .ok (.iload_n 3, 1) := by decide +kernel
theorem dX8_get_8 : decode cX8_get 8 = .ok (.ifCond .lt 21, 3) := by decide +kernel
theorem dX8_get_11 : decode cX8_get 11 = .ok (.iload_n 3, 1) := by decide +kernel
theorem dX8_get_12 : decode cX8_get 12 = .ok (.aload_n 0, 1) := by decide +kernel
theorem dX8_get_13 : decode cX8_get 13 = .ok (.getfield 24, 3) := by decide +kernel
theorem dX8_get_16 : decode cX8_get 16 = .ok (.arraylength, 1) := by decide +kernel
theorem dX8_get_17 : decode cX8_get 17 = .ok (.if_icmp .ge 12, 3) := by decide +kernel
theorem dX8_get_20 : decode cX8_get 20 = .ok (.aload_n 0, 1) := by decide +kernel
theorem dX8_get_21 : decode cX8_get 21 = .ok (.getfield 24, 3) := by decide +kernel
theorem dX8_get_24 : decode cX8_get 24 = .ok (.iload_n 3, 1) := by decide +kernel
theorem dX8_get_25 : decode cX8_get 25 = .ok (.iaload, 1) := by decide +kernel
theorem dX8_get_26 : decode cX8_get 26 = .ok (.goto 4, 3) := by decide +kernel
theorem dX8_get_29 : decode cX8_get 29 = .ok (.iconst 0, 1) := by decide +kernel
theorem dX8_get_30 : decode cX8_get 30 = .ok (.ireturn, 1) := by decide +kernel
theorem dX8_set_0 : decode cX8_set 0 = .ok (.aload_n 0, 1) := by decide +kernel
theorem dX8_set_1 : decode cX8_set 1 = .ok (.iload_n 1, 1) := by decide +kernel
theorem dX8_set_2 : decode cX8_set 2 = .ok (.iload_n 2, 1) := by decide +kernel
theorem dX8_set_3 : decode cX8_set 3 = .ok (.invokevirtual 31, 3) := by decide +kernel
theorem dX8_set_6 : decode cX8_set 6 = .ok (.istore 4, 2) := by decide +kernel
theorem dX8_set_8 : decode cX8_set 8 = .ok (.iload 4, 2) := by decide +kernel
theorem dX8_set_10 : decode cX8_set 10 = .ok (.ifCond .lt 21, 3) := by decide +kernel
theorem dX8_set_13 : decode cX8_set 13 = .ok (.iload 4, 2) := by decide +kernel
theorem dX8_set_15 : decode cX8_set 15 = .ok (.aload_n 0, 1) := by decide +kernel
theorem dX8_set_16 : decode cX8_set 16 = .ok (.getfield 24, 3) := by decide +kernel
theorem dX8_set_19 : decode cX8_set 19 = .ok (.arraylength, 1) := by decide +kernel
theorem dX8_set_20 : decode cX8_set 20 = .ok (.if_icmp .ge 11, 3) := by decide +kernel
theorem dX8_set_23 : decode cX8_set 23 = .ok (.aload_n 0, 1) := by decide +kernel
theorem dX8_set_24 : decode cX8_set 24 = .ok (.getfield 24, 3) := by decide +kernel
theorem dX8_set_27 : decode cX8_set 27 = .ok (.iload 4, 2) := by decide +kernel
theorem dX8_set_29 : decode cX8_set 29 = .ok (.iload_n 3, 1) := by decide +kernel
theorem dX8_set_30 : decode cX8_set 30 = .ok (.iastore, 1) := by decide +kernel
theorem dX8_set_31 : decode cX8_set 31 = .ok (.return_, 1) := by decide +kernel
theorem dX8_placeOf_0 : decode cX8_placeOf 0 = .ok (.iload_n 1, 1) := by decide +kernel
theorem dX8_placeOf_1 : decode cX8_placeOf 1 = .ok (.ifCond .lt 27, 3) := by decide +kernel
theorem dX8_placeOf_4 : decode cX8_placeOf 4 = .ok (.iload_n 1, 1) := by decide +kernel
theorem dX8_placeOf_5 : decode cX8_placeOf 5 = .ok (.aload_n 0, 1) := by decide +kernel
theorem dX8_placeOf_6 : decode cX8_placeOf 6 = .ok (.getfield 28, 3) := by decide +kernel
theorem dX8_placeOf_9 : decode cX8_placeOf 9 = .ok (.if_icmp .ge 19, 3) := by decide +kernel
theorem dX8_placeOf_12 : decode cX8_placeOf 12 = .ok (.iload_n 2, 1) := by decide +kernel
theorem dX8_placeOf_13 : decode cX8_placeOf 13 = .ok (.ifCond .lt 15, 3) := by decide +kernel
theorem dX8_placeOf_16 : decode cX8_placeOf 16 = .ok (.iload_n 2, 1) := by decide +kernel
theorem dX8_placeOf_17 : decode cX8_placeOf 17 = .ok (.aload_n 0, 1) := by decide +kernel
theorem dX8_placeOf_18 : decode cX8_placeOf 18 = .ok (.getfield 15, 3) := by decide +kernel
theorem dX8_placeOf_21 : decode cX8_placeOf 21 = .ok (.if_icmp .ge 7, 3) := by decide +kernel
theorem dX8_placeOf_24 : decode cX8_placeOf 24 = .ok (.iconst 1, 1) := by decide +kernel
theorem dX8_placeOf_25 : decode cX8_placeOf 25 = .ok (.goto 4, 3) := by decide +kernel
theorem dX8_placeOf_28 : decode cX8_placeOf 28 = .ok (.iconst 0, 1) := by decide +kernel
theorem dX8_placeOf_29 : decode cX8_placeOf 29 = .ok (.istore_n 3, 1) := by decide +kernel
theorem dX8_placeOf_30 : decode cX8_placeOf 30 = .ok (.iload_n 3, 1) := by decide +kernel
theorem dX8_placeOf_31 : decode cX8_placeOf 31 = .ok (.ifCond .eq 14, 3) := by decide +kernel
theorem dX8_placeOf_34 : decode cX8_placeOf 34 = .ok (.iload_n 1, 1) := by decide +kernel
theorem dX8_placeOf_35 : decode cX8_placeOf 35 = .ok (.aload_n 0, 1) := by decide +kernel
theorem dX8_placeOf_36 : decode cX8_placeOf 36 = .ok (.getfield 15, 3) := by decide +kernel
theorem dX8_placeOf_39 : decode cX8_placeOf 39 = .ok (.imul, 1) := by decide +kernel
theorem dX8_placeOf_40 : decode cX8_placeOf 40 = .ok (.iload_n 2, 1) := by decide +kernel
theorem dX8_placeOf_41 : decode cX8_placeOf 41 = .ok (.iadd, 1) := by decide +kernel
theorem dX8_placeOf_42 : decode cX8_placeOf 42 = .ok (.goto 4, 3) := by decide +kernel
theorem dX8_placeOf_45 : decode cX8_placeOf 45 = .ok (.iconst (-1), 1) := by decide +kernel
theorem dX8_placeOf_46 : decode cX8_placeOf 46 = .ok (.ireturn, 1) := by decide +kernel
theorem dX8_add_0 : decode cX8_add 0 = .ok (.aload_n 0, 1) := by decide +kernel
theorem dX8_add_1 : decode cX8_add 1 = .ok (.invokevirtual 34, 3) := by decide +kernel
theorem dX8_add_4 : decode cX8_add 4 = .ok (.ifCond .eq 5, 3) := by decide +kernel
theorem dX8_add_7 : decode cX8_add 7 = .ok (.iconst (-1), 1) := by decide +kernel
theorem dX8_add_8 : decode cX8_add 8 = .ok (.ireturn, 1) := by decide +kernel
theorem dX8_add_9 : decode cX8_add 9 = .ok (.aload_n 0, 1) := by decide +kernel
theorem dX8_add_10 : decode cX8_add 10 = .ok (.getfield 28, 3) := by decide +kernel
theorem dX8_add_13 : decode cX8_add 13 = .ok (.istore 6, 2) := by decide +kernel
theorem dX8_add_15 : decode cX8_add 15 = .ok (.aload_n 0, 1) := by decide +kernel
theorem dX8_add_16 : decode cX8_add 16 = .ok (.iload 6, 2) := by decide +kernel
theorem dX8_add_18 : decode cX8_add 18 = .ok (.iconst 1, 1) := by decide +kernel
theorem dX8_add_19 : decode cX8_add 19 = .ok (.iadd, 1) := by decide +kernel
theorem dX8_add_20 : decode cX8_add 20 = .ok (.putfield 28, 3) := by decide +kernel
theorem dX8_add_23 : decode cX8_add 23 = .ok (.aload_n 0, 1) := by decide +kernel
theorem dX8_add_24 : decode cX8_add 24 = .ok (.iload 6, 2) := by decide +kernel
theorem dX8_add_26 : decode cX8_add 26 = .ok (.iconst 0, 1) := by decide +kernel
theorem dX8_add_27 : decode cX8_add 27 = .ok (.iload_n 1, 1) := by decide +kernel
theorem dX8_add_28 : decode cX8_add 28 = .ok (.invokevirtual 38, 3) := by decide +kernel
theorem dX8_add_31 : decode cX8_add 31 = .ok (.aload_n 0, 1) := by decide +kernel
theorem dX8_add_32 : decode cX8_add 32 = .ok (.iload 6, 2) := by decide +kernel
theorem dX8_add_34 : decode cX8_add 34 = .ok (.iconst 1, 1) := by decide +kernel
theorem dX8_add_35 : decode cX8_add 35 = .ok (.iload_n 2, 1) := by decide +kernel
theorem dX8_add_36 : decode cX8_add 36 = .ok (.invokevirtual 38, 3) := by decide +kernel
theorem dX8_add_39 : decode cX8_add 39 = .ok (.aload_n 0, 1) := by decide +kernel
theorem dX8_add_40 : decode cX8_add 40 = .ok (.iload 6, 2) := by decide +kernel
theorem dX8_add_42 : decode cX8_add 42 = .ok (.iconst 2, 1) := by decide +kernel
theorem dX8_add_43 : decode cX8_add 43 = .ok (.iload_n 3, 1) := by decide +kernel
theorem dX8_add_44 : decode cX8_add 44 = .ok (.invokevirtual 38, 3) := by decide +kernel
theorem dX8_add_47 : decode cX8_add 47 = .ok (.aload_n 0, 1) := by decide +kernel
theorem dX8_add_48 : decode cX8_add 48 = .ok (.iload 6, 2) := by decide +kernel
theorem dX8_add_50 : decode cX8_add 50 = .ok (.iconst 3, 1) := by decide +kernel
theorem dX8_add_51 : decode cX8_add 51 = .ok (.iload 4, 2) := by decide +kernel
theorem dX8_add_53 : decode cX8_add 53 = .ok (.invokevirtual 38, 3) := by decide +kernel
theorem dX8_add_56 : decode cX8_add 56 = .ok (.aload_n 0, 1) := by decide +kernel
theorem dX8_add_57 : decode cX8_add 57 = .ok (.iload 6, 2) := by decide +kernel
theorem dX8_add_59 : decode cX8_add 59 = .ok (.iconst 4, 1) := by decide +kernel
theorem dX8_add_60 : decode cX8_add 60 = .ok (.iload 5, 2) := by decide +kernel
theorem dX8_add_62 : decode cX8_add 62 = .ok (.invokevirtual 38, 3) := by decide +kernel
theorem dX8_add_65 : decode cX8_add 65 = .ok (.iconst 5, 1) := by decide +kernel
theorem dX8_add_66 : decode cX8_add 66 = .ok (.istore 7, 2) := by decide +kernel
theorem dX8_add_68 : decode cX8_add 68 = .ok (.iload 7, 2) := by decide +kernel
theorem dX8_add_70 : decode cX8_add 70 = .ok (.aload_n 0, 1) := by decide +kernel
theorem dX8_add_71 : decode cX8_add 71 = .ok (.getfield 15, 3) := by decide +kernel
theorem dX8_add_74 : decode cX8_add 74 = .ok (.if_icmp .ge 18, 3) := by decide +kernel
theorem dX8_add_77 : decode cX8_add 77 = .ok (.aload_n 0, 1) := by decide +kernel
theorem dX8_add_78 : decode cX8_add 78 = .ok (.iload 6, 2) := by decide +kernel
theorem dX8_add_80 : decode cX8_add 80 = .ok (.iload 7, 2) := by decide +kernel
theorem dX8_add_82 : decode cX8_add 82 = .ok (.iconst 0, 1) := by decide +kernel
theorem dX8_add_83 : decode cX8_add 83 = .ok (.invokevirtual 38, 3) := by decide +kernel
theorem dX8_add_86 : decode cX8_add 86 = .ok (.iinc 7 1, 3) := by decide +kernel
theorem dX8_add_89 : decode cX8_add 89 = .ok (.goto (-21), 3) := by decide +kernel
theorem dX8_add_92 : decode cX8_add 92 = .ok (.iload 6, 2) := by decide +kernel
theorem dX8_add_94 : decode cX8_add 94 = .ok (.ireturn, 1) := by decide +kernel
theorem dX8_clear_0 : decode cX8_clear 0 = .ok (.aload_n 0, 1) := by decide +kernel
theorem dX8_clear_1 : decode cX8_clear 1 = .ok (.iconst 0, 1) := by decide +kernel
theorem dX8_clear_2 : decode cX8_clear 2 = .ok (.putfield 28, 3) := by decide +kernel
theorem dX8_clear_5 : decode cX8_clear 5 = .ok (.return_, 1) := by decide +kernel
theorem dX8_become_0 : decode cX8_become 0 = .ok (.aload_n 1, 1) := by decide +kernel
theorem dX8_become_1 : decode cX8_become 1 = .ok (.getfield 28, 3) := by decide +kernel
theorem dX8_become_4 : decode cX8_become 4 = .ok (.aload_n 1, 1) := by decide +kernel
theorem dX8_become_5 : decode cX8_become 5 = .ok (.getfield 15, 3) := by decide +kernel
theorem dX8_become_8 : decode cX8_become 8 = .ok (.imul, 1) := by decide +kernel
theorem dX8_become_9 : decode cX8_become 9 = .ok (.aload_n 1, 1) := by decide +kernel
theorem dX8_become_10 : decode cX8_become 10 = .ok (.getfield 24, 3) := by decide +kernel
theorem dX8_become_13 : decode cX8_become 13 = .ok (.arraylength, 1) := by decide +kernel
theorem dX8_become_14 : decode cX8_become 14 = .ok (.aload_n 0, 1) := by decide +kernel
theorem dX8_become_15 : decode cX8_become 15 = .ok (.getfield 24, 3) := by decide +kernel
theorem dX8_become_18 : decode cX8_become 18 = .ok (.arraylength, 1) := by decide +kernel
theorem dX8_become_19 : decode cX8_become 19 = .ok (.invokestatic 42, 3) := by decide +kernel
theorem dX8_become_22 : decode cX8_become 22 = .ok (.invokestatic 42, 3) := by decide +kernel
theorem dX8_become_25 : decode cX8_become 25 = .ok (.istore_n 2, 1) := by decide +kernel
theorem dX8_become_26 : decode cX8_become 26 = .ok (.aload_n 1, 1) := by decide +kernel
theorem dX8_become_27 : decode cX8_become 27 = .ok (.getfield 24, 3) := by decide +kernel
theorem dX8_become_30 : decode cX8_become 30 = .ok (.iconst 0, 1) := by decide +kernel
theorem dX8_become_31 : decode cX8_become 31 = .ok (.aload_n 0, 1) := by decide +kernel
theorem dX8_become_32 : decode cX8_become 32 = .ok (.getfield 24, 3) := by decide +kernel
theorem dX8_become_35 : decode cX8_become 35 = .ok (.iconst 0, 1) := by decide +kernel
theorem dX8_become_36 : decode cX8_become 36 = .ok (.iconst 0, 1) := by decide +kernel
theorem dX8_become_37 : decode cX8_become 37 = .ok (.iload_n 2, 1) := by decide +kernel
theorem dX8_become_38 : decode cX8_become 38 = .ok (.invokestatic 18, 3) := by decide +kernel
theorem dX8_become_41 : decode cX8_become 41 = .ok (.invokestatic 45, 3) := by decide +kernel
theorem dX8_become_44 : decode cX8_become 44 = .ok (.aload_n 0, 1) := by decide +kernel
theorem dX8_become_45 : decode cX8_become 45 = .ok (.aload_n 1, 1) := by decide +kernel
theorem dX8_become_46 : decode cX8_become 46 = .ok (.getfield 28, 3) := by decide +kernel
theorem dX8_become_49 : decode cX8_become 49 = .ok (.putfield 28, 3) := by decide +kernel
theorem dX8_become_52 : decode cX8_become 52 = .ok (.return_, 1) := by decide +kernel
theorem dX8_mixAll_0 : decode cX8_mixAll 0 = .ok (.lload_n 1, 1) := by decide +kernel
theorem dX8_mixAll_1 : decode cX8_mixAll 1 = .ok (.lstore 4, 2) := by decide +kernel
theorem dX8_mixAll_3 : decode cX8_mixAll 3 = .ok (.iconst 0, 1) := by decide +kernel
theorem dX8_mixAll_4 : decode cX8_mixAll 4 = .ok (.istore 6, 2) := by decide +kernel
theorem dX8_mixAll_6 : decode cX8_mixAll 6 = .ok (.iload 6, 2) := by decide +kernel
theorem dX8_mixAll_8 : decode cX8_mixAll 8 = .ok (.aload_n 0, 1) := by decide +kernel
theorem dX8_mixAll_9 : decode cX8_mixAll 9 = .ok (.getfield 28, 3) := by decide +kernel
theorem dX8_mixAll_12 : decode cX8_mixAll 12 = .ok (.if_icmp .ge 20, 3) := by decide +kernel
theorem dX8_mixAll_15 : decode cX8_mixAll 15 = .ok (.aload_n 0, 1) := by decide +kernel
theorem dX8_mixAll_16 : decode cX8_mixAll 16 = .ok (.lload 4, 2) := by decide +kernel
theorem dX8_mixAll_18 : decode cX8_mixAll 18 = .ok (.iload 6, 2) := by decide +kernel
theorem dX8_mixAll_20 : decode cX8_mixAll 20 = .ok (.iload_n 3, 1) := by decide +kernel
theorem dX8_mixAll_21 : decode cX8_mixAll 21 = .ok (.invokevirtual 51, 3) := by decide +kernel
theorem dX8_mixAll_24 : decode cX8_mixAll 24 = .ok (.lstore 4, 2) := by decide +kernel
theorem dX8_mixAll_26 : decode cX8_mixAll 26 = .ok (.iinc 6 1, 3) := by decide +kernel
theorem dX8_mixAll_29 : decode cX8_mixAll 29 = .ok (.goto (-23), 3) := by decide +kernel
theorem dX8_mixAll_32 : decode cX8_mixAll 32 = .ok (.lload 4, 2) := by decide +kernel
theorem dX8_mixAll_34 : decode cX8_mixAll 34 = .ok (.lreturn, 1) := by decide +kernel
theorem dX8_mixTexts_0 : decode cX8_mixTexts 0 = .ok (.lload_n 1, 1) := by decide +kernel
theorem dX8_mixTexts_1 : decode cX8_mixTexts 1 = .ok (.lstore 4, 2) := by decide +kernel
theorem dX8_mixTexts_3 : decode cX8_mixTexts 3 = .ok (.iconst 0, 1) := by decide +kernel
theorem dX8_mixTexts_4 : decode cX8_mixTexts 4 = .ok (.istore 6, 2) := by decide +kernel
theorem dX8_mixTexts_6 : decode cX8_mixTexts 6 = .ok (.iload 6, 2) := by decide +kernel
theorem dX8_mixTexts_8 : decode cX8_mixTexts 8 = .ok (.aload_n 0, 1) := by decide +kernel
theorem dX8_mixTexts_9 : decode cX8_mixTexts 9 = .ok (.getfield 28, 3) := by decide +kernel
theorem dX8_mixTexts_12 : decode cX8_mixTexts 12 = .ok (.if_icmp .ge 30, 3) := by decide +kernel
theorem dX8_mixTexts_15 : decode cX8_mixTexts 15 = .ok (.aload_n 0, 1) := by decide +kernel
theorem dX8_mixTexts_16 : decode cX8_mixTexts 16 = .ok (.lload 4, 2) := by decide +kernel
theorem dX8_mixTexts_18 : decode cX8_mixTexts 18 = .ok (.iload 6, 2) := by decide +kernel
theorem dX8_mixTexts_20 : decode cX8_mixTexts 20 = .ok (.iload_n 3, 1) := by decide +kernel
theorem dX8_mixTexts_21 : decode cX8_mixTexts 21 = .ok (.iconst 1, 1) := by decide +kernel
theorem dX8_mixTexts_22 : decode cX8_mixTexts 22 = .ok (.iadd, 1) := by decide +kernel
theorem dX8_mixTexts_23 : decode cX8_mixTexts 23 = .ok (.aload_n 0, 1) := by decide +kernel
theorem dX8_mixTexts_24 : decode cX8_mixTexts 24 = .ok (.iload 6, 2) := by decide +kernel
theorem dX8_mixTexts_26 : decode cX8_mixTexts 26 = .ok (.iload_n 3, 1) := by decide +kernel
theorem dX8_mixTexts_27 : decode cX8_mixTexts 27 = .ok (.invokevirtual 55, 3) := by decide +kernel
theorem dX8_mixTexts_30 : decode cX8_mixTexts 30 = .ok (.iadd, 1) := by decide +kernel
theorem dX8_mixTexts_31 : decode cX8_mixTexts 31 = .ok (.invokevirtual 51, 3) := by decide +kernel
theorem dX8_mixTexts_34 : decode cX8_mixTexts 34 = .ok (.lstore 4, 2) := by decide +kernel
theorem dX8_mixTexts_36 : decode cX8_mixTexts 36 = .ok (.iinc 6 1, 3) := by decide +kernel
theorem dX8_mixTexts_39 : decode cX8_mixTexts 39 = .ok (.goto (-33), 3) := by decide +kernel
theorem dX8_mixTexts_42 : decode cX8_mixTexts 42 = .ok (.lload 4, 2) := by decide +kernel
theorem dX8_mixTexts_44 : decode cX8_mixTexts 44 = .ok (.lreturn, 1) := by decide +kernel
theorem dX8_mixRow_0 : decode cX8_mixRow 0 = .ok (.lload_n 1, 1) := by decide +kernel
theorem dX8_mixRow_1 : decode cX8_mixRow 1 = .ok (.lstore 5, 2) := by decide +kernel
theorem dX8_mixRow_3 : decode cX8_mixRow 3 = .ok (.iconst 0, 1) := by decide +kernel
theorem dX8_mixRow_4 : decode cX8_mixRow 4 = .ok (.istore 7, 2) := by decide +kernel
theorem dX8_mixRow_6 : decode cX8_mixRow 6 = .ok (.iload 7, 2) := by decide +kernel
theorem dX8_mixRow_8 : decode cX8_mixRow 8 = .ok (.iload 4, 2) := by decide +kernel
theorem dX8_mixRow_10 : decode cX8_mixRow 10 = .ok (.if_icmp .ge 35, 3) := by decide +kernel
theorem dX8_mixRow_13 : decode cX8_mixRow 13 = .ok (.iload 7, 2) := by decide +kernel
theorem dX8_mixRow_15 : decode cX8_mixRow 15 = .ok (.aload_n 0, 1) := by decide +kernel
theorem dX8_mixRow_16 : decode cX8_mixRow 16 = .ok (.getfield 15, 3) := by decide +kernel
theorem dX8_mixRow_19 : decode cX8_mixRow 19 = .ok (.if_icmp .ge 26, 3) := by decide +kernel
theorem dX8_mixRow_22 : decode cX8_mixRow 22 = .ok (.ldc2_w 58, 3) := by decide +kernel
theorem dX8_mixRow_25 : decode cX8_mixRow 25 = .ok (.lload 5, 2) := by decide +kernel
theorem dX8_mixRow_27 : decode cX8_mixRow 27 = .ok (.lmul, 1) := by decide +kernel
theorem dX8_mixRow_28 : decode cX8_mixRow 28 = .ok (.aload_n 0, 1) := by decide +kernel
theorem dX8_mixRow_29 : decode cX8_mixRow 29 = .ok (.iload_n 3, 1) := by decide +kernel
theorem dX8_mixRow_30 : decode cX8_mixRow 30 = .ok (.iload 7, 2) := by decide +kernel
theorem dX8_mixRow_32 : decode cX8_mixRow 32 = .ok (.invokevirtual 55, 3) := by decide +kernel
theorem dX8_mixRow_35 : decode cX8_mixRow 35 = .ok (.i2l, 1) := by decide +kernel
theorem dX8_mixRow_36 : decode cX8_mixRow 36 = .ok (.ladd, 1) := by decide +kernel
theorem dX8_mixRow_37 : decode cX8_mixRow 37 = .ok (.lstore 5, 2) := by decide +kernel
theorem dX8_mixRow_39 : decode cX8_mixRow 39 = .ok (.iinc 7 1, 3) := by decide +kernel
theorem dX8_mixRow_42 : decode cX8_mixRow 42 = .ok (.goto (-36), 3) := by decide +kernel
theorem dX8_mixRow_45 : decode cX8_mixRow 45 = .ok (.lload 5, 2) := by decide +kernel
theorem dX8_mixRow_47 : decode cX8_mixRow 47 = .ok (.lreturn, 1) := by decide +kernel
theorem dX9_init_0 : decode cX9_init 0 = .ok (.aload_n 0, 1) := by decide +kernel
theorem dX9_init_1 : decode cX9_init 1 = .ok (.invokespecial 3, 3) := by decide +kernel
theorem dX9_init_4 : decode cX9_init 4 = .ok (.aload_n 0, 1) := by decide +kernel
theorem dX9_init_5 : decode cX9_init 5 = .ok (.aload_n 1, 1) := by decide +kernel
theorem dX9_init_6 : decode cX9_init 6 = .ok (.putfield 9, 3) := by decide +kernel
theorem dX9_init_9 : decode cX9_init 9 = .ok (.aload_n 0, 1) := by decide +kernel
theorem dX9_init_10 : decode cX9_init 10 = .ok (.aload_n 2, 1) := by decide +kernel
theorem dX9_init_11 : decode cX9_init 11 = .ok (.putfield 15, 3) := by decide +kernel
theorem dX9_init_14 : decode cX9_init 14 = .ok (.return_, 1) := by decide +kernel
theorem dX9_leftByGates_0 : decode cX9_leftByGates 0 = .ok (.aload_n 0, 1) := by decide +kernel
theorem dX9_leftByGates_1 : decode cX9_leftByGates 1 = .ok (.getfield 9, 3) := by decide +kernel
theorem dX9_leftByGates_4 : decode cX9_leftByGates 4 = .ok (.getfield 19, 3) := by decide +kernel
theorem dX9_leftByGates_7 : decode cX9_leftByGates 7 = .ok (.iload_n 1, 1) := by decide +kernel
theorem dX9_leftByGates_8 : decode cX9_leftByGates 8 = .ok (.iconst 1, 1) := by decide +kernel
theorem dX9_leftByGates_9 : decode cX9_leftByGates 9 = .ok (.invokevirtual 25, 3) := by decide +kernel
theorem dX9_leftByGates_12 : decode cX9_leftByGates 12 = .ok (.istore 4, 2) := by decide +kernel
theorem dX9_leftByGates_14 : decode cX9_leftByGates 14 = .ok (.iload_n 2, 1) := by decide +kernel
theorem dX9_leftByGates_15 : decode cX9_leftByGates 15 = .ok (.i2l, 1) := by decide +kernel
theorem dX9_leftByGates_16 : decode cX9_leftByGates 16 = .ok (.lstore 5, 2) := by decide +kernel
theorem dX9_leftByGates_18 : decode cX9_leftByGates 18 = .ok (.iconst 0, 1) := by decide +kernel
theorem dX9_leftByGates_19 : decode cX9_leftByGates 19 = .ok (.istore 7, 2) := by decide +kernel
theorem dX9_leftByGates_21 : decode cX9_leftByGates 21 = .ok (.iload 7, 2) := by decide +kernel
theorem dX9_leftByGates_23 : decode cX9_leftByGates 23 = .ok (.aload_n 0, 1) := by decide +kernel
theorem dX9_leftByGates_24 : decode cX9_leftByGates 24 = .ok (.getfield 9, 3) := by decide +kernel
theorem dX9_leftByGates_27 : decode cX9_leftByGates 27 = .ok (.getfield 31, 3) := by decide +kernel
theorem dX9_leftByGates_30 : decode cX9_leftByGates 30 = .ok (.getfield 34, 3) := by decide +kernel
theorem dX9_leftByGates_33 : decode cX9_leftByGates 33 = .ok (.if_icmp .ge 67, 3) := by decide +kernel
theorem dX9_leftByGates_36 : decode cX9_leftByGates 36 = .ok (.aload_n 0, 1) := by decide +kernel
theorem dX9_leftByGates_37 : decode cX9_leftByGates 37 = .ok (.getfield 9, 3) := by decide +kernel
theorem dX9_leftByGates_40 : decode cX9_leftByGates 40 = .ok (.getfield 31, 3) := by decide +kernel
theorem dX9_leftByGates_43 : decode cX9_leftByGates 43 = .ok (.iload 7, 2) := by decide +kernel
theorem dX9_leftByGates_45 : decode cX9_leftByGates 45 = .ok (.iconst 0, 1) := by decide +kernel
theorem dX9_leftByGates_46 : decode cX9_leftByGates 46 = .ok (.invokevirtual 25, 3) := by decide +kernel
theorem dX9_leftByGates_49 : decode cX9_leftByGates 49 = .ok (.istore 8, 2) := by decide +kernel
theorem dX9_leftByGates_51 : decode cX9_leftByGates 51 = .ok (.aload_n 0, 1) := by decide +kernel
theorem dX9_leftByGates_52 : decode cX9_leftByGates 52 = .ok (.getfield 15, 3) := by decide +kernel
theorem dX9_leftByGates_55 : decode cX9_leftByGates 55 = .ok (.iconst 0, 1) := by decide +kernel
theorem dX9_leftByGates_56 : decode cX9_leftByGates 56 = .ok (.iload_n 3, 1) := by decide +kernel
theorem dX9_leftByGates_57 : decode cX9_leftByGates 57 = .ok (.iload 7, 2) := by decide +kernel
theorem dX9_leftByGates_59 : decode cX9_leftByGates 59 = .ok (.iload 4, 2) := by decide +kernel
theorem dX9_leftByGates_61 : decode cX9_leftByGates 61 = .ok (.iload 8, 2) := by decide +kernel
theorem dX9_leftByGates_63 : decode cX9_leftByGates 63 = .ok (.if_icmp .ne 7, 3) := by decide +kernel
theorem dX9_leftByGates_66 : decode cX9_leftByGates 66 = .ok (.iconst 1, 1) := by decide +kernel
theorem dX9_leftByGates_67 : decode cX9_leftByGates 67 = .ok (.goto 4, 3) := by decide +kernel
theorem dX9_leftByGates_70 : decode cX9_leftByGates 70 = .ok (.iconst 0, 1) := by decide +kernel
theorem dX9_leftByGates_71 : decode cX9_leftByGates 71 = .ok (.iload 8, 2) := by decide +kernel
theorem dX9_leftByGates_73 : decode cX9_leftByGates 73 = .ok (.lload 5, 2) := by decide +kernel
theorem dX9_leftByGates_75 : decode cX9_leftByGates 75 = .ok (.invokevirtual 38, 3) := by decide +kernel
theorem dX9_leftByGates_78 : decode cX9_leftByGates 78 = .ok (.lstore 9, 2) := by decide +kernel
theorem dX9_leftByGates_80 : decode cX9_leftByGates 80 = .ok (.lload 5, 2) := by decide +kernel
theorem dX9_leftByGates_82 : decode cX9_leftByGates 82 = .ok (.lload 5, 2) := by decide +kernel
theorem dX9_leftByGates_84 : decode cX9_leftByGates 84 = .ok (.lload 9, 2) := by decide +kernel
theorem dX9_leftByGates_86 : decode cX9_leftByGates 86 = .ok (.lmul, 1) := by decide +kernel
theorem dX9_leftByGates_87 : decode cX9_leftByGates 87 = .ok (.ldc2_w 44, 3) := by decide +kernel
theorem dX9_leftByGates_90 : decode cX9_leftByGates 90 = .ok (.ldiv, 1) := by decide +kernel
theorem dX9_leftByGates_91 : decode cX9_leftByGates 91 = .ok (.lsub, 1) := by decide +kernel
theorem dX9_leftByGates_92 : decode cX9_leftByGates 92 = .ok (.lstore 5, 2) := by decide +kernel
theorem dX9_leftByGates_94 : decode cX9_leftByGates 94 = .ok (.iinc 7 1, 3) := by decide +kernel
theorem dX9_leftByGates_97 : decode cX9_leftByGates 97 = .ok (.goto (-76), 3) := by decide +kernel
theorem dX9_leftByGates_100 : decode cX9_leftByGates 100 = .ok (.lload 5, 2) := by decide +kernel
theorem dX9_leftByGates_102 : decode cX9_leftByGates 102 = .ok (.l2i, 1) := by decide +kernel
theorem dX9_leftByGates_103 : decode cX9_leftByGates 103 = .ok (.ireturn, 1) := by decide +kernel
theorem dX9_leftByLuck_0 : decode cX9_leftByLuck 0 = .ok (.aload_n 0, 1) := by decide +kernel
theorem dX9_leftByLuck_1 : decode cX9_leftByLuck 1 = .ok (.getfield 9, 3) := by decide +kernel
theorem dX9_leftByLuck_4 : decode cX9_leftByLuck 4 = .ok (.getfield 46, 3) := by decide +kernel
theorem dX9_leftByLuck_7 : decode cX9_leftByLuck 7 = .ok (.istore_n 2, 1) := by decide +kernel
theorem dX9_leftByLuck_8 : decode cX9_leftByLuck 8 = .ok (.iload_n 2, 1) := by decide +kernel
theorem dX9_leftByLuck_9 : decode cX9_leftByLuck 9 = .ok (.ifCond .le 17, 3) := by decide +kernel
theorem dX9_leftByLuck_12 : decode cX9_leftByLuck 12 = .ok (.iload_n 1, 1) := by decide +kernel
theorem dX9_leftByLuck_13 : decode cX9_leftByLuck 13 = .ok (.i2l, 1) := by decide +kernel
theorem dX9_leftByLuck_14 : decode cX9_leftByLuck 14 = .ok (.iload_n 2, 1) := by decide +kernel
theorem dX9_leftByLuck_15 : decode cX9_leftByLuck 15 = .ok (.iconst 1, 1) := by decide +kernel
theorem dX9_leftByLuck_16 : decode cX9_leftByLuck 16 = .ok (.isub, 1) := by decide +kernel
theorem dX9_leftByLuck_17 : decode cX9_leftByLuck 17 = .ok (.i2l, 1) := by decide +kernel
theorem dX9_leftByLuck_18 : decode cX9_leftByLuck 18 = .ok (.lmul, 1) := by decide +kernel
theorem dX9_leftByLuck_19 : decode cX9_leftByLuck 19 = .ok (.iload_n 2, 1) := by decide +kernel
theorem dX9_leftByLuck_20 : decode cX9_leftByLuck 20 = .ok (.i2l, 1) := by decide +kernel
theorem dX9_leftByLuck_21 : decode cX9_leftByLuck 21 = .ok (.ldiv, 1) := by decide +kernel
theorem dX9_leftByLuck_22 : decode cX9_leftByLuck 22 = .ok (.l2i, 1) := by decide +kernel
theorem dX9_leftByLuck_23 : decode cX9_leftByLuck 23 = .ok (.goto 4, 3) := by decide +kernel
theorem dX9_leftByLuck_26 : decode cX9_leftByLuck 26 = .ok (.iconst 0, 1) := by decide +kernel
theorem dX9_leftByLuck_27 : decode cX9_leftByLuck 27 = .ok (.ireturn, 1) := by decide +kernel
theorem dX9_lowerOf_0 : decode cX9_lowerOf 0 = .ok (.aload_n 0, 1) := by decide +kernel
theorem dX9_lowerOf_1 : decode cX9_lowerOf 1 = .ok (.getfield 9, 3) := by decide +kernel
theorem dX9_lowerOf_4 : decode cX9_lowerOf 4 = .ok (.getfield 49, 3) := by decide +kernel
theorem dX9_lowerOf_7 : decode cX9_lowerOf 7 = .ok (.iload_n 1, 1) := by decide +kernel
theorem dX9_lowerOf_8 : decode cX9_lowerOf 8 = .ok (.iconst 1, 1) := by decide +kernel
theorem dX9_lowerOf_9 : decode cX9_lowerOf 9 = .ok (.invokevirtual 25, 3) := by decide +kernel
theorem dX9_lowerOf_12 : decode cX9_lowerOf 12 = .ok (.aload_n 0, 1) := by decide +kernel
theorem dX9_lowerOf_13 : decode cX9_lowerOf 13 = .ok (.getfield 9, 3) := by decide +kernel
theorem dX9_lowerOf_16 : decode cX9_lowerOf 16 = .ok (.getfield 49, 3) := by decide +kernel
theorem dX9_lowerOf_19 : decode cX9_lowerOf 19 = .ok (.iload_n 1, 1) := by decide +kernel
theorem dX9_lowerOf_20 : decode cX9_lowerOf 20 = .ok (.iconst 2, 1) := by decide +kernel
theorem dX9_lowerOf_21 : decode cX9_lowerOf 21 = .ok (.invokevirtual 25, 3) := by decide +kernel
theorem dX9_lowerOf_24 : decode cX9_lowerOf 24 = .ok (.isub, 1) := by decide +kernel
theorem dX9_lowerOf_25 : decode cX9_lowerOf 25 = .ok (.i2l, 1) := by decide +kernel
theorem dX9_lowerOf_26 : decode cX9_lowerOf 26 = .ok (.lreturn, 1) := by decide +kernel
theorem dX9_upperOf_0 : decode cX9_upperOf 0 = .ok (.aload_n 0, 1) := by decide +kernel
theorem dX9_upperOf_1 : decode cX9_upperOf 1 = .ok (.getfield 9, 3) := by decide +kernel
theorem dX9_upperOf_4 : decode cX9_upperOf 4 = .ok (.getfield 49, 3) := by decide +kernel
theorem dX9_upperOf_7 : decode cX9_upperOf 7 = .ok (.iload_n 1, 1) := by decide +kernel
theorem dX9_upperOf_8 : decode cX9_upperOf 8 = .ok (.iconst 1, 1) := by decide +kernel
theorem dX9_upperOf_9 : decode cX9_upperOf 9 = .ok (.invokevirtual 25, 3) := by decide +kernel
theorem dX9_upperOf_12 : decode cX9_upperOf 12 = .ok (.aload_n 0, 1) := by decide +kernel
theorem dX9_upperOf_13 : decode cX9_upperOf 13 = .ok (.getfield 9, 3) := by decide +kernel
theorem dX9_upperOf_16 : decode cX9_upperOf 16 = .ok (.getfield 49, 3) := by decide +kernel
theorem dX9_upperOf_19 : decode cX9_upperOf 19 = .ok (.iload_n 1, 1) := by decide +kernel
theorem dX9_upperOf_20 : decode cX9_upperOf 20 = .ok (.iconst 2, 1) := by decide +kernel
theorem dX9_upperOf_21 : decode cX9_upperOf 21 = .ok (.invokevirtual 25, 3) := by decide +kernel
theorem dX9_upperOf_24 : decode cX9_upperOf 24 = .ok (.iadd, 1) := by decide +kernel
theorem dX9_upperOf_25 : decode cX9_upperOf 25 = .ok (.i2l, 1) := by decide +kernel
theorem dX9_upperOf_26 : decode cX9_upperOf 26 = .ok (.lreturn, 1) := by decide +kernel
theorem dX9_highestLower_0 : decode cX9_highestLower 0 = .ok (.iconst 0, 1) := by decide +kernel
theorem dX9_highestLower_1 : decode cX9_highestLower 1 = .ok (.istore_n 1, 1) := by decide +kernel
theorem dX9_highestLower_2 : decode cX9_highestLower 2 = .ok (.iconst 1, 1) := by decide +kernel
theorem dX9_highestLower_3 : decode cX9_highestLower 3 = .ok (.istore_n 2, 1) := by decide +kernel
theorem dX9_highestLower_4 : decode cX9_highestLower 4 = .ok (.iload_n 2, 1) := by decide +kernel
theorem dX9_highestLower_5 : decode cX9_highestLower 5 = .ok (.aload_n 0, 1) := by decide +kernel
theorem dX9_highestLower_6 : decode cX9_highestLower 6 = .ok (.getfield 9, 3) := by decide +kernel
theorem dX9_highestLower_9 : decode cX9_highestLower 9 = .ok (.getfield 49, 3) := by decide +kernel
theorem dX9_highestLower_12 : decode cX9_highestLower 12 = .ok (.getfield 34, 3) := by decide +kernel
theorem dX9_highestLower_15 : decode cX9_highestLower 15 = .ok (.if_icmp .ge 30, 3) := by decide +kernel
theorem dX9_highestLower_18 : decode cX9_highestLower 18 = .ok (.aload_n 0, 1) := by decide +kernel
theorem dX9_highestLower_19 : decode cX9_highestLower 19 = .ok (.aload_n 0, 1) := by decide +kernel
theorem dX9_highestLower_20 : decode cX9_highestLower 20 = .ok (.iload_n 2, 1) := by decide +kernel
theorem dX9_highestLower_21 : decode cX9_highestLower 21 = .ok (.invokevirtual 52, 3) := by decide +kernel
theorem dX9_highestLower_24 : decode cX9_highestLower 24 = .ok (.iload_n 2, 1) := by decide +kernel
theorem dX9_highestLower_25 : decode cX9_highestLower 25 = .ok (.aload_n 0, 1) := by decide +kernel
theorem dX9_highestLower_26 : decode cX9_highestLower 26 = .ok (.iload_n 1, 1) := by decide +kernel
theorem dX9_highestLower_27 : decode cX9_highestLower 27 = .ok (.invokevirtual 52, 3) := by decide +kernel
theorem dX9_highestLower_30 : decode cX9_highestLower 30 = .ok (.iload_n 1, 1) := by decide +kernel
theorem dX9_highestLower_31 : decode cX9_highestLower 31 = .ok (.invokevirtual 56, 3) := by decide +kernel
theorem dX9_highestLower_34 : decode cX9_highestLower 34 = .ok (.ifCond .eq 5, 3) := by decide +kernel
theorem dX9_highestLower_37 : decode cX9_highestLower 37 = .ok (.iload_n 2, 1) := by decide +kernel
theorem dX9_highestLower_38 : decode cX9_highestLower 38 = .ok (.istore_n 1, 1) := by decide +kernel
theorem dX9_highestLower_39 : decode cX9_highestLower 39 = .ok (.iinc 2 1, 3) := by decide +kernel
theorem dX9_highestLower_42 : decode cX9_highestLower 42 = .ok (.goto (-38), 3) := by decide +kernel
theorem dX9_highestLower_45 : decode cX9_highestLower 45 = .ok (.iload_n 1, 1) := by decide +kernel
theorem dX9_highestLower_46 : decode cX9_highestLower 46 = .ok (.ireturn, 1) := by decide +kernel
theorem dX9_lowestUpper_0 : decode cX9_lowestUpper 0 = .ok (.iconst 0, 1) := by decide +kernel
theorem dX9_lowestUpper_1 : decode cX9_lowestUpper 1 = .ok (.istore_n 1, 1) := by decide +kernel
theorem dX9_lowestUpper_2 : decode cX9_lowestUpper 2 = .ok (.iconst 1, 1) := by decide +kernel
theorem dX9_lowestUpper_3 : decode cX9_lowestUpper 3 = .ok (.istore_n 2, 1) := by decide +kernel
theorem dX9_lowestUpper_4 : decode cX9_lowestUpper 4 = .ok (.iload_n 2, 1) := by decide +kernel
theorem dX9_lowestUpper_5 : decode cX9_lowestUpper 5 = .ok (.aload_n 0, 1) := by decide +kernel
theorem dX9_lowestUpper_6 : decode cX9_lowestUpper 6 = .ok (.getfield 9, 3) := by decide +kernel
theorem dX9_lowestUpper_9 : decode cX9_lowestUpper 9 = .ok (.getfield 49, 3) := by decide +kernel
theorem dX9_lowestUpper_12 : decode cX9_lowestUpper 12 = .ok (.getfield 34, 3) := by decide +kernel
theorem dX9_lowestUpper_15 : decode cX9_lowestUpper 15 = .ok (.if_icmp .ge 30, 3) := by decide +kernel
theorem dX9_lowestUpper_18 : decode cX9_lowestUpper 18 = .ok (.aload_n 0, 1) := by decide +kernel
theorem dX9_lowestUpper_19 : decode cX9_lowestUpper 19 = .ok (.aload_n 0, 1) := by decide +kernel
theorem dX9_lowestUpper_20 : decode cX9_lowestUpper 20 = .ok (.iload_n 1, 1) := by decide +kernel
theorem dX9_lowestUpper_21 : decode cX9_lowestUpper 21 = .ok (.invokevirtual 60, 3) := by decide +kernel
theorem dX9_lowestUpper_24 : decode cX9_lowestUpper 24 = .ok (.iload_n 1, 1) := by decide +kernel
theorem dX9_lowestUpper_25 : decode cX9_lowestUpper 25 = .ok (.aload_n 0, 1) := by decide +kernel
theorem dX9_lowestUpper_26 : decode cX9_lowestUpper 26 = .ok (.iload_n 2, 1) := by decide +kernel
theorem dX9_lowestUpper_27 : decode cX9_lowestUpper 27 = .ok (.invokevirtual 60, 3) := by decide +kernel
theorem dX9_lowestUpper_30 : decode cX9_lowestUpper 30 = .ok (.iload_n 2, 1) := by decide +kernel
theorem dX9_lowestUpper_31 : decode cX9_lowestUpper 31 = .ok (.invokevirtual 56, 3) := by decide +kernel
theorem dX9_lowestUpper_34 : decode cX9_lowestUpper 34 = .ok (.ifCond .eq 5, 3) := by decide +kernel
theorem dX9_lowestUpper_37 : decode cX9_lowestUpper 37 = .ok (.iload_n 2, 1) := by decide +kernel
theorem dX9_lowestUpper_38 : decode cX9_lowestUpper 38 = .ok (.istore_n 1, 1) := by decide +kernel
theorem dX9_lowestUpper_39 : decode cX9_lowestUpper 39 = .ok (.iinc 2 1, 3) := by decide +kernel
theorem dX9_lowestUpper_42 : decode cX9_lowestUpper 42 = .ok (.goto (-38), 3) := by decide +kernel
theorem dX9_lowestUpper_45 : decode cX9_lowestUpper 45 = .ok (.iload_n 1, 1) := by decide +kernel
theorem dX9_lowestUpper_46 : decode cX9_lowestUpper 46 = .ok (.ireturn, 1) := by decide +kernel
theorem dX9_stonesMeet_0 : decode cX9_stonesMeet 0 = .ok (.aload_n 0, 1) := by decide +kernel
theorem dX9_stonesMeet_1 : decode cX9_stonesMeet 1 = .ok (.invokevirtual 63, 3) := by decide +kernel
theorem dX9_stonesMeet_4 : decode cX9_stonesMeet 4 = .ok (.istore_n 1, 1) := by decide +kernel
theorem dX9_stonesMeet_5 : decode cX9_stonesMeet 5 = .ok (.aload_n 0, 1) := by decide +kernel
theorem dX9_stonesMeet_6 : decode cX9_stonesMeet 6 = .ok (.invokevirtual 67, 3) := by decide +kernel
theorem dX9_stonesMeet_9 : decode cX9_stonesMeet 9 = .ok (.istore_n 2, 1) := by decide +kernel
theorem dX9_stonesMeet_10 : decode cX9_stonesMeet 10 = .ok (.aload_n 0, 1) := by decide +kernel
theorem dX9_stonesMeet_11 : decode cX9_stonesMeet 11 = .ok (.getfield 9, 3) := by decide +kernel
theorem dX9_stonesMeet_14 : decode cX9_stonesMeet 14 = .ok (.getfield 49, 3) := by decide +kernel
theorem dX9_stonesMeet_17 : decode cX9_stonesMeet 17 = .ok (.getfield 34, 3) := by decide +kernel
theorem dX9_stonesMeet_20 : decode cX9_stonesMeet 20 = .ok (.ifCond .le 26, 3) := by decide +kernel
theorem dX9_stonesMeet_23 : decode cX9_stonesMeet 23 = .ok (.aload_n 0, 1) := by decide +kernel
theorem dX9_stonesMeet_24 : decode cX9_stonesMeet 24 = .ok (.aload_n 0, 1) := by decide +kernel
theorem dX9_stonesMeet_25 : decode cX9_stonesMeet 25 = .ok (.iload_n 1, 1) := by decide +kernel
theorem dX9_stonesMeet_26 : decode cX9_stonesMeet 26 = .ok (.invokevirtual 52, 3) := by decide +kernel
theorem dX9_stonesMeet_29 : decode cX9_stonesMeet 29 = .ok (.iload_n 1, 1) := by decide +kernel
theorem dX9_stonesMeet_30 : decode cX9_stonesMeet 30 = .ok (.aload_n 0, 1) := by decide +kernel
theorem dX9_stonesMeet_31 : decode cX9_stonesMeet 31 = .ok (.iload_n 2, 1) := by decide +kernel
theorem dX9_stonesMeet_32 : decode cX9_stonesMeet 32 = .ok (.invokevirtual 60, 3) := by decide +kernel
theorem dX9_stonesMeet_35 : decode cX9_stonesMeet 35 = .ok (.iload_n 2, 1) := by decide +kernel
theorem dX9_stonesMeet_36 : decode cX9_stonesMeet 36 = .ok (.invokevirtual 56, 3) := by decide +kernel
theorem dX9_stonesMeet_39 : decode cX9_stonesMeet 39 = .ok (.ifCond .ne 7, 3) := by decide +kernel
theorem dX9_stonesMeet_42 : decode cX9_stonesMeet 42 = .ok (.iconst 1, 1) := by decide +kernel
theorem dX9_stonesMeet_43 : decode cX9_stonesMeet 43 = .ok (.goto 4, 3) := by decide +kernel
theorem dX9_stonesMeet_46 : decode cX9_stonesMeet 46 = .ok (.iconst 0, 1) := by decide +kernel
theorem dX9_stonesMeet_47 : decode cX9_stonesMeet 47 = .ok (.ireturn, 1) := by decide +kernel
theorem dX9_isAbove_0 : decode cX9_isAbove 0 = .ok (.lload_n 1, 1) := by decide +kernel
theorem dX9_isAbove_1 : decode cX9_isAbove 1 = .ok (.aload_n 0, 1) := by decide +kernel
theorem dX9_isAbove_2 : decode cX9_isAbove 2 = .ok (.getfield 9, 3) := by decide +kernel
theorem dX9_isAbove_5 : decode cX9_isAbove 5 = .ok (.getfield 49, 3) := by decide +kernel
theorem dX9_isAbove_8 : decode cX9_isAbove 8 = .ok (.iload 6, 2) := by decide +kernel
theorem dX9_isAbove_10 : decode cX9_isAbove 10 = .ok (.iconst 0, 1) := by decide +kernel
theorem dX9_isAbove_11 : decode cX9_isAbove 11 = .ok (.invokevirtual 25, 3) := by decide +kernel
theorem dX9_isAbove_14 : decode cX9_isAbove 14 = .ok (.i2l, 1) := by decide +kernel
theorem dX9_isAbove_15 : decode cX9_isAbove 15 = .ok (.lmul, 1) := by decide +kernel
theorem dX9_isAbove_16 : decode cX9_isAbove 16 = .ok (.lload 4, 2) := by decide +kernel
theorem dX9_isAbove_18 : decode cX9_isAbove 18 = .ok (.aload_n 0, 1) := by decide +kernel
theorem dX9_isAbove_19 : decode cX9_isAbove 19 = .ok (.getfield 9, 3) := by decide +kernel
theorem dX9_isAbove_22 : decode cX9_isAbove 22 = .ok (.getfield 49, 3) := by decide +kernel
theorem dX9_isAbove_25 : decode cX9_isAbove 25 = .ok (.iload_n 3, 1) := by decide +kernel
theorem dX9_isAbove_26 : decode cX9_isAbove 26 = .ok (.iconst 0, 1) := by decide +kernel
theorem dX9_isAbove_27 : decode cX9_isAbove 27 = .ok (.invokevirtual 25, 3) := by decide +kernel
theorem dX9_isAbove_30 : decode cX9_isAbove 30 = .ok (.i2l, 1) := by decide +kernel
theorem dX9_isAbove_31 : decode cX9_isAbove 31 = .ok (.lmul, 1) := by decide +kernel
theorem dX9_isAbove_32 : decode cX9_isAbove 32 = .ok (.lcmp, 1) := by decide +kernel
theorem dX9_isAbove_33 : decode cX9_isAbove 33 = .ok (.ifCond .le 7, 3) := by decide +kernel
theorem dX9_isAbove_36 : decode cX9_isAbove 36 = .ok (.iconst 1, 1) := by decide +kernel
theorem dX9_isAbove_37 : decode cX9_isAbove 37 = .ok (.goto 4, 3) := by decide +kernel
theorem dX9_isAbove_40 : decode cX9_isAbove 40 = .ok (.iconst 0, 1) := by decide +kernel
theorem dX9_isAbove_41 : decode cX9_isAbove 41 = .ok (.ireturn, 1) := by decide +kernel
theorem dX10_init_0 : decode cX10_init 0 = .ok (.aload_n 0, 1) := by decide +kernel
theorem dX10_init_1 : decode cX10_init 1 = .ok (.invokespecial 3, 3) := by decide +kernel
theorem dX10_init_4 : decode cX10_init 4 = .ok (.aload_n 0, 1) := by decide +kernel
theorem dX10_init_5 : decode cX10_init 5 = .ok (.bipush 9, 2) := by decide +kernel
theorem dX10_init_7 : decode cX10_init 7 = .ok (.newarray .int, 2) := by decide +kernel
theorem dX10_init_9 : decode cX10_init 9 = .ok (.putfield 9, 3) := by decide +kernel
theorem dX10_init_12 : decode cX10_init 12 = .ok (.aload_n 0, 1) := by decide +kernel
theorem dX10_init_13 : decode cX10_init 13 = .ok (.bipush 9, 2) := by decide +kernel
theorem dX10_init_15 : decode cX10_init 15 = .ok (.newarray .int, 2) := by decide +kernel
theorem dX10_init_17 : decode cX10_init 17 = .ok (.putfield 15, 3) := by decide +kernel
theorem dX10_init_20 : decode cX10_init 20 = .ok (.aload_n 0, 1) := by decide +kernel
theorem dX10_init_21 : decode cX10_init 21 = .ok (.sipush 512, 3) := by decide +kernel
theorem dX10_init_24 : decode cX10_init 24 = .ok (.newarray .int, 2) := by decide +kernel
theorem dX10_init_26 : decode cX10_init 26 = .ok (.putfield 18, 3) := by decide +kernel
theorem dX10_init_29 : decode cX10_init 29 = .ok (.aload_n 0, 1) := by decide +kernel
theorem dX10_init_30 : decode cX10_init 30 = .ok (.aload_n 1, 1) := by decide +kernel
theorem dX10_init_31 : decode cX10_init 31 = .ok (.putfield 21, 3) := by decide +kernel
theorem dX10_init_34 : decode cX10_init 34 = .ok (.return_, 1) := by decide +kernel
theorem dX10_know_0 : decode cX10_know 0 = .ok (.aload_n 0, 1) := by decide +kernel
theorem dX10_know_1 : decode cX10_know 1 = .ok (.getfield 9, 3) := by decide +kernel
theorem dX10_know_4 : decode cX10_know 4 = .ok (.iconst 0, 1) := by decide +kernel
theorem dX10_know_5 : decode cX10_know 5 = .ok (.invokestatic 25, 3) := by decide +kernel
theorem dX10_know_8 : decode cX10_know 8 = .ok (.iconst 0, 1) := by decide +kernel
theorem dX10_know_9 : decode cX10_know 9 = .ok (.istore_n 2, 1) := by decide +kernel
theorem dX10_know_10 : decode cX10_know 10 = .ok (.iload_n 2, 1) := by decide +kernel
theorem dX10_know_11 : decode cX10_know 11 = .ok (.aload_n 0, 1) := by decide +kernel
theorem dX10_know_12 : decode cX10_know 12 = .ok (.getfield 21, 3) := by decide +kernel
theorem dX10_know_15 : decode cX10_know 15 = .ok (.getfield 31, 3) := by decide +kernel
theorem dX10_know_18 : decode cX10_know 18 = .ok (.getfield 37, 3) := by decide +kernel
theorem dX10_know_21 : decode cX10_know 21 = .ok (.if_icmp .ge 74, 3) := by decide +kernel
theorem dX10_know_24 : decode cX10_know 24 = .ok (.aload_n 0, 1) := by decide +kernel
theorem dX10_know_25 : decode cX10_know 25 = .ok (.getfield 21, 3) := by decide +kernel
theorem dX10_know_28 : decode cX10_know 28 = .ok (.getfield 31, 3) := by decide +kernel
theorem dX10_know_31 : decode cX10_know 31 = .ok (.iload_n 2, 1) := by decide +kernel
theorem dX10_know_32 : decode cX10_know 32 = .ok (.iconst 1, 1) := by decide +kernel
theorem dX10_know_33 : decode cX10_know 33 = .ok (.invokevirtual 43, 3) := by decide +kernel
theorem dX10_know_36 : decode cX10_know 36 = .ok (.istore_n 3, 1) := by decide +kernel
theorem dX10_know_37 : decode cX10_know 37 = .ok (.aload_n 0, 1) := by decide +kernel
theorem dX10_know_38 : decode cX10_know 38 = .ok (.getfield 21, 3) := by decide +kernel
theorem dX10_know_41 : decode cX10_know 41 = .ok (.getfield 31, 3) := by decide +kernel
theorem dX10_know_44 : decode cX10_know 44 = .ok (.iload_n 2, 1) := by decide +kernel
theorem dX10_know_45 : decode cX10_know 45 = .ok (.iconst 2, 1) := by decide +kernel
theorem dX10_know_46 : decode cX10_know 46 = .ok (.invokevirtual 43, 3) := by decide +kernel
theorem dX10_know_49 : decode cX10_know 49 = .ok (.iload_n 1, 1) := by decide +kernel
theorem dX10_know_50 : decode cX10_know 50 = .ok (.if_icmp .gt 39, 3) := by decide +kernel
theorem dX10_know_53 : decode cX10_know 53 = .ok (.iload_n 3, 1) := by decide +kernel
theorem dX10_know_54 : decode cX10_know 54 = .ok (.ifCond .lt 35, 3) := by decide +kernel
theorem dX10_know_57 : decode cX10_know 57 = .ok (.iload_n 3, 1) := by decide +kernel
theorem dX10_know_58 : decode cX10_know 58 = .ok (.aload_n 0, 1) := by decide +kernel
theorem dX10_know_59 : decode cX10_know 59 = .ok (.getfield 9, 3) := by decide +kernel
theorem dX10_know_62 : decode cX10_know 62 = .ok (.arraylength, 1) := by decide +kernel
theorem dX10_know_63 : decode cX10_know 63 = .ok (.if_icmp .ge 26, 3) := by decide +kernel
theorem dX10_know_66 : decode cX10_know 66 = .ok (.aload_n 0, 1) := by decide +kernel
theorem dX10_know_67 : decode cX10_know 67 = .ok (.getfield 9, 3) := by decide +kernel
theorem dX10_know_70 : decode cX10_know 70 = .ok (.iload_n 3, 1) := by decide +kernel
theorem dX10_know_71 : decode cX10_know 71 = .ok (.dup2, 1) := by decide +kernel
theorem dX10_know_72 : decode cX10_know 72 = .ok (.iaload, 1) := by decide +kernel
theorem dX10_know_73 : decode cX10_know 73 = .ok (.iconst 1, 1) := by decide +kernel
theorem dX10_know_74 : decode cX10_know 74 = .ok (.aload_n 0, 1) := by decide +kernel
theorem dX10_know_75 : decode cX10_know 75 = .ok (.getfield 21, 3) := by decide +kernel
theorem dX10_know_78 : decode cX10_know 78 = .ok (.getfield 31, 3) := by decide +kernel
theorem dX10_know_81 : decode cX10_know 81 = .ok (.iload_n 2, 1) := by decide +kernel
theorem dX10_know_82 : decode cX10_know 82 = .ok (.iconst 0, 1) := by decide +kernel
theorem dX10_know_83 : decode cX10_know 83 = .ok (.invokevirtual 43, 3) := by decide +kernel
theorem dX10_know_86 : decode cX10_know 86 = .ok (.ishl, 1) := by decide +kernel
theorem dX10_know_87 : decode cX10_know 87 = .ok (.ior, 1) := by decide +kernel
theorem dX10_know_88 : decode cX10_know 88 = .ok (.iastore, 1) := by decide +kernel
theorem dX10_know_89 : decode cX10_know 89 = .ok (.iinc 2 1, 3) := by decide +kernel
theorem dX10_know_92 : decode cX10_know 92 = .ok (.goto (-82), 3) := by decide +kernel
theorem dX10_know_95 : decode cX10_know 95 = .ok (.iconst 0, 1) := by decide +kernel
theorem dX10_know_96 : decode cX10_know 96 = .ok (.istore_n 2, 1) := by decide +kernel
theorem dX10_know_97 : decode cX10_know 97 = .ok (.iload_n 2, 1) := by decide +kernel
theorem dX10_know_98 : decode cX10_know 98 = .ok (.aload_n 0, 1) := by decide +kernel
theorem dX10_know_99 : decode cX10_know 99 = .ok (.getfield 9, 3) := by decide +kernel
theorem dX10_know_102 : decode cX10_know 102 = .ok (.arraylength, 1) := by decide +kernel
theorem dX10_know_103 : decode cX10_know 103 = .ok (.if_icmp .ge 55, 3) := by decide +kernel
theorem dX10_know_106 : decode cX10_know 106 = .ok (.iconst 0, 1) := by decide +kernel
theorem dX10_know_107 : decode cX10_know 107 = .ok (.istore_n 3, 1) := by decide +kernel
theorem dX10_know_108 : decode cX10_know 108 = .ok (.iload_n 3, 1) := by decide +kernel
theorem dX10_know_109 : decode cX10_know 109 = .ok (.aload_n 0, 1) := by decide +kernel
theorem dX10_know_110 : decode cX10_know 110 = .ok (.getfield 9, 3) := by decide +kernel
theorem dX10_know_113 : decode cX10_know 113 = .ok (.arraylength, 1) := by decide +kernel
theorem dX10_know_114 : decode cX10_know 114 = .ok (.if_icmp .ge 38, 3) := by decide +kernel
theorem dX10_know_117 : decode cX10_know 117 = .ok (.aload_n 0, 1) := by decide +kernel
theorem dX10_know_118 : decode cX10_know 118 = .ok (.getfield 9, 3) := by decide +kernel
theorem dX10_know_121 : decode cX10_know 121 = .ok (.iload_n 3, 1) := by decide +kernel
theorem dX10_know_122 : decode cX10_know 122 = .ok (.iaload, 1) := by decide +kernel
theorem dX10_know_123 : decode cX10_know 123 = .ok (.iload_n 2, 1) := by decide +kernel
theorem dX10_know_124 : decode cX10_know 124 = .ok (.ishr, 1) := by decide +kernel
theorem dX10_know_125 : decode cX10_know 125 = .ok (.iconst 1, 1) := by decide +kernel
theorem dX10_know_126 : decode cX10_know 126 = .ok (.iand, 1) := by decide +kernel
theorem dX10_know_127 : decode cX10_know 127 = .ok (.iconst 1, 1) := by decide +kernel
theorem dX10_know_128 : decode cX10_know 128 = .ok (.if_icmp .ne 18, 3) := by decide +kernel
theorem dX10_know_131 : decode cX10_know 131 = .ok (.aload_n 0, 1) := by decide +kernel
theorem dX10_know_132 : decode cX10_know 132 = .ok (.getfield 9, 3) := by decide +kernel
theorem dX10_know_135 : decode cX10_know 135 = .ok (.iload_n 3, 1) := by decide +kernel
theorem dX10_know_136 : decode cX10_know 136 = .ok (.dup2, 1) := by decide +kernel
theorem dX10_know_137 : decode cX10_know 137 = .ok (.iaload, 1) := by decide +kernel
theorem dX10_know_138 : decode cX10_know 138 = .ok (.aload_n 0, 1) := by decide +kernel
theorem dX10_know_139 : decode cX10_know 139 = .ok (.getfield 9, 3) := by decide +kernel
theorem dX10_know_142 : decode cX10_know 142 = .ok (.iload_n 2, 1) := by decide +kernel
theorem dX10_know_143 : decode cX10_know 143 = .ok (.iaload, 1) := by decide +kernel
theorem dX10_know_144 : decode cX10_know 144 = .ok (.ior, 1) := by decide +kernel
theorem dX10_know_145 : decode cX10_know 145 = .ok (.iastore, 1) := by decide +kernel
theorem dX10_know_146 : decode cX10_know 146 = .ok (.iinc 3 1, 3) := by decide +kernel
theorem dX10_know_149 : decode cX10_know 149 = .ok (.goto (-41), 3) := by decide +kernel
theorem dX10_know_152 : decode cX10_know 152 = .ok (.iinc 2 1, 3) := by decide +kernel
theorem dX10_know_155 : decode cX10_know 155 = .ok (.goto (-58), 3) := by decide +kernel
theorem dX10_know_158 : decode cX10_know 158 = .ok (.return_, 1) := by decide +kernel
theorem dX10_countOrders_0 : decode cX10_countOrders 0 = .ok (.iconst 1, 1) := by decide +kernel
theorem dX10_countOrders_1 : decode cX10_countOrders 1 = .ok (.aload_n 0, 1) := by decide +kernel
theorem dX10_countOrders_2 : decode cX10_countOrders 2 = .ok (.getfield 21, 3) := by decide +kernel
theorem dX10_countOrders_5 : decode cX10_countOrders 5 = .ok (.getfield 47, 3) := by decide +kernel
theorem dX10_countOrders_8 : decode cX10_countOrders 8 = .ok (.ishl, 1) := by decide +kernel
theorem dX10_countOrders_9 : decode cX10_countOrders 9 = .ok (.aload_n 0, 1) := by decide +kernel
theorem dX10_countOrders_10 : decode cX10_countOrders 10 = .ok (.getfield 18, 3) := by decide +kernel
theorem dX10_countOrders_13 : decode cX10_countOrders 13 = .ok (.arraylength, 1) := by decide +kernel
theorem dX10_countOrders_14 : decode cX10_countOrders 14 = .ok (.invokestatic 50, 3) := by decide +kernel
theorem dX10_countOrders_17 : decode cX10_countOrders 17 = .ok (.istore_n 1, 1) := by decide +kernel
theorem dX10_countOrders_18 : decode cX10_countOrders 18 = .ok (.iconst 0, 1) := by decide +kernel
theorem dX10_countOrders_19 : decode cX10_countOrders 19 = .ok (.istore_n 2, 1) := by decide +kernel
theorem dX10_countOrders_20 : decode cX10_countOrders 20 = .ok (.iload_n 2, 1) := by decide +kernel
theorem dX10_countOrders_21 : decode cX10_countOrders 21 = .ok (.iload_n 1, 1) := by decide +kernel
theorem dX10_countOrders_22 : decode cX10_countOrders 22 = .ok (.if_icmp .ge 99, 3) := by decide +kernel
theorem dX10_countOrders_25 : decode cX10_countOrders 25 = .ok (.iload_n 2, 1) := by decide +kernel
theorem dX10_countOrders_26 : decode cX10_countOrders 26 = .ok (.ifCond .ne 7, 3) := by decide +kernel
theorem dX10_countOrders_29 : decode cX10_countOrders 29 = .ok (.iconst 1, 1) := by decide +kernel
theorem dX10_countOrders_30 : decode cX10_countOrders 30 = .ok (.goto 4, 3) := by decide +kernel
theorem dX10_countOrders_33 : decode cX10_countOrders 33 = .ok (.iconst 0, 1) := by decide +kernel
theorem dX10_countOrders_34 : decode cX10_countOrders 34 = .ok (.istore_n 3, 1) := by decide +kernel
theorem dX10_countOrders_35 : decode cX10_countOrders 35 = .ok (.iconst 0, 1) := by decide +kernel
theorem dX10_countOrders_36 : decode cX10_countOrders 36 = .ok (.istore 4, 2) := by decide +kernel
theorem dX10_countOrders_38 : decode cX10_countOrders 38 = .ok (.iload 4, 2) := by decide +kernel
theorem dX10_countOrders_40 : decode cX10_countOrders 40 = .ok (.aload_n 0, 1) := by decide +kernel
theorem dX10_countOrders_41 : decode cX10_countOrders 41 = .ok (.getfield 21, 3) := by decide +kernel
theorem dX10_countOrders_44 : decode cX10_countOrders 44 = .ok (.getfield 47, 3) := by decide +kernel
theorem dX10_countOrders_47 : decode cX10_countOrders 47 = .ok (.if_icmp .ge 61, 3) := by decide +kernel
theorem dX10_countOrders_50 : decode cX10_countOrders 50 = .ok (.iload_n 2, 1) := by decide +kernel
theorem dX10_countOrders_51 : decode cX10_countOrders 51 = .ok (.iconst 1, 1) := by decide +kernel
theorem dX10_countOrders_52 : decode cX10_countOrders 52 = .ok (.iload 4, 2) := by decide +kernel
theorem dX10_countOrders_54 : decode cX10_countOrders 54 = .ok (.ishl, 1) := by decide +kernel
theorem dX10_countOrders_55 : decode cX10_countOrders 55 = .ok (.iconst (-1), 1) := by decide +kernel
theorem dX10_countOrders_56 : decode cX10_countOrders 56 = .ok (.ixor, 1) := by decide +kernel
theorem dX10_countOrders_57 : decode cX10_countOrders 57 = .ok (.iand, 1) := by decide +kernel
theorem dX10_countOrders_58 : decode cX10_countOrders 58 = .ok (.istore 5, 2) := by decide +kernel
theorem dX10_countOrders_60 : decode cX10_countOrders 60 = .ok (.iload 5, 2) := by decide +kernel
theorem dX10_countOrders_62 : decode cX10_countOrders 62 = .ok (.iload_n 2, 1) := by decide +kernel
theorem dX10_countOrders_63 : decode cX10_countOrders 63 = .ok (.if_icmp .eq 39, 3) := by decide +kernel
theorem dX10_countOrders_66 : decode cX10_countOrders 66 = .ok (.iload 5, 2) := by decide +kernel
theorem dX10_countOrders_68 : decode cX10_countOrders 68 = .ok (.ifCond .lt 34, 3) := by decide +kernel
theorem dX10_countOrders_71 : decode cX10_countOrders 71 = .ok (.iload 5, 2) := by decide +kernel
theorem dX10_countOrders_73 : decode cX10_countOrders 73 = .ok (.aload_n 0, 1) := by decide +kernel
theorem dX10_countOrders_74 : decode cX10_countOrders 74 = .ok (.getfield 18, 3) := by decide +kernel
theorem dX10_countOrders_77 : decode cX10_countOrders 77 = .ok (.arraylength, 1) := by decide +kernel
theorem dX10_countOrders_78 : decode cX10_countOrders 78 = .ok (.if_icmp .ge 24, 3) := by decide +kernel
theorem dX10_countOrders_81 : decode cX10_countOrders 81 = .ok (.aload_n 0, 1) := by decide +kernel
theorem dX10_countOrders_82 : decode cX10_countOrders 82 = .ok (.iload 4, 2) := by decide +kernel
theorem dX10_countOrders_84 : decode cX10_countOrders 84 = .ok (.iload 5, 2) := by decide +kernel
theorem dX10_countOrders_86 : decode cX10_countOrders 86 = .ok (.invokevirtual 55, 3) := by decide +kernel
theorem dX10_countOrders_89 : decode cX10_countOrders 89 = .ok (.ifCond .eq 13, 3) := by decide +kernel
theorem dX10_countOrders_92 : decode cX10_countOrders 92 = .ok (.iload_n 3, 1) := by decide +kernel
theorem dX10_countOrders_93 : decode cX10_countOrders 93 = .ok (.aload_n 0, 1) := by decide +kernel
theorem dX10_countOrders_94 : decode cX10_countOrders 94 = .ok (.getfield 18, 3) := by decide +kernel
theorem dX10_countOrders_97 : decode cX10_countOrders 97 = .ok (.iload 5, 2) := by decide +kernel
theorem dX10_countOrders_99 : decode cX10_countOrders 99 = .ok (.iaload, 1) := by decide +kernel
theorem dX10_countOrders_100 : decode cX10_countOrders 100 = .ok (.iadd, 1) := by decide +kernel
theorem dX10_countOrders_101 : decode cX10_countOrders 101 = .ok (.istore_n 3, 1) := by decide +kernel
theorem dX10_countOrders_102 : decode cX10_countOrders 102 = .ok (.iinc 4 1, 3) := by decide +kernel
theorem dX10_countOrders_105 : decode cX10_countOrders 105 = .ok (.goto (-67), 3) := by decide +kernel
theorem dX10_countOrders_108 : decode cX10_countOrders 108 = .ok (.aload_n 0, 1) := by decide +kernel
theorem dX10_countOrders_109 : decode cX10_countOrders 109 = .ok (.getfield 18, 3) := by decide +kernel
theorem dX10_countOrders_112 : decode cX10_countOrders 112 = .ok (.iload_n 2, 1) := by decide +kernel
theorem dX10_countOrders_113 : decode cX10_countOrders 113 = .ok (.iload_n 3, 1) := by decide +kernel
theorem dX10_countOrders_114 : decode cX10_countOrders 114 = .ok (.iastore, 1) := by decide +kernel
theorem dX10_countOrders_115 : decode cX10_countOrders 115 = .ok (.iinc 2 1, 3) := by decide +kernel
theorem dX10_countOrders_118 : decode cX10_countOrders 118 = .ok (.goto (-98), 3) := by decide +kernel
theorem dX10_countOrders_121 : decode cX10_countOrders 121 = .ok (.iload_n 1, 1) := by decide +kernel
theorem dX10_countOrders_122 : decode cX10_countOrders 122 = .ok (.ifCond .le 23, 3) := by decide +kernel
theorem dX10_countOrders_125 : decode cX10_countOrders 125 = .ok (.iload_n 1, 1) := by decide +kernel
theorem dX10_countOrders_126 : decode cX10_countOrders 126 = .ok (.aload_n 0, 1) := by decide +kernel
theorem dX10_countOrders_127 : decode cX10_countOrders 127 = .ok (.getfield 18, 3) := by decide +kernel
theorem dX10_countOrders_130 : decode cX10_countOrders 130 = .ok (.arraylength, 1) := by decide +kernel
theorem dX10_countOrders_131 : decode cX10_countOrders 131 = .ok (.if_icmp .gt 14, 3) := by decide +kernel
theorem dX10_countOrders_134 : decode cX10_countOrders 134 = .ok (.aload_n 0, 1) := by decide +kernel
theorem dX10_countOrders_135 : decode cX10_countOrders 135 = .ok (.getfield 18, 3) := by decide +kernel
theorem dX10_countOrders_138 : decode cX10_countOrders 138 = .ok (.iload_n 1, 1) := by decide +kernel
theorem dX10_countOrders_139 : decode cX10_countOrders 139 = .ok (.iconst 1, 1) := by decide +kernel
theorem dX10_countOrders_140 : decode cX10_countOrders 140 = .ok (.isub, 1) := by decide +kernel
theorem dX10_countOrders_141 : decode cX10_countOrders 141 = .ok (.iaload, 1) := by decide +kernel
theorem dX10_countOrders_142 : decode cX10_countOrders 142 = .ok (.goto 4, 3) := by decide +kernel
theorem dX10_countOrders_145 : decode cX10_countOrders 145 = .ok (.iconst 0, 1) := by decide +kernel
theorem dX10_countOrders_146 : decode cX10_countOrders 146 = .ok (.ireturn, 1) := by decide +kernel
theorem dX10_isNext_0 : decode cX10_isNext 0 = .ok (.iload_n 1, 1) := by decide +kernel
theorem dX10_isNext_1 : decode cX10_isNext 1 = .ok (.ifCond .lt 29, 3) := by decide +kernel
theorem dX10_isNext_4 : decode cX10_isNext 4 = .ok (.iload_n 1, 1) := by decide +kernel
theorem dX10_isNext_5 : decode cX10_isNext 5 = .ok (.aload_n 0, 1) := by decide +kernel
theorem dX10_isNext_6 : decode cX10_isNext 6 = .ok (.getfield 9, 3) := by decide +kernel
theorem dX10_isNext_9 : decode cX10_isNext 9 = .ok (.arraylength, 1) := by decide +kernel
theorem dX10_isNext_10 : decode cX10_isNext 10 = .ok (.if_icmp .ge 20, 3) := by decide +kernel
theorem dX10_isNext_13 : decode cX10_isNext 13 = .ok (.aload_n 0, 1) := by decide +kernel
theorem dX10_isNext_14 : decode cX10_isNext 14 = .ok (.getfield 9, 3) := by decide +kernel
theorem dX10_isNext_17 : decode cX10_isNext 17 = .ok (.iload_n 1, 1) := by decide +kernel
theorem dX10_isNext_18 : decode cX10_isNext 18 = .ok (.iaload, 1) := by decide +kernel
theorem dX10_isNext_19 : decode cX10_isNext 19 = .ok (.iload_n 2, 1) := by decide +kernel
theorem dX10_isNext_20 : decode cX10_isNext 20 = .ok (.iconst (-1), 1) := by decide +kernel
theorem dX10_isNext_21 : decode cX10_isNext 21 = .ok (.ixor, 1) := by decide +kernel
theorem dX10_isNext_22 : decode cX10_isNext 22 = .ok (.iand, 1) := by decide +kernel
theorem dX10_isNext_23 : decode cX10_isNext 23 = .ok (.ifCond .ne 7, 3) := by decide +kernel
theorem dX10_isNext_26 : decode cX10_isNext 26 = .ok (.iconst 1, 1) := by decide +kernel
theorem dX10_isNext_27 : decode cX10_isNext 27 = .ok (.goto 4, 3) := by decide +kernel
theorem dX10_isNext_30 : decode cX10_isNext 30 = .ok (.iconst 0, 1) := by decide +kernel
theorem dX10_isNext_31 : decode cX10_isNext 31 = .ok (.ireturn, 1) := by decide +kernel
theorem dX10_layFirstOrder_0 : decode cX10_layFirstOrder 0 = .ok (.iconst 0, 1) := by decide +kernel
theorem dX10_layFirstOrder_1 : decode cX10_layFirstOrder 1 = .ok (.istore_n 1, 1) := by decide +kernel
theorem dX10_layFirstOrder_2 : decode cX10_layFirstOrder 2 = .ok (.iconst 0, 1) := by decide +kernel
theorem dX10_layFirstOrder_3 : decode cX10_layFirstOrder 3 = .ok (.istore_n 2, 1) := by decide +kernel
theorem dX10_layFirstOrder_4 : decode cX10_layFirstOrder 4 = .ok (.iload_n 2, 1) := by decide +kernel
theorem dX10_layFirstOrder_5 : decode cX10_layFirstOrder 5 = .ok (.aload_n 0, 1) := by decide +kernel
theorem dX10_layFirstOrder_6 : decode cX10_layFirstOrder 6 = .ok (.getfield 21, 3) := by decide +kernel
theorem dX10_layFirstOrder_9 : decode cX10_layFirstOrder 9 = .ok (.getfield 47, 3) := by decide +kernel
theorem dX10_layFirstOrder_12 : decode cX10_layFirstOrder 12 = .ok (.if_icmp .ge 44, 3) := by decide +kernel
theorem dX10_layFirstOrder_15 : decode cX10_layFirstOrder 15 = .ok (.iload_n 2, 1) := by decide +kernel
theorem dX10_layFirstOrder_16 : decode cX10_layFirstOrder 16 = .ok (.aload_n 0, 1) := by decide +kernel
theorem dX10_layFirstOrder_17 : decode cX10_layFirstOrder 17 = .ok (.getfield 15, 3) := by decide +kernel
theorem dX10_layFirstOrder_20 : decode cX10_layFirstOrder 20 = .ok (.arraylength, 1) := by decide +kernel
theorem dX10_layFirstOrder_21 : decode cX10_layFirstOrder 21 = .ok (.if_icmp .ge 35, 3) := by decide +kernel
theorem dX10_layFirstOrder_24 : decode cX10_layFirstOrder 24 = .ok (.aload_n 0, 1) := by decide +kernel
theorem dX10_layFirstOrder_25 : decode cX10_layFirstOrder 25 = .ok (.iload_n 1, 1) := by decide +kernel
theorem dX10_layFirstOrder_26 : decode cX10_layFirstOrder 26 = .ok (.invokevirtual 59, 3) := by decide +kernel
theorem dX10_layFirstOrder_29 : decode cX10_layFirstOrder 29 = .ok (.istore_n 3, 1) := by decide +kernel
theorem dX10_layFirstOrder_30 : decode cX10_layFirstOrder 30 = .ok (.iload_n 3, 1) := by decide +kernel
theorem dX10_layFirstOrder_31 : decode cX10_layFirstOrder 31 = .ok (.iconst (-1), 1) := by decide +kernel
theorem dX10_layFirstOrder_32 : decode cX10_layFirstOrder 32 = .ok (.if_icmp .ne 5, 3) := by decide +kernel
theorem dX10_layFirstOrder_35 : decode cX10_layFirstOrder 35 = .ok (.iconst 0, 1) := by decide +kernel
theorem dX10_layFirstOrder_36 : decode cX10_layFirstOrder 36 = .ok (.ireturn, 1) := by decide +kernel
theorem dX10_layFirstOrder_37 : decode cX10_layFirstOrder 37 = .ok (.aload_n 0, 1) := by decide +kernel
theorem dX10_layFirstOrder_38 : decode cX10_layFirstOrder 38 = .ok (.getfield 15, 3) := by decide +kernel
theorem dX10_layFirstOrder_41 : decode cX10_layFirstOrder 41 = .ok (.iload_n 2, 1) := by decide +kernel
theorem dX10_layFirstOrder_42 : decode cX10_layFirstOrder 42 = .ok (.iload_n 3, 1) := by decide +kernel
theorem dX10_layFirstOrder_43 : decode cX10_layFirstOrder 43 = .ok (.iastore, 1) := by decide +kernel
theorem dX10_layFirstOrder_44 : decode cX10_layFirstOrder 44 = .ok (.iload_n 1, 1) := by decide +kernel
theorem dX10_layFirstOrder_45 : decode cX10_layFirstOrder 45 = .ok (.iconst 1, 1) := by decide +kernel
theorem dX10_layFirstOrder_46 : decode cX10_layFirstOrder 46 = .ok (.iload_n 3, 1) := by decide +kernel
theorem dX10_layFirstOrder_47 : decode cX10_layFirstOrder 47 = .ok (.ishl, 1) := by decide +kernel
theorem dX10_layFirstOrder_48 : decode cX10_layFirstOrder 48 = .ok (.ior, 1) := by decide +kernel
theorem dX10_layFirstOrder_49 : decode cX10_layFirstOrder 49 = .ok (.istore_n 1, 1) := by decide +kernel
theorem dX10_layFirstOrder_50 : decode cX10_layFirstOrder 50 = .ok (.iinc 2 1, 3) := by decide +kernel
theorem dX10_layFirstOrder_53 : decode cX10_layFirstOrder 53 = .ok (.goto (-49), 3) := by decide +kernel
theorem dX10_layFirstOrder_56 : decode cX10_layFirstOrder 56 = .ok (.iconst 1, 1) := by decide +kernel
theorem dX10_layFirstOrder_57 : decode cX10_layFirstOrder 57 = .ok (.ireturn, 1) := by decide +kernel
theorem dX10_firstNext_0 : decode cX10_firstNext 0 = .ok (.iconst 0, 1) := by decide +kernel
theorem dX10_firstNext_1 : decode cX10_firstNext 1 = .ok (.istore_n 2, 1) := by decide +kernel
theorem dX10_firstNext_2 : decode cX10_firstNext 2 = .ok (.iload_n 2, 1) := by decide +kernel
theorem dX10_firstNext_3 : decode cX10_firstNext 3 = .ok (.aload_n 0, 1) := by decide +kernel
theorem dX10_firstNext_4 : decode cX10_firstNext 4 = .ok (.getfield 21, 3) := by decide +kernel
theorem dX10_firstNext_7 : decode cX10_firstNext 7 = .ok (.getfield 47, 3) := by decide +kernel
theorem dX10_firstNext_10 : decode cX10_firstNext 10 = .ok (.if_icmp .ge 28, 3) := by decide +kernel
theorem dX10_firstNext_13 : decode cX10_firstNext 13 = .ok (.iload_n 1, 1) := by decide +kernel
theorem dX10_firstNext_14 : decode cX10_firstNext 14 = .ok (.iload_n 2, 1) := by decide +kernel
theorem dX10_firstNext_15 : decode cX10_firstNext 15 = .ok (.ishr, 1) := by decide +kernel
theorem dX10_firstNext_16 : decode cX10_firstNext 16 = .ok (.iconst 1, 1) := by decide +kernel
theorem dX10_firstNext_17 : decode cX10_firstNext 17 = .ok (.iand, 1) := by decide +kernel
theorem dX10_firstNext_18 : decode cX10_firstNext 18 = .ok (.ifCond .ne 14, 3) := by decide +kernel
theorem dX10_firstNext_21 : decode cX10_firstNext 21 = .ok (.aload_n 0, 1) := by decide +kernel
theorem dX10_firstNext_22 : decode cX10_firstNext 22 = .ok (.iload_n 2, 1) := by decide +kernel
theorem dX10_firstNext_23 : decode cX10_firstNext 23 = .ok (.iload_n 1, 1) := by decide +kernel
theorem dX10_firstNext_24 : decode cX10_firstNext 24 = .ok (.invokevirtual 55, 3) := by decide +kernel
theorem dX10_firstNext_27 : decode cX10_firstNext 27 = .ok (.ifCond .eq 5, 3) := by decide +kernel
theorem dX10_firstNext_30 : decode cX10_firstNext 30 = .ok (.iload_n 2, 1) := by decide +kernel
theorem dX10_firstNext_31 : decode cX10_firstNext 31 = .ok (.ireturn, 1) := by decide +kernel
theorem dX10_firstNext_32 : decode cX10_firstNext 32 = .ok (.iinc 2 1, 3) := by decide +kernel
theorem dX10_firstNext_35 : decode cX10_firstNext 35 = .ok (.goto (-33), 3) := by decide +kernel
theorem dX10_firstNext_38 : decode cX10_firstNext 38 = .ok (.iconst (-1), 1) := by decide +kernel
theorem dX10_firstNext_39 : decode cX10_firstNext 39 = .ok (.ireturn, 1) := by decide +kernel
theorem dX10_nameAt_0 : decode cX10_nameAt 0 = .ok (.iload_n 1, 1) := by decide +kernel
theorem dX10_nameAt_1 : decode cX10_nameAt 1 = .ok (.ifCond .lt 21, 3) := by decide +kernel
theorem dX10_nameAt_4 : decode cX10_nameAt 4 = .ok (.iload_n 1, 1) := by decide +kernel
theorem dX10_nameAt_5 : decode cX10_nameAt 5 = .ok (.aload_n 0, 1) := by decide +kernel
theorem dX10_nameAt_6 : decode cX10_nameAt 6 = .ok (.getfield 15, 3) := by decide +kernel
theorem dX10_nameAt_9 : decode cX10_nameAt 9 = .ok (.arraylength, 1) := by decide +kernel
theorem dX10_nameAt_10 : decode cX10_nameAt 10 = .ok (.if_icmp .ge 12, 3) := by decide +kernel
theorem dX10_nameAt_13 : decode cX10_nameAt 13 = .ok (.aload_n 0, 1) := by decide +kernel
theorem dX10_nameAt_14 : decode cX10_nameAt 14 = .ok (.getfield 15, 3) := by decide +kernel
theorem dX10_nameAt_17 : decode cX10_nameAt 17 = .ok (.iload_n 1, 1) := by decide +kernel
theorem dX10_nameAt_18 : decode cX10_nameAt 18 = .ok (.iaload, 1) := by decide +kernel
theorem dX10_nameAt_19 : decode cX10_nameAt 19 = .ok (.goto 4, 3) := by decide +kernel
theorem dX10_nameAt_22 : decode cX10_nameAt 22 = .ok (.iconst (-1), 1) := by decide +kernel
theorem dX10_nameAt_23 : decode cX10_nameAt 23 = .ok (.ireturn, 1) := by decide +kernel
theorem dX10_countAhead_0 : decode cX10_countAhead 0 = .ok (.iload_n 1, 1) := by decide +kernel
theorem dX10_countAhead_1 : decode cX10_countAhead 1 = .ok (.ifCond .lt 24, 3) := by decide +kernel
theorem dX10_countAhead_4 : decode cX10_countAhead 4 = .ok (.iload_n 1, 1) := by decide +kernel
theorem dX10_countAhead_5 : decode cX10_countAhead 5 = .ok (.aload_n 0, 1) := by decide +kernel
theorem dX10_countAhead_6 : decode cX10_countAhead 6 = .ok (.getfield 9, 3) := by decide +kernel
theorem dX10_countAhead_9 : decode cX10_countAhead 9 = .ok (.arraylength, 1) := by decide +kernel
theorem dX10_countAhead_10 : decode cX10_countAhead 10 = .ok (.if_icmp .ge 15, 3) := by decide +kernel
theorem dX10_countAhead_13 : decode cX10_countAhead 13 = .ok (.aload_n 0, 1) := by decide +kernel
theorem dX10_countAhead_14 : decode cX10_countAhead 14 = .ok (.getfield 9, 3) := by decide +kernel
theorem dX10_countAhead_17 : decode cX10_countAhead 17 = .ok (.iload_n 1, 1) := by decide +kernel
theorem dX10_countAhead_18 : decode cX10_countAhead 18 = .ok (.iaload, 1) := by decide +kernel
theorem dX10_countAhead_19 : decode cX10_countAhead 19 = .ok (.invokestatic 63, 3) := by decide +kernel
theorem dX10_countAhead_22 : decode cX10_countAhead 22 = .ok (.goto 4, 3) := by decide +kernel
theorem dX10_countAhead_25 : decode cX10_countAhead 25 = .ok (.iconst 0, 1) := by decide +kernel
theorem dX10_countAhead_26 : decode cX10_countAhead 26 = .ok (.ireturn, 1) := by decide +kernel
theorem dX10_countBehind_0 : decode cX10_countBehind 0 = .ok (.iconst 0, 1) := by decide +kernel
theorem dX10_countBehind_1 : decode cX10_countBehind 1 = .ok (.istore_n 2, 1) := by decide +kernel
theorem dX10_countBehind_2 : decode cX10_countBehind 2 = .ok (.iconst 0, 1) := by decide +kernel
theorem dX10_countBehind_3 : decode cX10_countBehind 3 = .ok (.istore_n 3, 1) := by decide +kernel
theorem dX10_countBehind_4 : decode cX10_countBehind 4 = .ok (.iload_n 3, 1) := by decide +kernel
theorem dX10_countBehind_5 : decode cX10_countBehind 5 = .ok (.aload_n 0, 1) := by decide +kernel
theorem dX10_countBehind_6 : decode cX10_countBehind 6 = .ok (.getfield 21, 3) := by decide +kernel
theorem dX10_countBehind_9 : decode cX10_countBehind 9 = .ok (.getfield 47, 3) := by decide +kernel
theorem dX10_countBehind_12 : decode cX10_countBehind 12 = .ok (.if_icmp .ge 31, 3) := by decide +kernel
theorem dX10_countBehind_15 : decode cX10_countBehind 15 = .ok (.iload_n 3, 1) := by decide +kernel
theorem dX10_countBehind_16 : decode cX10_countBehind 16 = .ok (.aload_n 0, 1) := by decide +kernel
theorem dX10_countBehind_17 : decode cX10_countBehind 17 = .ok (.getfield 9, 3) := by decide +kernel
theorem dX10_countBehind_20 : decode cX10_countBehind 20 = .ok (.arraylength, 1) := by decide +kernel
theorem dX10_countBehind_21 : decode cX10_countBehind 21 = .ok (.if_icmp .ge 22, 3) := by decide +kernel
theorem dX10_countBehind_24 : decode cX10_countBehind 24 = .ok (.iload_n 2, 1) := by decide +kernel
theorem dX10_countBehind_25 : decode cX10_countBehind 25 = .ok (.aload_n 0, 1) := by decide +kernel
theorem dX10_countBehind_26 : decode cX10_countBehind 26 = .ok (.getfield 9, 3) := by decide +kernel
theorem dX10_countBehind_29 : decode cX10_countBehind 29 = .ok (.iload_n 3, 1) := by decide +kernel
theorem dX10_countBehind_30 : decode cX10_countBehind 30 = .ok (.iaload, 1) := by decide +kernel
theorem dX10_countBehind_31 : decode cX10_countBehind 31 = .ok (.iload_n 1, 1) := by decide +kernel
theorem dX10_countBehind_32 : decode cX10_countBehind 32 = .ok (.ishr, 1) := by decide +kernel
theorem dX10_countBehind_33 : decode cX10_countBehind 33 = .ok (.iconst 1, 1) := by decide +kernel
theorem dX10_countBehind_34 : decode cX10_countBehind 34 = .ok (.iand, 1) := by decide +kernel
theorem dX10_countBehind_35 : decode cX10_countBehind 35 = .ok (.iadd, 1) := by decide +kernel
theorem dX10_countBehind_36 : decode cX10_countBehind 36 = .ok (.istore_n 2, 1) := by decide +kernel
theorem dX10_countBehind_37 : decode cX10_countBehind 37 = .ok (.iinc 3 1, 3) := by decide +kernel
theorem dX10_countBehind_40 : decode cX10_countBehind 40 = .ok (.goto (-36), 3) := by decide +kernel
theorem dX10_countBehind_43 : decode cX10_countBehind 43 = .ok (.iload_n 2, 1) := by decide +kernel
theorem dX10_countBehind_44 : decode cX10_countBehind 44 = .ok (.ireturn, 1) := by decide +kernel
theorem dX11_init_0 : decode cX11_init 0 = .ok (.aload_n 0, 1) := by decide +kernel
theorem dX11_init_1 : decode cX11_init 1 = .ok (.invokespecial 3, 3) := by decide +kernel
theorem dX11_init_4 : decode cX11_init 4 = .ok (.aload_n 0, 1) := by decide +kernel
theorem dX11_init_5 : decode cX11_init 5 = .ok (.new 9, 3) := by decide +kernel
theorem dX11_init_8 : decode cX11_init 8 = .ok (.dup, 1) := by decide +kernel
theorem dX11_init_9 : decode cX11_init 9 = .ok (.invokespecial 11, 3) := by decide +kernel
theorem dX11_init_12 : decode cX11_init 12 = .ok (.putfield 12, 3) := by decide +kernel
theorem dX11_init_15 : decode cX11_init 15 = .ok (.aload_n 0, 1) := by decide +kernel
theorem dX11_init_16 : decode cX11_init 16 = .ok (.iconst 2, 1) := by decide +kernel
theorem dX11_init_17 : decode cX11_init 17 = .ok (.anewarray 9, 3) := by decide +kernel
theorem dX11_init_20 : decode cX11_init 20 = .ok (.putfield 16, 3) := by decide +kernel
theorem dX11_init_23 : decode cX11_init 23 = .ok (.aload_n 0, 1) := by decide +kernel
theorem dX11_init_24 : decode cX11_init 24 = .ok (.new 20, 3) := by decide +kernel
theorem dX11_init_27 : decode cX11_init 27 = .ok (.dup, 1) := by decide +kernel
theorem dX11_init_28 : decode cX11_init 28 = .ok (.invokespecial 22, 3) := by decide +kernel
theorem dX11_init_31 : decode cX11_init 31 = .ok (.putfield 23, 3) := by decide +kernel
theorem dX11_init_34 : decode cX11_init 34 = .ok (.aload_n 0, 1) := by decide +kernel
theorem dX11_init_35 : decode cX11_init 35 = .ok (.new 27, 3) := by decide +kernel
theorem dX11_init_38 : decode cX11_init 38 = .ok (.dup, 1) := by decide +kernel
theorem dX11_init_39 : decode cX11_init 39 = .ok (.aload_n 0, 1) := by decide +kernel
theorem dX11_init_40 : decode cX11_init 40 = .ok (.getfield 12, 3) := by decide +kernel
theorem dX11_init_43 : decode cX11_init 43 = .ok (.invokespecial 29, 3) := by decide +kernel
theorem dX11_init_46 : decode cX11_init 46 = .ok (.putfield 32, 3) := by decide +kernel
theorem dX11_init_49 : decode cX11_init 49 = .ok (.aload_n 0, 1) := by decide +kernel
theorem dX11_init_50 : decode cX11_init 50 = .ok (.new 36, 3) := by decide +kernel
theorem dX11_init_53 : decode cX11_init 53 = .ok (.dup, 1) := by decide +kernel
theorem dX11_init_54 : decode cX11_init 54 = .ok (.aload_n 0, 1) := by decide +kernel
theorem dX11_init_55 : decode cX11_init 55 = .ok (.getfield 12, 3) := by decide +kernel
theorem dX11_init_58 : decode cX11_init 58 = .ok (.aload_n 0, 1) := by decide +kernel
theorem dX11_init_59 : decode cX11_init 59 = .ok (.getfield 32, 3) := by decide +kernel
theorem dX11_init_62 : decode cX11_init 62 = .ok (.invokespecial 38, 3) := by decide +kernel
theorem dX11_init_65 : decode cX11_init 65 = .ok (.putfield 41, 3) := by decide +kernel
theorem dX11_init_68 : decode cX11_init 68 = .ok (.aload_n 0, 1) := by decide +kernel
theorem dX11_init_69 : decode cX11_init 69 = .ok (.new 45, 3) := by decide +kernel
theorem dX11_init_72 : decode cX11_init 72 = .ok (.dup, 1) := by decide +kernel
theorem dX11_init_73 : decode cX11_init 73 = .ok (.aload_n 0, 1) := by decide +kernel
theorem dX11_init_74 : decode cX11_init 74 = .ok (.getfield 12, 3) := by decide +kernel
theorem dX11_init_77 : decode cX11_init 77 = .ok (.aload_n 0, 1) := by decide +kernel
theorem dX11_init_78 : decode cX11_init 78 = .ok (.getfield 41, 3) := by decide +kernel
theorem dX11_init_81 : decode cX11_init 81 = .ok (.invokespecial 47, 3) := by decide +kernel
theorem dX11_init_84 : decode cX11_init 84 = .ok (.putfield 50, 3) := by decide +kernel
theorem dX11_init_87 : decode cX11_init 87 = .ok (.aload_n 0, 1) := by decide +kernel
theorem dX11_init_88 : decode cX11_init 88 = .ok (.new 54, 3) := by decide +kernel
theorem dX11_init_91 : decode cX11_init 91 = .ok (.dup, 1) := by decide +kernel
theorem dX11_init_92 : decode cX11_init 92 = .ok (.aload_n 0, 1) := by decide +kernel
theorem dX11_init_93 : decode cX11_init 93 = .ok (.getfield 12, 3) := by decide +kernel
theorem dX11_init_96 : decode cX11_init 96 = .ok (.aload_n 0, 1) := by decide +kernel
theorem dX11_init_97 : decode cX11_init 97 = .ok (.getfield 32, 3) := by decide +kernel
theorem dX11_init_100 : decode cX11_init 100 = .ok (.invokespecial 56, 3) := by decide +kernel
theorem dX11_init_103 : decode cX11_init 103 = .ok (.putfield 57, 3) := by decide +kernel
theorem dX11_init_106 : decode cX11_init 106 = .ok (.aload_n 0, 1) := by decide +kernel
theorem dX11_init_107 : decode cX11_init 107 = .ok (.new 61, 3) := by decide +kernel
theorem dX11_init_110 : decode cX11_init 110 = .ok (.dup, 1) := by decide +kernel
theorem dX11_init_111 : decode cX11_init 111 = .ok (.aload_n 0, 1) := by decide +kernel
theorem dX11_init_112 : decode cX11_init 112 = .ok (.getfield 12, 3) := by decide +kernel
theorem dX11_init_115 : decode cX11_init 115 = .ok (.invokespecial 63, 3) := by decide +kernel
theorem dX11_init_118 : decode cX11_init 118 = .ok (.putfield 64, 3) := by decide +kernel
theorem dX11_init_121 : decode cX11_init 121 = .ok (.aload_n 0, 1) := by decide +kernel
theorem dX11_init_122 : decode cX11_init 122 = .ok (.new 68, 3) := by decide +kernel
theorem dX11_init_125 : decode cX11_init 125 = .ok (.dup, 1) := by decide +kernel
theorem dX11_init_126 : decode cX11_init 126 = .ok (.aload_n 0, 1) := by decide +kernel
theorem dX11_init_127 : decode cX11_init 127 = .ok (.getfield 12, 3) := by decide +kernel
theorem dX11_init_130 : decode cX11_init 130 = .ok (.invokespecial 70, 3) := by decide +kernel
theorem dX11_init_133 : decode cX11_init 133 = .ok (.putfield 71, 3) := by decide +kernel
theorem dX11_init_136 : decode cX11_init 136 = .ok (.aload_n 0, 1) := by decide +kernel
theorem dX11_init_137 : decode cX11_init 137 = .ok (.new 75, 3) := by decide +kernel
theorem dX11_init_140 : decode cX11_init 140 = .ok (.dup, 1) := by decide +kernel
theorem dX11_init_141 : decode cX11_init 141 = .ok (.aload_n 0, 1) := by decide +kernel
theorem dX11_init_142 : decode cX11_init 142 = .ok (.getfield 12, 3) := by decide +kernel
theorem dX11_init_145 : decode cX11_init 145 = .ok (.invokespecial 77, 3) := by decide +kernel
theorem dX11_init_148 : decode cX11_init 148 = .ok (.putfield 78, 3) := by decide +kernel
theorem dX11_init_151 : decode cX11_init 151 = .ok (.aload_n 0, 1) := by decide +kernel
theorem dX11_init_152 : decode cX11_init 152 = .ok (.new 82, 3) := by decide +kernel
theorem dX11_init_155 : decode cX11_init 155 = .ok (.dup, 1) := by decide +kernel
theorem dX11_init_156 : decode cX11_init 156 = .ok (.aload_n 0, 1) := by decide +kernel
theorem dX11_init_157 : decode cX11_init 157 = .ok (.getfield 12, 3) := by decide +kernel
theorem dX11_init_160 : decode cX11_init 160 = .ok (.aload_n 0, 1) := by decide +kernel
theorem dX11_init_161 : decode cX11_init 161 = .ok (.getfield 57, 3) := by decide +kernel
theorem dX11_init_164 : decode cX11_init 164 = .ok (.invokespecial 84, 3) := by decide +kernel
theorem dX11_init_167 : decode cX11_init 167 = .ok (.putfield 87, 3) := by decide +kernel
theorem dX11_init_170 : decode cX11_init 170 = .ok (.aload_n 0, 1) := by decide +kernel
theorem dX11_init_171 : decode cX11_init 171 = .ok (.lconst 0, 1) := by decide +kernel
theorem dX11_init_172 : decode cX11_init 172 = .ok (.putfield 91, 3) := by decide +kernel
theorem dX11_init_175 : decode cX11_init 175 = .ok (.aload_n 0, 1) := by decide +kernel
theorem dX11_init_176 : decode cX11_init 176 = .ok (.lconst 1, 1) := by decide +kernel
theorem dX11_init_177 : decode cX11_init 177 = .ok (.putfield 95, 3) := by decide +kernel
theorem dX11_init_180 : decode cX11_init 180 = .ok (.return_, 1) := by decide +kernel
theorem dX11_merchant_0 : decode cX11_merchant 0 = .ok (.iload_n 1, 1) := by decide +kernel
theorem dX11_merchant_1 : decode cX11_merchant 1 = .ok (.iconst 0, 1) := by decide +kernel
theorem dX11_merchant_2 : decode cX11_merchant 2 = .ok (.iconst 4, 1) := by decide +kernel
theorem dX11_merchant_3 : decode cX11_merchant 3 = .ok (.invokestatic 98, 3) := by decide +kernel
theorem dX11_merchant_6 : decode cX11_merchant 6 = .ok (.ifCond .ne 12, 3) := by decide +kernel
theorem dX11_merchant_9 : decode cX11_merchant 9 = .ok (.iload_n 2, 1) := by decide +kernel
theorem dX11_merchant_10 : decode cX11_merchant 10 = .ok (.iconst 0, 1) := by decide +kernel
theorem dX11_merchant_11 : decode cX11_merchant 11 = .ok (.iconst 1, 1) := by decide +kernel
theorem dX11_merchant_12 : decode cX11_merchant 12 = .ok (.invokestatic 98, 3) := by decide +kernel
theorem dX11_merchant_15 : decode cX11_merchant 15 = .ok (.ifCond .eq 6, 3) := by decide +kernel
theorem dX11_merchant_18 : decode cX11_merchant 18 = .ok (.bipush (-2), 2) := by decide +kernel
theorem dX11_merchant_20 : decode cX11_merchant 20 = .ok (.ireturn, 1) := by decide +kernel
theorem dX11_merchant_21 : decode cX11_merchant 21 = .ok (.aload_n 0, 1) := by decide +kernel
theorem dX11_merchant_22 : decode cX11_merchant 22 = .ok (.getfield 12, 3) := by decide +kernel
theorem dX11_merchant_25 : decode cX11_merchant 25 = .ok (.getfield 102, 3) := by decide +kernel
theorem dX11_merchant_28 : decode cX11_merchant 28 = .ok (.invokevirtual 106, 3) := by decide +kernel
theorem dX11_merchant_31 : decode cX11_merchant 31 = .ok (.ifCond .eq 6, 3) := by decide +kernel
theorem dX11_merchant_34 : decode cX11_merchant 34 = .ok (.bipush (-4), 2) := by decide +kernel
theorem dX11_merchant_36 : decode cX11_merchant 36 = .ok (.ireturn, 1) := by decide +kernel
theorem dX11_merchant_37 : decode cX11_merchant 37 = .ok (.aload_n 0, 1) := by decide +kernel
theorem dX11_merchant_38 : decode cX11_merchant 38 = .ok (.getfield 12, 3) := by decide +kernel
theorem dX11_merchant_41 : decode cX11_merchant 41 = .ok (.getfield 102, 3) := by decide +kernel
theorem dX11_merchant_44 : decode cX11_merchant 44 = .ok (.iload_n 1, 1) := by decide +kernel
theorem dX11_merchant_45 : decode cX11_merchant 45 = .ok (.iload_n 2, 1) := by decide +kernel
theorem dX11_merchant_46 : decode cX11_merchant 46 = .ok (.iconst 0, 1) := by decide +kernel
theorem dX11_merchant_47 : decode cX11_merchant 47 = .ok (.iconst 0, 1) := by decide +kernel
theorem dX11_merchant_48 : decode cX11_merchant 48 = .ok (.iconst 0, 1) := by decide +kernel
theorem dX11_merchant_49 : decode cX11_merchant 49 = .ok (.invokevirtual 112, 3) := by decide +kernel
theorem dX11_merchant_52 : decode cX11_merchant 52 = .ok (.ireturn, 1) := by decide +kernel
theorem dX11_write_0 : decode cX11_write 0 = .ok (.iload_n 1, 1) := by decide +kernel
theorem dX11_write_1 : decode cX11_write 1 = .ok (.iconst 0, 1) := by decide +kernel
theorem dX11_write_2 : decode cX11_write 2 = .ok (.iconst 3, 1) := by decide +kernel
theorem dX11_write_3 : decode cX11_write 3 = .ok (.invokestatic 98, 3) := by decide +kernel
theorem dX11_write_6 : decode cX11_write 6 = .ok (.ifCond .ne 13, 3) := by decide +kernel
theorem dX11_write_9 : decode cX11_write 9 = .ok (.iload_n 2, 1) := by decide +kernel
theorem dX11_write_10 : decode cX11_write 10 = .ok (.iconst 0, 1) := by decide +kernel
theorem dX11_write_11 : decode cX11_write 11 = .ok (.bipush 127, 2) := by decide +kernel
theorem dX11_write_13 : decode cX11_write 13 = .ok (.invokestatic 98, 3) := by decide +kernel
theorem dX11_write_16 : decode cX11_write 16 = .ok (.ifCond .eq 6, 3) := by decide +kernel
theorem dX11_write_19 : decode cX11_write 19 = .ok (.bipush (-2), 2) := by decide +kernel
theorem dX11_write_21 : decode cX11_write 21 = .ok (.ireturn, 1) := by decide +kernel
theorem dX11_write_22 : decode cX11_write 22 = .ok (.aload_n 0, 1) := by decide +kernel
theorem dX11_write_23 : decode cX11_write 23 = .ok (.getfield 12, 3) := by decide +kernel
theorem dX11_write_26 : decode cX11_write 26 = .ok (.getfield 116, 3) := by decide +kernel
theorem dX11_write_29 : decode cX11_write 29 = .ok (.iload_n 1, 1) := by decide +kernel
theorem dX11_write_30 : decode cX11_write 30 = .ok (.iconst 0, 1) := by decide +kernel
theorem dX11_write_31 : decode cX11_write 31 = .ok (.invokevirtual 119, 3) := by decide +kernel
theorem dX11_write_34 : decode cX11_write 34 = .ok (.istore_n 3, 1) := by decide +kernel
theorem dX11_write_35 : decode cX11_write 35 = .ok (.iload_n 3, 1) := by decide +kernel
theorem dX11_write_36 : decode cX11_write 36 = .ok (.bipush 50, 2) := by decide +kernel
theorem dX11_write_38 : decode cX11_write 38 = .ok (.if_icmp .lt 6, 3) := by decide +kernel
theorem dX11_write_41 : decode cX11_write 41 = .ok (.bipush (-4), 2) := by decide +kernel
theorem dX11_write_43 : decode cX11_write 43 = .ok (.ireturn, 1) := by decide +kernel
theorem dX11_write_44 : decode cX11_write 44 = .ok (.aload_n 0, 1) := by decide +kernel
theorem dX11_write_45 : decode cX11_write 45 = .ok (.getfield 12, 3) := by decide +kernel
theorem dX11_write_48 : decode cX11_write 48 = .ok (.getfield 116, 3) := by decide +kernel
theorem dX11_write_51 : decode cX11_write 51 = .ok (.iload_n 1, 1) := by decide +kernel
theorem dX11_write_52 : decode cX11_write 52 = .ok (.iconst 1, 1) := by decide +kernel
theorem dX11_write_53 : decode cX11_write 53 = .ok (.iload_n 3, 1) := by decide +kernel
theorem dX11_write_54 : decode cX11_write 54 = .ok (.iadd, 1) := by decide +kernel
theorem dX11_write_55 : decode cX11_write 55 = .ok (.iload_n 2, 1) := by decide +kernel
theorem dX11_write_56 : decode cX11_write 56 = .ok (.invokevirtual 123, 3) := by decide +kernel
theorem dX11_write_59 : decode cX11_write 59 = .ok (.aload_n 0, 1) := by decide +kernel
theorem dX11_write_60 : decode cX11_write 60 = .ok (.getfield 12, 3) := by decide +kernel
theorem dX11_write_63 : decode cX11_write 63 = .ok (.getfield 116, 3) := by decide +kernel
theorem dX11_write_66 : decode cX11_write 66 = .ok (.iload_n 1, 1) := by decide +kernel
theorem dX11_write_67 : decode cX11_write 67 = .ok (.iconst 0, 1) := by decide +kernel
theorem dX11_write_68 : decode cX11_write 68 = .ok (.iload_n 3, 1) := by decide +kernel
theorem dX11_write_69 : decode cX11_write 69 = .ok (.iconst 1, 1) := by decide +kernel
theorem dX11_write_70 : decode cX11_write 70 = .ok (.iadd, 1) := by decide +kernel
theorem dX11_write_71 : decode cX11_write 71 = .ok (.invokevirtual 123, 3) := by decide +kernel
theorem dX11_write_74 : decode cX11_write 74 = .ok (.iload_n 3, 1) := by decide +kernel
theorem dX11_write_75 : decode cX11_write 75 = .ok (.iconst 1, 1) := by decide +kernel
theorem dX11_write_76 : decode cX11_write 76 = .ok (.iadd, 1) := by decide +kernel
theorem dX11_write_77 : decode cX11_write 77 = .ok (.ireturn, 1) := by decide +kernel
theorem dX11_erase_0 : decode cX11_erase 0 = .ok (.iload_n 1, 1) := by decide +kernel
theorem dX11_erase_1 : decode cX11_erase 1 = .ok (.iconst 0, 1) := by decide +kernel
theorem dX11_erase_2 : decode cX11_erase 2 = .ok (.iconst 3, 1) := by decide +kernel
theorem dX11_erase_3 : decode cX11_erase 3 = .ok (.invokestatic 98, 3) := by decide +kernel
theorem dX11_erase_6 : decode cX11_erase 6 = .ok (.ifCond .eq 6, 3) := by decide +kernel
theorem dX11_erase_9 : decode cX11_erase 9 = .ok (.bipush (-2), 2) := by decide +kernel
theorem dX11_erase_11 : decode cX11_erase 11 = .ok (.ireturn, 1) := by decide +kernel
theorem dX11_erase_12 : decode cX11_erase 12 = .ok (.aload_n 0, 1) := by decide +kernel
theorem dX11_erase_13 : decode cX11_erase 13 = .ok (.getfield 12, 3) := by decide +kernel
theorem dX11_erase_16 : decode cX11_erase 16 = .ok (.getfield 116, 3) := by decide +kernel
theorem dX11_erase_19 : decode cX11_erase 19 = .ok (.iload_n 1, 1) := by decide +kernel
theorem dX11_erase_20 : decode cX11_erase 20 = .ok (.iconst 0, 1) := by decide +kernel
theorem dX11_erase_21 : decode cX11_erase 21 = .ok (.invokevirtual 119, 3) := by decide +kernel
theorem dX11_erase_24 : decode cX11_erase 24 = .ok (.istore_n 2, 1) := by decide +kernel
theorem dX11_erase_25 : decode cX11_erase 25 = .ok (.aload_n 0, 1) := by decide +kernel
theorem dX11_erase_26 : decode cX11_erase 26 = .ok (.getfield 12, 3) := by decide +kernel
theorem dX11_erase_29 : decode cX11_erase 29 = .ok (.getfield 116, 3) := by decide +kernel
theorem dX11_erase_32 : decode cX11_erase 32 = .ok (.iload_n 1, 1) := by decide +kernel
theorem dX11_erase_33 : decode cX11_erase 33 = .ok (.iconst 0, 1) := by decide +kernel
theorem dX11_erase_34 : decode cX11_erase 34 = .ok (.iconst 0, 1) := by decide +kernel
theorem dX11_erase_35 : decode cX11_erase 35 = .ok (.invokevirtual 123, 3) := by decide +kernel
theorem dX11_erase_38 : decode cX11_erase 38 = .ok (.iload_n 2, 1) := by decide +kernel
theorem dX11_erase_39 : decode cX11_erase 39 = .ok (.ireturn, 1) := by decide +kernel
theorem dX11_fault_0 : decode cX11_fault 0 = .ok (.iload_n 1, 1) := by decide +kernel
theorem dX11_fault_1 : decode cX11_fault 1 = .ok (.iconst 0, 1) := by decide +kernel
theorem dX11_fault_2 : decode cX11_fault 2 = .ok (.iconst 3, 1) := by decide +kernel
theorem dX11_fault_3 : decode cX11_fault 3 = .ok (.invokestatic 98, 3) := by decide +kernel
theorem dX11_fault_6 : decode cX11_fault 6 = .ok (.ifCond .eq 8, 3) := by decide +kernel
theorem dX11_fault_9 : decode cX11_fault 9 = .ok (.bipush (-2), 2) := by decide +kernel
theorem dX11_fault_11 : decode cX11_fault 11 = .ok (.goto 18, 3) := by decide +kernel
theorem dX11_fault_14 : decode cX11_fault 14 = .ok (.aload_n 0, 1) := by decide +kernel
theorem dX11_fault_15 : decode cX11_fault 15 = .ok (.getfield 23, 3) := by decide +kernel
theorem dX11_fault_18 : decode cX11_fault 18 = .ok (.aload_n 0, 1) := by decide +kernel
theorem dX11_fault_19 : decode cX11_fault 19 = .ok (.getfield 12, 3) := by decide +kernel
theorem dX11_fault_22 : decode cX11_fault 22 = .ok (.getfield 116, 3) := by decide +kernel
theorem dX11_fault_25 : decode cX11_fault 25 = .ok (.iload_n 1, 1) := by decide +kernel
theorem dX11_fault_26 : decode cX11_fault 26 = .ok (.invokevirtual 127, 3) := by decide +kernel
theorem dX11_fault_29 : decode cX11_fault 29 = .ok (.ireturn, 1) := by decide +kernel
theorem dX11_tells_0 : decode cX11_tells 0 = .ok (.iload_n 1, 1) := by decide +kernel
theorem dX11_tells_1 : decode cX11_tells 1 = .ok (.iconst 0, 1) := by decide +kernel
theorem dX11_tells_2 : decode cX11_tells 2 = .ok (.iconst 3, 1) := by decide +kernel
theorem dX11_tells_3 : decode cX11_tells 3 = .ok (.invokestatic 98, 3) := by decide +kernel
theorem dX11_tells_6 : decode cX11_tells 6 = .ok (.ifCond .ne 39, 3) := by decide +kernel
theorem dX11_tells_9 : decode cX11_tells 9 = .ok (.iload_n 2, 1) := by decide +kernel
theorem dX11_tells_10 : decode cX11_tells 10 = .ok (.iconst 0, 1) := by decide +kernel
theorem dX11_tells_11 : decode cX11_tells 11 = .ok (.iconst 5, 1) := by decide +kernel
theorem dX11_tells_12 : decode cX11_tells 12 = .ok (.invokestatic 98, 3) := by decide +kernel
theorem dX11_tells_15 : decode cX11_tells 15 = .ok (.ifCond .ne 30, 3) := by decide +kernel
theorem dX11_tells_18 : decode cX11_tells 18 = .ok (.iload_n 3, 1) := by decide +kernel
theorem dX11_tells_19 : decode cX11_tells 19 = .ok (.iconst 0, 1) := by decide +kernel
theorem dX11_tells_20 : decode cX11_tells 20 = .ok (.iconst 1, 1) := by decide +kernel
theorem dX11_tells_21 : decode cX11_tells 21 = .ok (.invokestatic 98, 3) := by decide +kernel
theorem dX11_tells_24 : decode cX11_tells 24 = .ok (.ifCond .ne 21, 3) := by decide +kernel
theorem dX11_tells_27 : decode cX11_tells 27 = .ok (.iload 4, 2) := by decide +kernel
theorem dX11_tells_29 : decode cX11_tells 29 = .ok (.iconst 0, 1) := by decide +kernel
theorem dX11_tells_30 : decode cX11_tells 30 = .ok (.iconst 1, 1) := by decide +kernel
theorem dX11_tells_31 : decode cX11_tells 31 = .ok (.invokestatic 98, 3) := by decide +kernel
theorem dX11_tells_34 : decode cX11_tells 34 = .ok (.ifCond .ne 11, 3) := by decide +kernel
theorem dX11_tells_37 : decode cX11_tells 37 = .ok (.iload 5, 2) := by decide +kernel
theorem dX11_tells_39 : decode cX11_tells 39 = .ok (.invokestatic 131, 3) := by decide +kernel
theorem dX11_tells_42 : decode cX11_tells 42 = .ok (.ifCond .eq 7, 3) := by decide +kernel
theorem dX11_tells_45 : decode cX11_tells 45 = .ok (.ldc2_w 135, 3) := by decide +kernel
theorem dX11_tells_48 : decode cX11_tells 48 = .ok (.lreturn, 1) := by decide +kernel
theorem dX11_tells_49 : decode cX11_tells 49 = .ok (.aload_n 0, 1) := by decide +kernel
theorem dX11_tells_50 : decode cX11_tells 50 = .ok (.getfield 23, 3) := by decide +kernel
theorem dX11_tells_53 : decode cX11_tells 53 = .ok (.aload_n 0, 1) := by decide +kernel
theorem dX11_tells_54 : decode cX11_tells 54 = .ok (.getfield 12, 3) := by decide +kernel
theorem dX11_tells_57 : decode cX11_tells 57 = .ok (.getfield 116, 3) := by decide +kernel
theorem dX11_tells_60 : decode cX11_tells 60 = .ok (.iload_n 1, 1) := by decide +kernel
theorem dX11_tells_61 : decode cX11_tells 61 = .ok (.invokevirtual 127, 3) := by decide +kernel
theorem dX11_tells_64 : decode cX11_tells 64 = .ok (.iconst (-1), 1) := by decide +kernel
theorem dX11_tells_65 : decode cX11_tells 65 = .ok (.if_icmp .eq 7, 3) := by decide +kernel
theorem dX11_tells_68 : decode cX11_tells 68 = .ok (.ldc2_w 137, 3) := by decide +kernel
theorem dX11_tells_71 : decode cX11_tells 71 = .ok (.lreturn, 1) := by decide +kernel
theorem dX11_tells_72 : decode cX11_tells 72 = .ok (.aload_n 0, 1) := by decide +kernel
theorem dX11_tells_73 : decode cX11_tells 73 = .ok (.getfield 32, 3) := by decide +kernel
theorem dX11_tells_76 : decode cX11_tells 76 = .ok (.iload_n 2, 1) := by decide +kernel
theorem dX11_tells_77 : decode cX11_tells 77 = .ok (.iload_n 3, 1) := by decide +kernel
theorem dX11_tells_78 : decode cX11_tells 78 = .ok (.iload 4, 2) := by decide +kernel
theorem dX11_tells_80 : decode cX11_tells 80 = .ok (.iload 5, 2) := by decide +kernel
theorem dX11_tells_82 : decode cX11_tells 82 = .ok (.lload 6, 2) := by decide +kernel
theorem dX11_tells_84 : decode cX11_tells 84 = .ok (.invokevirtual 139, 3) := by decide +kernel
theorem dX11_tells_87 : decode cX11_tells 87 = .ok (.aload_n 0, 1) := by decide +kernel
theorem dX11_tells_88 : decode cX11_tells 88 = .ok (.getfield 32, 3) := by decide +kernel
theorem dX11_tells_91 : decode cX11_tells 91 = .ok (.aload_n 0, 1) := by decide +kernel
theorem dX11_tells_92 : decode cX11_tells 92 = .ok (.getfield 23, 3) := by decide +kernel
theorem dX11_tells_95 : decode cX11_tells 95 = .ok (.getfield 143, 3) := by decide +kernel
theorem dX11_tells_98 : decode cX11_tells 98 = .ok (.iconst 0, 1) := by decide +kernel
theorem dX11_tells_99 : decode cX11_tells 99 = .ok (.aload_n 0, 1) := by decide +kernel
theorem dX11_tells_100 : decode cX11_tells 100 = .ok (.getfield 23, 3) := by decide +kernel
theorem dX11_tells_103 : decode cX11_tells 103 = .ok (.getfield 147, 3) := by decide +kernel
theorem dX11_tells_106 : decode cX11_tells 106 = .ok (.invokevirtual 151, 3) := by decide +kernel
theorem dX11_tells_109 : decode cX11_tells 109 = .ok (.lreturn, 1) := by decide +kernel
theorem dX11_act_0 : decode cX11_act 0 = .ok (.iload_n 1, 1) := by decide +kernel
theorem dX11_act_1 : decode cX11_act 1 = .ok (.iconst 0, 1) := by decide +kernel
theorem dX11_act_2 : decode cX11_act 2 = .ok (.iconst 3, 1) := by decide +kernel
theorem dX11_act_3 : decode cX11_act 3 = .ok (.invokestatic 98, 3) := by decide +kernel
theorem dX11_act_6 : decode cX11_act 6 = .ok (.ifCond .ne 19, 3) := by decide +kernel
theorem dX11_act_9 : decode cX11_act 9 = .ok (.iload_n 2, 1) := by decide +kernel
theorem dX11_act_10 : decode cX11_act 10 = .ok (.iconst 0, 1) := by decide +kernel
theorem dX11_act_11 : decode cX11_act 11 = .ok (.iconst 2, 1) := by decide +kernel
theorem dX11_act_12 : decode cX11_act 12 = .ok (.invokestatic 98, 3) := by decide +kernel
theorem dX11_act_15 : decode cX11_act 15 = .ok (.ifCond .ne 10, 3) := by decide +kernel
theorem dX11_act_18 : decode cX11_act 18 = .ok (.iload_n 3, 1) := by decide +kernel
theorem dX11_act_19 : decode cX11_act 19 = .ok (.invokestatic 131, 3) := by decide +kernel
theorem dX11_act_22 : decode cX11_act 22 = .ok (.ifCond .eq 6, 3) := by decide +kernel
theorem dX11_act_25 : decode cX11_act 25 = .ok (.bipush (-2), 2) := by decide +kernel
theorem dX11_act_27 : decode cX11_act 27 = .ok (.ireturn, 1) := by decide +kernel
theorem dX11_act_28 : decode cX11_act 28 = .ok (.aload_n 0, 1) := by decide +kernel
theorem dX11_act_29 : decode cX11_act 29 = .ok (.getfield 23, 3) := by decide +kernel
theorem dX11_act_32 : decode cX11_act 32 = .ok (.aload_n 0, 1) := by decide +kernel
theorem dX11_act_33 : decode cX11_act 33 = .ok (.getfield 12, 3) := by decide +kernel
theorem dX11_act_36 : decode cX11_act 36 = .ok (.getfield 116, 3) := by decide +kernel
theorem dX11_act_39 : decode cX11_act 39 = .ok (.iload_n 1, 1) := by decide +kernel
theorem dX11_act_40 : decode cX11_act 40 = .ok (.invokevirtual 127, 3) := by decide +kernel
theorem dX11_act_43 : decode cX11_act 43 = .ok (.iconst (-1), 1) := by decide +kernel
theorem dX11_act_44 : decode cX11_act 44 = .ok (.if_icmp .eq 6, 3) := by decide +kernel
theorem dX11_act_47 : decode cX11_act 47 = .ok (.bipush (-3), 2) := by decide +kernel
theorem dX11_act_49 : decode cX11_act 49 = .ok (.ireturn, 1) := by decide +kernel
theorem dX11_act_50 : decode cX11_act 50 = .ok (.aload_n 0, 1) := by decide +kernel
theorem dX11_act_51 : decode cX11_act 51 = .ok (.getfield 12, 3) := by decide +kernel
theorem dX11_act_54 : decode cX11_act 54 = .ok (.getfield 155, 3) := by decide +kernel
theorem dX11_act_57 : decode cX11_act 57 = .ok (.invokevirtual 106, 3) := by decide +kernel
theorem dX11_act_60 : decode cX11_act 60 = .ok (.ifCond .eq 6, 3) := by decide +kernel
theorem dX11_act_63 : decode cX11_act 63 = .ok (.bipush (-4), 2) := by decide +kernel
theorem dX11_act_65 : decode cX11_act 65 = .ok (.ireturn, 1) := by decide +kernel
theorem dX11_act_66 : decode cX11_act 66 = .ok (.aload_n 0, 1) := by decide +kernel
theorem dX11_act_67 : decode cX11_act 67 = .ok (.getfield 12, 3) := by decide +kernel
theorem dX11_act_70 : decode cX11_act 70 = .ok (.getfield 155, 3) := by decide +kernel
theorem dX11_act_73 : decode cX11_act 73 = .ok (.iload_n 2, 1) := by decide +kernel
theorem dX11_act_74 : decode cX11_act 74 = .ok (.iload_n 3, 1) := by decide +kernel
theorem dX11_act_75 : decode cX11_act 75 = .ok (.iconst 0, 1) := by decide +kernel
theorem dX11_act_76 : decode cX11_act 76 = .ok (.iconst 0, 1) := by decide +kernel
theorem dX11_act_77 : decode cX11_act 77 = .ok (.iconst 0, 1) := by decide +kernel
theorem dX11_act_78 : decode cX11_act 78 = .ok (.invokevirtual 112, 3) := by decide +kernel
theorem dX11_act_81 : decode cX11_act 81 = .ok (.istore 4, 2) := by decide +kernel
theorem dX11_act_83 : decode cX11_act 83 = .ok (.aload_n 0, 1) := by decide +kernel
theorem dX11_act_84 : decode cX11_act 84 = .ok (.getfield 32, 3) := by decide +kernel
theorem dX11_act_87 : decode cX11_act 87 = .ok (.iload 4, 2) := by decide +kernel
theorem dX11_act_89 : decode cX11_act 89 = .ok (.iload_n 1, 1) := by decide +kernel
theorem dX11_act_90 : decode cX11_act 90 = .ok (.aload_n 0, 1) := by decide +kernel
theorem dX11_act_91 : decode cX11_act 91 = .ok (.getfield 23, 3) := by decide +kernel
theorem dX11_act_94 : decode cX11_act 94 = .ok (.invokevirtual 158, 3) := by decide +kernel
theorem dX11_act_97 : decode cX11_act 97 = .ok (.iload 4, 2) := by decide +kernel
theorem dX11_act_99 : decode cX11_act 99 = .ok (.ireturn, 1) := by decide +kernel
theorem dX11_force_0 : decode cX11_force 0 = .ok (.iload_n 1, 1) := by decide +kernel
theorem dX11_force_1 : decode cX11_force 1 = .ok (.iconst 0, 1) := by decide +kernel
theorem dX11_force_2 : decode cX11_force 2 = .ok (.iconst 2, 1) := by decide +kernel
theorem dX11_force_3 : decode cX11_force 3 = .ok (.invokestatic 98, 3) := by decide +kernel
theorem dX11_force_6 : decode cX11_force 6 = .ok (.ifCond .ne 10, 3) := by decide +kernel
theorem dX11_force_9 : decode cX11_force 9 = .ok (.iload_n 2, 1) := by decide +kernel
theorem dX11_force_10 : decode cX11_force 10 = .ok (.invokestatic 131, 3) := by decide +kernel
theorem dX11_force_13 : decode cX11_force 13 = .ok (.ifCond .eq 8, 3) := by decide +kernel
theorem dX11_force_16 : decode cX11_force 16 = .ok (.bipush (-2), 2) := by decide +kernel
theorem dX11_force_18 : decode cX11_force 18 = .ok (.goto 12, 3) := by decide +kernel
theorem dX11_force_21 : decode cX11_force 21 = .ok (.aload_n 0, 1) := by decide +kernel
theorem dX11_force_22 : decode cX11_force 22 = .ok (.getfield 32, 3) := by decide +kernel
theorem dX11_force_25 : decode cX11_force 25 = .ok (.iload_n 1, 1) := by decide +kernel
theorem dX11_force_26 : decode cX11_force 26 = .ok (.iload_n 2, 1) := by decide +kernel
theorem dX11_force_27 : decode cX11_force 27 = .ok (.invokevirtual 162, 3) := by decide +kernel
theorem dX11_force_30 : decode cX11_force 30 = .ok (.ireturn, 1) := by decide +kernel
theorem dX11_debt_0 : decode cX11_debt 0 = .ok (.aload_n 0, 1) := by decide +kernel
theorem dX11_debt_1 : decode cX11_debt 1 = .ok (.iload_n 1, 1) := by decide +kernel
theorem dX11_debt_2 : decode cX11_debt 2 = .ok (.invokevirtual 165, 3) := by decide +kernel
theorem dX11_debt_5 : decode cX11_debt 5 = .ok (.ifCond .ne 49, 3) := by decide +kernel
theorem dX11_debt_8 : decode cX11_debt 8 = .ok (.aload_n 0, 1) := by decide +kernel
theorem dX11_debt_9 : decode cX11_debt 9 = .ok (.iload_n 2, 1) := by decide +kernel
theorem dX11_debt_10 : decode cX11_debt 10 = .ok (.invokevirtual 165, 3) := by decide +kernel
theorem dX11_debt_13 : decode cX11_debt 13 = .ok (.ifCond .ne 41, 3) := by decide +kernel
theorem dX11_debt_16 : decode cX11_debt 16 = .ok (.iload_n 1, 1) := by decide +kernel
theorem dX11_debt_17 : decode cX11_debt 17 = .ok (.iload_n 2, 1) := by decide +kernel
theorem dX11_debt_18 : decode cX11_debt 18 = .ok (.if_icmp .eq 36, 3) := by decide +kernel
theorem dX11_debt_21 : decode cX11_debt 21 = .ok (.iload_n 3, 1) := by decide +kernel
theorem dX11_debt_22 : decode cX11_debt 22 = .ok (.iconst 1, 1) := by decide +kernel
theorem dX11_debt_23 : decode cX11_debt 23 = .ok (.ldc 168, 2) := by decide +kernel
theorem dX11_debt_25 : decode cX11_debt 25 = .ok (.invokestatic 98, 3) := by decide +kernel
theorem dX11_debt_28 : decode cX11_debt 28 = .ok (.ifCond .ne 26, 3) := by decide +kernel
theorem dX11_debt_31 : decode cX11_debt 31 = .ok (.iload 4, 2) := by decide +kernel
theorem dX11_debt_33 : decode cX11_debt 33 = .ok (.invokestatic 131, 3) := by decide +kernel
theorem dX11_debt_36 : decode cX11_debt 36 = .ok (.ifCond .ne 18, 3) := by decide +kernel
theorem dX11_debt_39 : decode cX11_debt 39 = .ok (.iload 5, 2) := by decide +kernel
theorem dX11_debt_41 : decode cX11_debt 41 = .ok (.invokestatic 131, 3) := by decide +kernel
theorem dX11_debt_44 : decode cX11_debt 44 = .ok (.ifCond .ne 10, 3) := by decide +kernel
theorem dX11_debt_47 : decode cX11_debt 47 = .ok (.iload 5, 2) := by decide +kernel
theorem dX11_debt_49 : decode cX11_debt 49 = .ok (.iload 4, 2) := by decide +kernel
theorem dX11_debt_51 : decode cX11_debt 51 = .ok (.if_icmp .ge 6, 3) := by decide +kernel
theorem dX11_debt_54 : decode cX11_debt 54 = .ok (.bipush (-2), 2) := by decide +kernel
theorem dX11_debt_56 : decode cX11_debt 56 = .ok (.ireturn, 1) := by decide +kernel
theorem dX11_debt_57 : decode cX11_debt 57 = .ok (.aload_n 0, 1) := by decide +kernel
theorem dX11_debt_58 : decode cX11_debt 58 = .ok (.getfield 12, 3) := by decide +kernel
theorem dX11_debt_61 : decode cX11_debt 61 = .ok (.getfield 169, 3) := by decide +kernel
theorem dX11_debt_64 : decode cX11_debt 64 = .ok (.invokevirtual 106, 3) := by decide +kernel
theorem dX11_debt_67 : decode cX11_debt 67 = .ok (.ifCond .eq 6, 3) := by decide +kernel
theorem dX11_debt_70 : decode cX11_debt 70 = .ok (.bipush (-4), 2) := by decide +kernel
theorem dX11_debt_72 : decode cX11_debt 72 = .ok (.ireturn, 1) := by decide +kernel
theorem dX11_debt_73 : decode cX11_debt 73 = .ok (.aload_n 0, 1) := by decide +kernel
theorem dX11_debt_74 : decode cX11_debt 74 = .ok (.getfield 12, 3) := by decide +kernel
theorem dX11_debt_77 : decode cX11_debt 77 = .ok (.getfield 169, 3) := by decide +kernel
theorem dX11_debt_80 : decode cX11_debt 80 = .ok (.iload_n 1, 1) := by decide +kernel
theorem dX11_debt_81 : decode cX11_debt 81 = .ok (.iload_n 2, 1) := by decide +kernel
theorem dX11_debt_82 : decode cX11_debt 82 = .ok (.iload_n 3, 1) := by decide +kernel
theorem dX11_debt_83 : decode cX11_debt 83 = .ok (.iload 4, 2) := by decide +kernel
theorem dX11_debt_85 : decode cX11_debt 85 = .ok (.iload 5, 2) := by decide +kernel
theorem dX11_debt_87 : decode cX11_debt 87 = .ok (.invokevirtual 112, 3) := by decide +kernel
theorem dX11_debt_90 : decode cX11_debt 90 = .ok (.istore 6, 2) := by decide +kernel
theorem dX11_debt_92 : decode cX11_debt 92 = .ok (.aload_n 0, 1) := by decide +kernel
theorem dX11_debt_93 : decode cX11_debt 93 = .ok (.getfield 12, 3) := by decide +kernel
theorem dX11_debt_96 : decode cX11_debt 96 = .ok (.getfield 169, 3) := by decide +kernel
theorem dX11_debt_99 : decode cX11_debt 99 = .ok (.iload 6, 2) := by decide +kernel
theorem dX11_debt_101 : decode cX11_debt 101 = .ok (.iconst 5, 1) := by decide +kernel
theorem dX11_debt_102 : decode cX11_debt 102 = .ok (.iconst (-1), 1) := by decide +kernel
theorem dX11_debt_103 : decode cX11_debt 103 = .ok (.invokevirtual 123, 3) := by decide +kernel
theorem dX11_debt_106 : decode cX11_debt 106 = .ok (.aload_n 0, 1) := by decide +kernel
theorem dX11_debt_107 : decode cX11_debt 107 = .ok (.getfield 12, 3) := by decide +kernel
theorem dX11_debt_110 : decode cX11_debt 110 = .ok (.getfield 169, 3) := by decide +kernel
theorem dX11_debt_113 : decode cX11_debt 113 = .ok (.iload 6, 2) := by decide +kernel
theorem dX11_debt_115 : decode cX11_debt 115 = .ok (.bipush 6, 2) := by decide +kernel
theorem dX11_debt_117 : decode cX11_debt 117 = .ok (.iconst (-1), 1) := by decide +kernel
theorem dX11_debt_118 : decode cX11_debt 118 = .ok (.invokevirtual 123, 3) := by decide +kernel
theorem dX11_debt_121 : decode cX11_debt 121 = .ok (.iload 6, 2) := by decide +kernel
theorem dX11_debt_123 : decode cX11_debt 123 = .ok (.ireturn, 1) := by decide +kernel
theorem dX11_pay_0 : decode cX11_pay 0 = .ok (.aload_n 0, 1) := by decide +kernel
theorem dX11_pay_1 : decode cX11_pay 1 = .ok (.iload_n 1, 1) := by decide +kernel
theorem dX11_pay_2 : decode cX11_pay 2 = .ok (.invokevirtual 172, 3) := by decide +kernel
theorem dX11_pay_5 : decode cX11_pay 5 = .ok (.ifCond .ne 36, 3) := by decide +kernel
theorem dX11_pay_8 : decode cX11_pay 8 = .ok (.iload_n 2, 1) := by decide +kernel
theorem dX11_pay_9 : decode cX11_pay 9 = .ok (.invokestatic 131, 3) := by decide +kernel
theorem dX11_pay_12 : decode cX11_pay 12 = .ok (.ifCond .ne 29, 3) := by decide +kernel
theorem dX11_pay_15 : decode cX11_pay 15 = .ok (.iload_n 3, 1) := by decide +kernel
theorem dX11_pay_16 : decode cX11_pay 16 = .ok (.iconst 1, 1) := by decide +kernel
theorem dX11_pay_17 : decode cX11_pay 17 = .ok (.ldc 168, 2) := by decide +kernel
theorem dX11_pay_19 : decode cX11_pay 19 = .ok (.invokestatic 98, 3) := by decide +kernel
theorem dX11_pay_22 : decode cX11_pay 22 = .ok (.ifCond .ne 19, 3) := by decide +kernel
theorem dX11_pay_25 : decode cX11_pay 25 = .ok (.iload_n 2, 1) := by decide +kernel
theorem dX11_pay_26 : decode cX11_pay 26 = .ok (.aload_n 0, 1) := by decide +kernel
theorem dX11_pay_27 : decode cX11_pay 27 = .ok (.getfield 12, 3) := by decide +kernel
theorem dX11_pay_30 : decode cX11_pay 30 = .ok (.getfield 169, 3) := by decide +kernel
theorem dX11_pay_33 : decode cX11_pay 33 = .ok (.iload_n 1, 1) := by decide +kernel
theorem dX11_pay_34 : decode cX11_pay 34 = .ok (.iconst 3, 1) := by decide +kernel
theorem dX11_pay_35 : decode cX11_pay 35 = .ok (.invokevirtual 119, 3) := by decide +kernel
theorem dX11_pay_38 : decode cX11_pay 38 = .ok (.if_icmp .ge 6, 3) := by decide +kernel
theorem dX11_pay_41 : decode cX11_pay 41 = .ok (.bipush (-2), 2) := by decide +kernel
theorem dX11_pay_43 : decode cX11_pay 43 = .ok (.ireturn, 1) := by decide +kernel
theorem dX11_pay_44 : decode cX11_pay 44 = .ok (.aload_n 0, 1) := by decide +kernel
theorem dX11_pay_45 : decode cX11_pay 45 = .ok (.getfield 12, 3) := by decide +kernel
theorem dX11_pay_48 : decode cX11_pay 48 = .ok (.getfield 175, 3) := by decide +kernel
theorem dX11_pay_51 : decode cX11_pay 51 = .ok (.invokevirtual 106, 3) := by decide +kernel
theorem dX11_pay_54 : decode cX11_pay 54 = .ok (.ifCond .eq 6, 3) := by decide +kernel
theorem dX11_pay_57 : decode cX11_pay 57 = .ok (.bipush (-4), 2) := by decide +kernel
theorem dX11_pay_59 : decode cX11_pay 59 = .ok (.ireturn, 1) := by decide +kernel
theorem dX11_pay_60 : decode cX11_pay 60 = .ok (.aload_n 0, 1) := by decide +kernel
theorem dX11_pay_61 : decode cX11_pay 61 = .ok (.getfield 12, 3) := by decide +kernel
theorem dX11_pay_64 : decode cX11_pay 64 = .ok (.getfield 175, 3) := by decide +kernel
theorem dX11_pay_67 : decode cX11_pay 67 = .ok (.iload_n 1, 1) := by decide +kernel
theorem dX11_pay_68 : decode cX11_pay 68 = .ok (.iload_n 2, 1) := by decide +kernel
theorem dX11_pay_69 : decode cX11_pay 69 = .ok (.iload_n 3, 1) := by decide +kernel
theorem dX11_pay_70 : decode cX11_pay 70 = .ok (.iconst 0, 1) := by decide +kernel
theorem dX11_pay_71 : decode cX11_pay 71 = .ok (.iconst 0, 1) := by decide +kernel
theorem dX11_pay_72 : decode cX11_pay 72 = .ok (.invokevirtual 112, 3) := by decide +kernel
theorem dX11_pay_75 : decode cX11_pay 75 = .ok (.iconst 1, 1) := by decide +kernel
theorem dX11_pay_76 : decode cX11_pay 76 = .ok (.iadd, 1) := by decide +kernel
theorem dX11_pay_77 : decode cX11_pay 77 = .ok (.ireturn, 1) := by decide +kernel
theorem dX11_seal_0 : decode cX11_seal 0 = .ok (.aload_n 0, 1) := by decide +kernel
theorem dX11_seal_1 : decode cX11_seal 1 = .ok (.iload_n 1, 1) := by decide +kernel
theorem dX11_seal_2 : decode cX11_seal 2 = .ok (.invokevirtual 172, 3) := by decide +kernel
theorem dX11_seal_5 : decode cX11_seal 5 = .ok (.ifCond .ne 13, 3) := by decide +kernel
theorem dX11_seal_8 : decode cX11_seal 8 = .ok (.iload_n 2, 1) := by decide +kernel
theorem dX11_seal_9 : decode cX11_seal 9 = .ok (.iconst 1, 1) := by decide +kernel
theorem dX11_seal_10 : decode cX11_seal 10 = .ok (.ldc 168, 2) := by decide +kernel
theorem dX11_seal_12 : decode cX11_seal 12 = .ok (.invokestatic 98, 3) := by decide +kernel
theorem dX11_seal_15 : decode cX11_seal 15 = .ok (.ifCond .eq 6, 3) := by decide +kernel
theorem dX11_seal_18 : decode cX11_seal 18 = .ok (.bipush (-2), 2) := by decide +kernel
theorem dX11_seal_20 : decode cX11_seal 20 = .ok (.ireturn, 1) := by decide +kernel
theorem dX11_seal_21 : decode cX11_seal 21 = .ok (.aload_n 0, 1) := by decide +kernel
theorem dX11_seal_22 : decode cX11_seal 22 = .ok (.getfield 12, 3) := by decide +kernel
theorem dX11_seal_25 : decode cX11_seal 25 = .ok (.getfield 169, 3) := by decide +kernel
theorem dX11_seal_28 : decode cX11_seal 28 = .ok (.iload_n 1, 1) := by decide +kernel
theorem dX11_seal_29 : decode cX11_seal 29 = .ok (.iconst 5, 1) := by decide +kernel
theorem dX11_seal_30 : decode cX11_seal 30 = .ok (.invokevirtual 119, 3) := by decide +kernel
theorem dX11_seal_33 : decode cX11_seal 33 = .ok (.iconst (-1), 1) := by decide +kernel
theorem dX11_seal_34 : decode cX11_seal 34 = .ok (.if_icmp .eq 6, 3) := by decide +kernel
theorem dX11_seal_37 : decode cX11_seal 37 = .ok (.bipush (-3), 2) := by decide +kernel
theorem dX11_seal_39 : decode cX11_seal 39 = .ok (.ireturn, 1) := by decide +kernel
theorem dX11_seal_40 : decode cX11_seal 40 = .ok (.aload_n 0, 1) := by decide +kernel
theorem dX11_seal_41 : decode cX11_seal 41 = .ok (.getfield 12, 3) := by decide +kernel
theorem dX11_seal_44 : decode cX11_seal 44 = .ok (.getfield 169, 3) := by decide +kernel
theorem dX11_seal_47 : decode cX11_seal 47 = .ok (.iload_n 1, 1) := by decide +kernel
theorem dX11_seal_48 : decode cX11_seal 48 = .ok (.iconst 5, 1) := by decide +kernel
theorem dX11_seal_49 : decode cX11_seal 49 = .ok (.iload_n 2, 1) := by decide +kernel
theorem dX11_seal_50 : decode cX11_seal 50 = .ok (.invokevirtual 123, 3) := by decide +kernel
theorem dX11_seal_53 : decode cX11_seal 53 = .ok (.iconst 1, 1) := by decide +kernel
theorem dX11_seal_54 : decode cX11_seal 54 = .ok (.ireturn, 1) := by decide +kernel
theorem dX11_breaks_0 : decode cX11_breaks 0 = .ok (.aload_n 0, 1) := by decide +kernel
theorem dX11_breaks_1 : decode cX11_breaks 1 = .ok (.iload_n 1, 1) := by decide +kernel
theorem dX11_breaks_2 : decode cX11_breaks 2 = .ok (.invokevirtual 172, 3) := by decide +kernel
theorem dX11_breaks_5 : decode cX11_breaks 5 = .ok (.ifCond .ne 10, 3) := by decide +kernel
theorem dX11_breaks_8 : decode cX11_breaks 8 = .ok (.iload_n 2, 1) := by decide +kernel
theorem dX11_breaks_9 : decode cX11_breaks 9 = .ok (.invokestatic 131, 3) := by decide +kernel
theorem dX11_breaks_12 : decode cX11_breaks 12 = .ok (.ifCond .eq 6, 3) := by decide +kernel
theorem dX11_breaks_15 : decode cX11_breaks 15 = .ok (.bipush (-2), 2) := by decide +kernel
theorem dX11_breaks_17 : decode cX11_breaks 17 = .ok (.ireturn, 1) := by decide +kernel
theorem dX11_breaks_18 : decode cX11_breaks 18 = .ok (.aload_n 0, 1) := by decide +kernel
theorem dX11_breaks_19 : decode cX11_breaks 19 = .ok (.getfield 12, 3) := by decide +kernel
theorem dX11_breaks_22 : decode cX11_breaks 22 = .ok (.getfield 169, 3) := by decide +kernel
theorem dX11_breaks_25 : decode cX11_breaks 25 = .ok (.iload_n 1, 1) := by decide +kernel
theorem dX11_breaks_26 : decode cX11_breaks 26 = .ok (.iconst 5, 1) := by decide +kernel
theorem dX11_breaks_27 : decode cX11_breaks 27 = .ok (.invokevirtual 119, 3) := by decide +kernel
theorem dX11_breaks_30 : decode cX11_breaks 30 = .ok (.iconst (-1), 1) := by decide +kernel
theorem dX11_breaks_31 : decode cX11_breaks 31 = .ok (.if_icmp .eq 20, 3) := by decide +kernel
theorem dX11_breaks_34 : decode cX11_breaks 34 = .ok (.aload_n 0, 1) := by decide +kernel
theorem dX11_breaks_35 : decode cX11_breaks 35 = .ok (.getfield 12, 3) := by decide +kernel
theorem dX11_breaks_38 : decode cX11_breaks 38 = .ok (.getfield 169, 3) := by decide +kernel
theorem dX11_breaks_41 : decode cX11_breaks 41 = .ok (.iload_n 1, 1) := by decide +kernel
theorem dX11_breaks_42 : decode cX11_breaks 42 = .ok (.bipush 6, 2) := by decide +kernel
theorem dX11_breaks_44 : decode cX11_breaks 44 = .ok (.invokevirtual 119, 3) := by decide +kernel
theorem dX11_breaks_47 : decode cX11_breaks 47 = .ok (.iconst (-1), 1) := by decide +kernel
theorem dX11_breaks_48 : decode cX11_breaks 48 = .ok (.if_icmp .eq 6, 3) := by decide +kernel
theorem dX11_breaks_51 : decode cX11_breaks 51 = .ok (.bipush (-3), 2) := by decide +kernel
theorem dX11_breaks_53 : decode cX11_breaks 53 = .ok (.ireturn, 1) := by decide +kernel
theorem dX11_breaks_54 : decode cX11_breaks 54 = .ok (.aload_n 0, 1) := by decide +kernel
theorem dX11_breaks_55 : decode cX11_breaks 55 = .ok (.getfield 12, 3) := by decide +kernel
theorem dX11_breaks_58 : decode cX11_breaks 58 = .ok (.getfield 169, 3) := by decide +kernel
theorem dX11_breaks_61 : decode cX11_breaks 61 = .ok (.iload_n 1, 1) := by decide +kernel
theorem dX11_breaks_62 : decode cX11_breaks 62 = .ok (.bipush 6, 2) := by decide +kernel
theorem dX11_breaks_64 : decode cX11_breaks 64 = .ok (.iload_n 2, 1) := by decide +kernel
theorem dX11_breaks_65 : decode cX11_breaks 65 = .ok (.invokevirtual 123, 3) := by decide +kernel
theorem dX11_breaks_68 : decode cX11_breaks 68 = .ok (.iconst 1, 1) := by decide +kernel
theorem dX11_breaks_69 : decode cX11_breaks 69 = .ok (.ireturn, 1) := by decide +kernel
theorem dX11_owed_0 : decode cX11_owed 0 = .ok (.aload_n 0, 1) := by decide +kernel
theorem dX11_owed_1 : decode cX11_owed 1 = .ok (.iload_n 1, 1) := by decide +kernel
theorem dX11_owed_2 : decode cX11_owed 2 = .ok (.invokevirtual 172, 3) := by decide +kernel
theorem dX11_owed_5 : decode cX11_owed 5 = .ok (.ifCond .ne 10, 3) := by decide +kernel
theorem dX11_owed_8 : decode cX11_owed 8 = .ok (.iload_n 2, 1) := by decide +kernel
theorem dX11_owed_9 : decode cX11_owed 9 = .ok (.invokestatic 131, 3) := by decide +kernel
theorem dX11_owed_12 : decode cX11_owed 12 = .ok (.ifCond .eq 9, 3) := by decide +kernel
theorem dX11_owed_15 : decode cX11_owed 15 = .ok (.ldc2_w 178, 3) := by decide +kernel
theorem dX11_owed_18 : decode cX11_owed 18 = .ok (.goto 12, 3) := by decide +kernel
theorem dX11_owed_21 : decode cX11_owed 21 = .ok (.aload_n 0, 1) := by decide +kernel
theorem dX11_owed_22 : decode cX11_owed 22 = .ok (.getfield 41, 3) := by decide +kernel
theorem dX11_owed_25 : decode cX11_owed 25 = .ok (.iload_n 1, 1) := by decide +kernel
theorem dX11_owed_26 : decode cX11_owed 26 = .ok (.iload_n 2, 1) := by decide +kernel
theorem dX11_owed_27 : decode cX11_owed 27 = .ok (.invokevirtual 180, 3) := by decide +kernel
theorem dX11_owed_30 : decode cX11_owed 30 = .ok (.lreturn, 1) := by decide +kernel
theorem dX11_purse_0 : decode cX11_purse 0 = .ok (.aload_n 0, 1) := by decide +kernel
theorem dX11_purse_1 : decode cX11_purse 1 = .ok (.iload_n 1, 1) := by decide +kernel
theorem dX11_purse_2 : decode cX11_purse 2 = .ok (.invokevirtual 165, 3) := by decide +kernel
theorem dX11_purse_5 : decode cX11_purse 5 = .ok (.ifCond .ne 21, 3) := by decide +kernel
theorem dX11_purse_8 : decode cX11_purse 8 = .ok (.iload_n 2, 1) := by decide +kernel
theorem dX11_purse_9 : decode cX11_purse 9 = .ok (.invokestatic 131, 3) := by decide +kernel
theorem dX11_purse_12 : decode cX11_purse 12 = .ok (.ifCond .ne 14, 3) := by decide +kernel
theorem dX11_purse_15 : decode cX11_purse 15 = .ok (.iload_n 3, 1) := by decide +kernel
theorem dX11_purse_16 : decode cX11_purse 16 = .ok (.iconst 1, 1) := by decide +kernel
theorem dX11_purse_17 : decode cX11_purse 17 = .ok (.sipush 10000, 3) := by decide +kernel
theorem dX11_purse_20 : decode cX11_purse 20 = .ok (.invokestatic 98, 3) := by decide +kernel
theorem dX11_purse_23 : decode cX11_purse 23 = .ok (.ifCond .eq 6, 3) := by decide +kernel
theorem dX11_purse_26 : decode cX11_purse 26 = .ok (.bipush (-2), 2) := by decide +kernel
theorem dX11_purse_28 : decode cX11_purse 28 = .ok (.ireturn, 1) := by decide +kernel
theorem dX11_purse_29 : decode cX11_purse 29 = .ok (.aload_n 0, 1) := by decide +kernel
theorem dX11_purse_30 : decode cX11_purse 30 = .ok (.getfield 12, 3) := by decide +kernel
theorem dX11_purse_33 : decode cX11_purse 33 = .ok (.getfield 184, 3) := by decide +kernel
theorem dX11_purse_36 : decode cX11_purse 36 = .ok (.invokevirtual 106, 3) := by decide +kernel
theorem dX11_purse_39 : decode cX11_purse 39 = .ok (.ifCond .eq 6, 3) := by decide +kernel
theorem dX11_purse_42 : decode cX11_purse 42 = .ok (.bipush (-4), 2) := by decide +kernel
theorem dX11_purse_44 : decode cX11_purse 44 = .ok (.ireturn, 1) := by decide +kernel
theorem dX11_purse_45 : decode cX11_purse 45 = .ok (.aload_n 0, 1) := by decide +kernel
theorem dX11_purse_46 : decode cX11_purse 46 = .ok (.getfield 12, 3) := by decide +kernel
theorem dX11_purse_49 : decode cX11_purse 49 = .ok (.getfield 184, 3) := by decide +kernel
theorem dX11_purse_52 : decode cX11_purse 52 = .ok (.iload_n 1, 1) := by decide +kernel
theorem dX11_purse_53 : decode cX11_purse 53 = .ok (.iload_n 2, 1) := by decide +kernel
theorem dX11_purse_54 : decode cX11_purse 54 = .ok (.iload_n 3, 1) := by decide +kernel
theorem dX11_purse_55 : decode cX11_purse 55 = .ok (.iconst 0, 1) := by decide +kernel
theorem dX11_purse_56 : decode cX11_purse 56 = .ok (.iconst 0, 1) := by decide +kernel
theorem dX11_purse_57 : decode cX11_purse 57 = .ok (.invokevirtual 112, 3) := by decide +kernel
theorem dX11_purse_60 : decode cX11_purse 60 = .ok (.ireturn, 1) := by decide +kernel
theorem dX11_share_0 : decode cX11_share 0 = .ok (.aload_n 0, 1) := by decide +kernel
theorem dX11_share_1 : decode cX11_share 1 = .ok (.iload_n 1, 1) := by decide +kernel
theorem dX11_share_2 : decode cX11_share 2 = .ok (.invokevirtual 187, 3) := by decide +kernel
theorem dX11_share_5 : decode cX11_share 5 = .ok (.ifCond .ne 21, 3) := by decide +kernel
theorem dX11_share_8 : decode cX11_share 8 = .ok (.aload_n 0, 1) := by decide +kernel
theorem dX11_share_9 : decode cX11_share 9 = .ok (.iload_n 2, 1) := by decide +kernel
theorem dX11_share_10 : decode cX11_share 10 = .ok (.invokevirtual 165, 3) := by decide +kernel
theorem dX11_share_13 : decode cX11_share 13 = .ok (.ifCond .ne 13, 3) := by decide +kernel
theorem dX11_share_16 : decode cX11_share 16 = .ok (.iload_n 3, 1) := by decide +kernel
theorem dX11_share_17 : decode cX11_share 17 = .ok (.iconst 1, 1) := by decide +kernel
theorem dX11_share_18 : decode cX11_share 18 = .ok (.bipush 30, 2) := by decide +kernel
theorem dX11_share_20 : decode cX11_share 20 = .ok (.invokestatic 98, 3) := by decide +kernel
theorem dX11_share_23 : decode cX11_share 23 = .ok (.ifCond .eq 6, 3) := by decide +kernel
theorem dX11_share_26 : decode cX11_share 26 = .ok (.bipush (-2), 2) := by decide +kernel
theorem dX11_share_28 : decode cX11_share 28 = .ok (.ireturn, 1) := by decide +kernel
theorem dX11_share_29 : decode cX11_share 29 = .ok (.aload_n 0, 1) := by decide +kernel
theorem dX11_share_30 : decode cX11_share 30 = .ok (.getfield 41, 3) := by decide +kernel
theorem dX11_share_33 : decode cX11_share 33 = .ok (.iload_n 1, 1) := by decide +kernel
theorem dX11_share_34 : decode cX11_share 34 = .ok (.invokevirtual 190, 3) := by decide +kernel
theorem dX11_share_37 : decode cX11_share 37 = .ok (.iload_n 3, 1) := by decide +kernel
theorem dX11_share_38 : decode cX11_share 38 = .ok (.iadd, 1) := by decide +kernel
theorem dX11_share_39 : decode cX11_share 39 = .ok (.bipush 30, 2) := by decide +kernel
theorem dX11_share_41 : decode cX11_share 41 = .ok (.if_icmp .le 6, 3) := by decide +kernel
theorem dX11_share_44 : decode cX11_share 44 = .ok (.bipush (-3), 2) := by decide +kernel
theorem dX11_share_46 : decode cX11_share 46 = .ok (.ireturn, 1) := by decide +kernel
theorem dX11_share_47 : decode cX11_share 47 = .ok (.aload_n 0, 1) := by decide +kernel
theorem dX11_share_48 : decode cX11_share 48 = .ok (.getfield 12, 3) := by decide +kernel
theorem dX11_share_51 : decode cX11_share 51 = .ok (.getfield 184, 3) := by decide +kernel
theorem dX11_share_54 : decode cX11_share 54 = .ok (.iload_n 1, 1) := by decide +kernel
theorem dX11_share_55 : decode cX11_share 55 = .ok (.iconst 3, 1) := by decide +kernel
theorem dX11_share_56 : decode cX11_share 56 = .ok (.iload_n 2, 1) := by decide +kernel
theorem dX11_share_57 : decode cX11_share 57 = .ok (.iadd, 1) := by decide +kernel
theorem dX11_share_58 : decode cX11_share 58 = .ok (.invokevirtual 119, 3) := by decide +kernel
theorem dX11_share_61 : decode cX11_share 61 = .ok (.iload_n 3, 1) := by decide +kernel
theorem dX11_share_62 : decode cX11_share 62 = .ok (.iadd, 1) := by decide +kernel
theorem dX11_share_63 : decode cX11_share 63 = .ok (.istore 4, 2) := by decide +kernel
theorem dX11_share_65 : decode cX11_share 65 = .ok (.aload_n 0, 1) := by decide +kernel
theorem dX11_share_66 : decode cX11_share 66 = .ok (.getfield 12, 3) := by decide +kernel
theorem dX11_share_69 : decode cX11_share 69 = .ok (.getfield 184, 3) := by decide +kernel
theorem dX11_share_72 : decode cX11_share 72 = .ok (.iload_n 1, 1) := by decide +kernel
theorem dX11_share_73 : decode cX11_share 73 = .ok (.iconst 3, 1) := by decide +kernel
theorem dX11_share_74 : decode cX11_share 74 = .ok (.iload_n 2, 1) := by decide +kernel
theorem dX11_share_75 : decode cX11_share 75 = .ok (.iadd, 1) := by decide +kernel
theorem dX11_share_76 : decode cX11_share 76 = .ok (.iload 4, 2) := by decide +kernel
theorem dX11_share_78 : decode cX11_share 78 = .ok (.invokevirtual 123, 3) := by decide +kernel
theorem dX11_share_81 : decode cX11_share 81 = .ok (.iload 4, 2) := by decide +kernel
theorem dX11_share_83 : decode cX11_share 83 = .ok (.ireturn, 1) := by decide +kernel
theorem dX11_leave_0 : decode cX11_leave 0 = .ok (.aload_n 0, 1) := by decide +kernel
theorem dX11_leave_1 : decode cX11_leave 1 = .ok (.iload_n 1, 1) := by decide +kernel
theorem dX11_leave_2 : decode cX11_leave 2 = .ok (.invokevirtual 187, 3) := by decide +kernel
theorem dX11_leave_5 : decode cX11_leave 5 = .ok (.ifCond .ne 34, 3) := by decide +kernel
theorem dX11_leave_8 : decode cX11_leave 8 = .ok (.aload_n 0, 1) := by decide +kernel
theorem dX11_leave_9 : decode cX11_leave 9 = .ok (.iload_n 2, 1) := by decide +kernel
theorem dX11_leave_10 : decode cX11_leave 10 = .ok (.invokevirtual 165, 3) := by decide +kernel
theorem dX11_leave_13 : decode cX11_leave 13 = .ok (.ifCond .ne 26, 3) := by decide +kernel
theorem dX11_leave_16 : decode cX11_leave 16 = .ok (.iload_n 3, 1) := by decide +kernel
theorem dX11_leave_17 : decode cX11_leave 17 = .ok (.invokestatic 131, 3) := by decide +kernel
theorem dX11_leave_20 : decode cX11_leave 20 = .ok (.ifCond .ne 19, 3) := by decide +kernel
theorem dX11_leave_23 : decode cX11_leave 23 = .ok (.iload_n 3, 1) := by decide +kernel
theorem dX11_leave_24 : decode cX11_leave 24 = .ok (.aload_n 0, 1) := by decide +kernel
theorem dX11_leave_25 : decode cX11_leave 25 = .ok (.getfield 12, 3) := by decide +kernel
theorem dX11_leave_28 : decode cX11_leave 28 = .ok (.getfield 184, 3) := by decide +kernel
theorem dX11_leave_31 : decode cX11_leave 31 = .ok (.iload_n 1, 1) := by decide +kernel
theorem dX11_leave_32 : decode cX11_leave 32 = .ok (.iconst 1, 1) := by decide +kernel
theorem dX11_leave_33 : decode cX11_leave 33 = .ok (.invokevirtual 119, 3) := by decide +kernel
theorem dX11_leave_36 : decode cX11_leave 36 = .ok (.if_icmp .lt 6, 3) := by decide +kernel
theorem dX11_leave_39 : decode cX11_leave 39 = .ok (.bipush (-2), 2) := by decide +kernel
theorem dX11_leave_41 : decode cX11_leave 41 = .ok (.ireturn, 1) := by decide +kernel
theorem dX11_leave_42 : decode cX11_leave 42 = .ok (.aload_n 0, 1) := by decide +kernel
theorem dX11_leave_43 : decode cX11_leave 43 = .ok (.getfield 12, 3) := by decide +kernel
theorem dX11_leave_46 : decode cX11_leave 46 = .ok (.getfield 184, 3) := by decide +kernel
theorem dX11_leave_49 : decode cX11_leave 49 = .ok (.iload_n 1, 1) := by decide +kernel
theorem dX11_leave_50 : decode cX11_leave 50 = .ok (.iconst 3, 1) := by decide +kernel
theorem dX11_leave_51 : decode cX11_leave 51 = .ok (.iload_n 2, 1) := by decide +kernel
theorem dX11_leave_52 : decode cX11_leave 52 = .ok (.iadd, 1) := by decide +kernel
theorem dX11_leave_53 : decode cX11_leave 53 = .ok (.invokevirtual 119, 3) := by decide +kernel
theorem dX11_leave_56 : decode cX11_leave 56 = .ok (.ifCond .ne 6, 3) := by decide +kernel
theorem dX11_leave_59 : decode cX11_leave 59 = .ok (.bipush (-3), 2) := by decide +kernel
theorem dX11_leave_61 : decode cX11_leave 61 = .ok (.ireturn, 1) := by decide +kernel
theorem dX11_leave_62 : decode cX11_leave 62 = .ok (.aload_n 0, 1) := by decide +kernel
theorem dX11_leave_63 : decode cX11_leave 63 = .ok (.getfield 41, 3) := by decide +kernel
theorem dX11_leave_66 : decode cX11_leave 66 = .ok (.iload_n 1, 1) := by decide +kernel
theorem dX11_leave_67 : decode cX11_leave 67 = .ok (.iload_n 2, 1) := by decide +kernel
theorem dX11_leave_68 : decode cX11_leave 68 = .ok (.iload_n 3, 1) := by decide +kernel
theorem dX11_leave_69 : decode cX11_leave 69 = .ok (.invokevirtual 194, 3) := by decide +kernel
theorem dX11_leave_72 : decode cX11_leave 72 = .ok (.istore 4, 2) := by decide +kernel
theorem dX11_leave_74 : decode cX11_leave 74 = .ok (.aload_n 0, 1) := by decide +kernel
theorem dX11_leave_75 : decode cX11_leave 75 = .ok (.getfield 12, 3) := by decide +kernel
theorem dX11_leave_78 : decode cX11_leave 78 = .ok (.getfield 184, 3) := by decide +kernel
theorem dX11_leave_81 : decode cX11_leave 81 = .ok (.iload_n 1, 1) := by decide +kernel
theorem dX11_leave_82 : decode cX11_leave 82 = .ok (.iconst 3, 1) := by decide +kernel
theorem dX11_leave_83 : decode cX11_leave 83 = .ok (.iload_n 2, 1) := by decide +kernel
theorem dX11_leave_84 : decode cX11_leave 84 = .ok (.iadd, 1) := by decide +kernel
theorem dX11_leave_85 : decode cX11_leave 85 = .ok (.iconst 0, 1) := by decide +kernel
theorem dX11_leave_86 : decode cX11_leave 86 = .ok (.invokevirtual 123, 3) := by decide +kernel
theorem dX11_leave_89 : decode cX11_leave 89 = .ok (.iload 4, 2) := by decide +kernel
theorem dX11_leave_91 : decode cX11_leave 91 = .ok (.ireturn, 1) := by decide +kernel
theorem dX11_parted_0 : decode cX11_parted 0 = .ok (.aload_n 0, 1) := by decide +kernel
theorem dX11_parted_1 : decode cX11_parted 1 = .ok (.iload_n 1, 1) := by decide +kernel
theorem dX11_parted_2 : decode cX11_parted 2 = .ok (.invokevirtual 187, 3) := by decide +kernel
theorem dX11_parted_5 : decode cX11_parted 5 = .ok (.ifCond .ne 21, 3) := by decide +kernel
theorem dX11_parted_8 : decode cX11_parted 8 = .ok (.iload_n 2, 1) := by decide +kernel
theorem dX11_parted_9 : decode cX11_parted 9 = .ok (.iconst 0, 1) := by decide +kernel
theorem dX11_parted_10 : decode cX11_parted 10 = .ok (.ldc 198, 2) := by decide +kernel
theorem dX11_parted_12 : decode cX11_parted 12 = .ok (.invokestatic 98, 3) := by decide +kernel
theorem dX11_parted_15 : decode cX11_parted 15 = .ok (.ifCond .ne 11, 3) := by decide +kernel
theorem dX11_parted_18 : decode cX11_parted 18 = .ok (.aload_n 0, 1) := by decide +kernel
theorem dX11_parted_19 : decode cX11_parted 19 = .ok (.iload_n 3, 1) := by decide +kernel
theorem dX11_parted_20 : decode cX11_parted 20 = .ok (.invokevirtual 165, 3) := by decide +kernel
theorem dX11_parted_23 : decode cX11_parted 23 = .ok (.ifCond .eq 6, 3) := by decide +kernel
theorem dX11_parted_26 : decode cX11_parted 26 = .ok (.bipush (-2), 2) := by decide +kernel
theorem dX11_parted_28 : decode cX11_parted 28 = .ok (.ireturn, 1) := by decide +kernel
theorem dX11_parted_29 : decode cX11_parted 29 = .ok (.aload_n 0, 1) := by decide +kernel
theorem dX11_parted_30 : decode cX11_parted 30 = .ok (.getfield 41, 3) := by decide +kernel
theorem dX11_parted_33 : decode cX11_parted 33 = .ok (.iload_n 1, 1) := by decide +kernel
theorem dX11_parted_34 : decode cX11_parted 34 = .ok (.iload_n 2, 1) := by decide +kernel
theorem dX11_parted_35 : decode cX11_parted 35 = .ok (.iload_n 3, 1) := by decide +kernel
theorem dX11_parted_36 : decode cX11_parted 36 = .ok (.invokevirtual 199, 3) := by decide +kernel
theorem dX11_parted_39 : decode cX11_parted 39 = .ok (.ireturn, 1) := by decide +kernel
theorem dX11_gate_0 : decode cX11_gate 0 = .ok (.iload_n 1, 1) := by decide +kernel
theorem dX11_gate_1 : decode cX11_gate 1 = .ok (.iconst 0, 1) := by decide +kernel
theorem dX11_gate_2 : decode cX11_gate 2 = .ok (.iconst 1, 1) := by decide +kernel
theorem dX11_gate_3 : decode cX11_gate 3 = .ok (.invokestatic 98, 3) := by decide +kernel
theorem dX11_gate_6 : decode cX11_gate 6 = .ok (.ifCond .eq 6, 3) := by decide +kernel
theorem dX11_gate_9 : decode cX11_gate 9 = .ok (.bipush (-2), 2) := by decide +kernel
theorem dX11_gate_11 : decode cX11_gate 11 = .ok (.ireturn, 1) := by decide +kernel
theorem dX11_gate_12 : decode cX11_gate 12 = .ok (.aload_n 0, 1) := by decide +kernel
theorem dX11_gate_13 : decode cX11_gate 13 = .ok (.getfield 12, 3) := by decide +kernel
theorem dX11_gate_16 : decode cX11_gate 16 = .ok (.getfield 202, 3) := by decide +kernel
theorem dX11_gate_19 : decode cX11_gate 19 = .ok (.invokevirtual 106, 3) := by decide +kernel
theorem dX11_gate_22 : decode cX11_gate 22 = .ok (.ifCond .eq 6, 3) := by decide +kernel
theorem dX11_gate_25 : decode cX11_gate 25 = .ok (.bipush (-4), 2) := by decide +kernel
theorem dX11_gate_27 : decode cX11_gate 27 = .ok (.ireturn, 1) := by decide +kernel
theorem dX11_gate_28 : decode cX11_gate 28 = .ok (.aload_n 0, 1) := by decide +kernel
theorem dX11_gate_29 : decode cX11_gate 29 = .ok (.getfield 12, 3) := by decide +kernel
theorem dX11_gate_32 : decode cX11_gate 32 = .ok (.getfield 202, 3) := by decide +kernel
theorem dX11_gate_35 : decode cX11_gate 35 = .ok (.iload_n 1, 1) := by decide +kernel
theorem dX11_gate_36 : decode cX11_gate 36 = .ok (.iconst 0, 1) := by decide +kernel
theorem dX11_gate_37 : decode cX11_gate 37 = .ok (.iconst 0, 1) := by decide +kernel
theorem dX11_gate_38 : decode cX11_gate 38 = .ok (.iconst 0, 1) := by decide +kernel
theorem dX11_gate_39 : decode cX11_gate 39 = .ok (.iconst 0, 1) := by decide +kernel
theorem dX11_gate_40 : decode cX11_gate 40 = .ok (.invokevirtual 112, 3) := by decide +kernel
theorem dX11_gate_43 : decode cX11_gate 43 = .ok (.iconst 1, 1) := by decide +kernel
theorem dX11_gate_44 : decode cX11_gate 44 = .ok (.iadd, 1) := by decide +kernel
theorem dX11_gate_45 : decode cX11_gate 45 = .ok (.ireturn, 1) := by decide +kernel
theorem dX11_wide_0 : decode cX11_wide 0 = .ok (.aload_n 0, 1) := by decide +kernel
theorem dX11_wide_1 : decode cX11_wide 1 = .ok (.iload_n 1, 1) := by decide +kernel
theorem dX11_wide_2 : decode cX11_wide 2 = .ok (.iload_n 2, 1) := by decide +kernel
theorem dX11_wide_3 : decode cX11_wide 3 = .ok (.invokevirtual 205, 3) := by decide +kernel
theorem dX11_wide_6 : decode cX11_wide 6 = .ok (.ifCond .ne 10, 3) := by decide +kernel
theorem dX11_wide_9 : decode cX11_wide 9 = .ok (.iload_n 3, 1) := by decide +kernel
theorem dX11_wide_10 : decode cX11_wide 10 = .ok (.invokestatic 131, 3) := by decide +kernel
theorem dX11_wide_13 : decode cX11_wide 13 = .ok (.ifCond .eq 8, 3) := by decide +kernel
theorem dX11_wide_16 : decode cX11_wide 16 = .ok (.bipush (-2), 2) := by decide +kernel
theorem dX11_wide_18 : decode cX11_wide 18 = .ok (.goto 13, 3) := by decide +kernel
theorem dX11_wide_21 : decode cX11_wide 21 = .ok (.aload_n 0, 1) := by decide +kernel
theorem dX11_wide_22 : decode cX11_wide 22 = .ok (.getfield 57, 3) := by decide +kernel
theorem dX11_wide_25 : decode cX11_wide 25 = .ok (.iload_n 1, 1) := by decide +kernel
theorem dX11_wide_26 : decode cX11_wide 26 = .ok (.iload_n 2, 1) := by decide +kernel
theorem dX11_wide_27 : decode cX11_wide 27 = .ok (.iload_n 3, 1) := by decide +kernel
theorem dX11_wide_28 : decode cX11_wide 28 = .ok (.invokevirtual 209, 3) := by decide +kernel
theorem dX11_wide_31 : decode cX11_wide 31 = .ok (.ireturn, 1) := by decide +kernel
theorem dX11_narrow_0 : decode cX11_narrow 0 = .ok (.iload_n 1, 1) := by decide +kernel
theorem dX11_narrow_1 : decode cX11_narrow 1 = .ok (.iconst 2, 1) := by decide +kernel
theorem dX11_narrow_2 : decode cX11_narrow 2 = .ok (.bipush 100, 2) := by decide +kernel
theorem dX11_narrow_4 : decode cX11_narrow 4 = .ok (.invokestatic 98, 3) := by decide +kernel
theorem dX11_narrow_7 : decode cX11_narrow 7 = .ok (.ifCond .eq 6, 3) := by decide +kernel
theorem dX11_narrow_10 : decode cX11_narrow 10 = .ok (.bipush (-2), 2) := by decide +kernel
theorem dX11_narrow_12 : decode cX11_narrow 12 = .ok (.ireturn, 1) := by decide +kernel
theorem dX11_narrow_13 : decode cX11_narrow 13 = .ok (.aload_n 0, 1) := by decide +kernel
theorem dX11_narrow_14 : decode cX11_narrow 14 = .ok (.getfield 12, 3) := by decide +kernel
theorem dX11_narrow_17 : decode cX11_narrow 17 = .ok (.getfield 212, 3) := by decide +kernel
theorem dX11_narrow_20 : decode cX11_narrow 20 = .ok (.istore_n 2, 1) := by decide +kernel
theorem dX11_narrow_21 : decode cX11_narrow 21 = .ok (.aload_n 0, 1) := by decide +kernel
theorem dX11_narrow_22 : decode cX11_narrow 22 = .ok (.getfield 12, 3) := by decide +kernel
theorem dX11_narrow_25 : decode cX11_narrow 25 = .ok (.iload_n 1, 1) := by decide +kernel
theorem dX11_narrow_26 : decode cX11_narrow 26 = .ok (.putfield 212, 3) := by decide +kernel
theorem dX11_narrow_29 : decode cX11_narrow 29 = .ok (.iload_n 2, 1) := by decide +kernel
theorem dX11_narrow_30 : decode cX11_narrow 30 = .ok (.ireturn, 1) := by decide +kernel
theorem dX11_mean_0 : decode cX11_mean 0 = .ok (.iload_n 1, 1) := by decide +kernel
theorem dX11_mean_1 : decode cX11_mean 1 = .ok (.iconst 1, 1) := by decide +kernel
theorem dX11_mean_2 : decode cX11_mean 2 = .ok (.ldc 168, 2) := by decide +kernel
theorem dX11_mean_4 : decode cX11_mean 4 = .ok (.invokestatic 98, 3) := by decide +kernel
theorem dX11_mean_7 : decode cX11_mean 7 = .ok (.ifCond .eq 6, 3) := by decide +kernel
theorem dX11_mean_10 : decode cX11_mean 10 = .ok (.bipush (-2), 2) := by decide +kernel
theorem dX11_mean_12 : decode cX11_mean 12 = .ok (.ireturn, 1) := by decide +kernel
theorem dX11_mean_13 : decode cX11_mean 13 = .ok (.aload_n 0, 1) := by decide +kernel
theorem dX11_mean_14 : decode cX11_mean 14 = .ok (.iload_n 1, 1) := by decide +kernel
theorem dX11_mean_15 : decode cX11_mean 15 = .ok (.i2l, 1) := by decide +kernel
theorem dX11_mean_16 : decode cX11_mean 16 = .ok (.aload_n 0, 1) := by decide +kernel
theorem dX11_mean_17 : decode cX11_mean 17 = .ok (.getfield 12, 3) := by decide +kernel
theorem dX11_mean_20 : decode cX11_mean 20 = .ok (.getfield 212, 3) := by decide +kernel
theorem dX11_mean_23 : decode cX11_mean 23 = .ok (.iconst 1, 1) := by decide +kernel
theorem dX11_mean_24 : decode cX11_mean 24 = .ok (.isub, 1) := by decide +kernel
theorem dX11_mean_25 : decode cX11_mean 25 = .ok (.i2l, 1) := by decide +kernel
theorem dX11_mean_26 : decode cX11_mean 26 = .ok (.lmul, 1) := by decide +kernel
theorem dX11_mean_27 : decode cX11_mean 27 = .ok (.aload_n 0, 1) := by decide +kernel
theorem dX11_mean_28 : decode cX11_mean 28 = .ok (.getfield 12, 3) := by decide +kernel
theorem dX11_mean_31 : decode cX11_mean 31 = .ok (.getfield 212, 3) := by decide +kernel
theorem dX11_mean_34 : decode cX11_mean 34 = .ok (.i2l, 1) := by decide +kernel
theorem dX11_mean_35 : decode cX11_mean 35 = .ok (.invokevirtual 215, 3) := by decide +kernel
theorem dX11_mean_38 : decode cX11_mean 38 = .ok (.iconst 1, 1) := by decide +kernel
theorem dX11_mean_39 : decode cX11_mean 39 = .ok (.ireturn, 1) := by decide +kernel
theorem dX11_better_0 : decode cX11_better 0 = .ok (.aload_n 0, 1) := by decide +kernel
theorem dX11_better_1 : decode cX11_better 1 = .ok (.iload_n 1, 1) := by decide +kernel
theorem dX11_better_2 : decode cX11_better 2 = .ok (.iload_n 2, 1) := by decide +kernel
theorem dX11_better_3 : decode cX11_better 3 = .ok (.invokevirtual 205, 3) := by decide +kernel
theorem dX11_better_6 : decode cX11_better 6 = .ok (.ifCond .ne 10, 3) := by decide +kernel
theorem dX11_better_9 : decode cX11_better 9 = .ok (.iload_n 3, 1) := by decide +kernel
theorem dX11_better_10 : decode cX11_better 10 = .ok (.invokestatic 131, 3) := by decide +kernel
theorem dX11_better_13 : decode cX11_better 13 = .ok (.ifCond .eq 6, 3) := by decide +kernel
theorem dX11_better_16 : decode cX11_better 16 = .ok (.bipush (-2), 2) := by decide +kernel
theorem dX11_better_18 : decode cX11_better 18 = .ok (.ireturn, 1) := by decide +kernel
theorem dX11_better_19 : decode cX11_better 19 = .ok (.aload_n 0, 1) := by decide +kernel
theorem dX11_better_20 : decode cX11_better 20 = .ok (.getfield 57, 3) := by decide +kernel
theorem dX11_better_23 : decode cX11_better 23 = .ok (.iload_n 1, 1) := by decide +kernel
theorem dX11_better_24 : decode cX11_better 24 = .ok (.iload_n 2, 1) := by decide +kernel
theorem dX11_better_25 : decode cX11_better 25 = .ok (.iload_n 3, 1) := by decide +kernel
theorem dX11_better_26 : decode cX11_better 26 = .ok (.invokevirtual 209, 3) := by decide +kernel
theorem dX11_better_29 : decode cX11_better 29 = .ok (.i2l, 1) := by decide +kernel
theorem dX11_better_30 : decode cX11_better 30 = .ok (.lstore 4, 2) := by decide +kernel
theorem dX11_better_32 : decode cX11_better 32 = .ok (.iload_n 2, 1) := by decide +kernel
theorem dX11_better_33 : decode cX11_better 33 = .ok (.i2l, 1) := by decide +kernel
theorem dX11_better_34 : decode cX11_better 34 = .ok (.aload_n 0, 1) := by decide +kernel
theorem dX11_better_35 : decode cX11_better 35 = .ok (.getfield 12, 3) := by decide +kernel
theorem dX11_better_38 : decode cX11_better 38 = .ok (.getfield 212, 3) := by decide +kernel
theorem dX11_better_41 : decode cX11_better 41 = .ok (.iconst 1, 1) := by decide +kernel
theorem dX11_better_42 : decode cX11_better 42 = .ok (.isub, 1) := by decide +kernel
theorem dX11_better_43 : decode cX11_better 43 = .ok (.i2l, 1) := by decide +kernel
theorem dX11_better_44 : decode cX11_better 44 = .ok (.lmul, 1) := by decide +kernel
theorem dX11_better_45 : decode cX11_better 45 = .ok (.lload 4, 2) := by decide +kernel
theorem dX11_better_47 : decode cX11_better 47 = .ok (.aload_n 0, 1) := by decide +kernel
theorem dX11_better_48 : decode cX11_better 48 = .ok (.getfield 12, 3) := by decide +kernel
theorem dX11_better_51 : decode cX11_better 51 = .ok (.getfield 212, 3) := by decide +kernel
theorem dX11_better_54 : decode cX11_better 54 = .ok (.i2l, 1) := by decide +kernel
theorem dX11_better_55 : decode cX11_better 55 = .ok (.lmul, 1) := by decide +kernel
theorem dX11_better_56 : decode cX11_better 56 = .ok (.lcmp, 1) := by decide +kernel
theorem dX11_better_57 : decode cX11_better 57 = .ok (.ifCond .le 7, 3) := by decide +kernel
theorem dX11_better_60 : decode cX11_better 60 = .ok (.iconst 1, 1) := by decide +kernel
theorem dX11_better_61 : decode cX11_better 61 = .ok (.goto 4, 3) := by decide +kernel
theorem dX11_better_64 : decode cX11_better 64 = .ok (.iconst 0, 1) := by decide +kernel
theorem dX11_better_65 : decode cX11_better 65 = .ok (.ireturn, 1) := by decide +kernel
theorem dX11_stone_0 : decode cX11_stone 0 = .ok (.iload_n 1, 1) := by decide +kernel
theorem dX11_stone_1 : decode cX11_stone 1 = .ok (.iconst 1, 1) := by decide +kernel
theorem dX11_stone_2 : decode cX11_stone 2 = .ok (.sipush 10000, 3) := by decide +kernel
theorem dX11_stone_5 : decode cX11_stone 5 = .ok (.invokestatic 98, 3) := by decide +kernel
theorem dX11_stone_8 : decode cX11_stone 8 = .ok (.ifCond .ne 25, 3) := by decide +kernel
theorem dX11_stone_11 : decode cX11_stone 11 = .ok (.iload_n 2, 1) := by decide +kernel
theorem dX11_stone_12 : decode cX11_stone 12 = .ok (.iconst 1, 1) := by decide +kernel
theorem dX11_stone_13 : decode cX11_stone 13 = .ok (.sipush 10000, 3) := by decide +kernel
theorem dX11_stone_16 : decode cX11_stone 16 = .ok (.invokestatic 98, 3) := by decide +kernel
theorem dX11_stone_19 : decode cX11_stone 19 = .ok (.ifCond .ne 14, 3) := by decide +kernel
theorem dX11_stone_22 : decode cX11_stone 22 = .ok (.iload_n 3, 1) := by decide +kernel
theorem dX11_stone_23 : decode cX11_stone 23 = .ok (.iconst 0, 1) := by decide +kernel
theorem dX11_stone_24 : decode cX11_stone 24 = .ok (.iload_n 2, 1) := by decide +kernel
theorem dX11_stone_25 : decode cX11_stone 25 = .ok (.iconst 1, 1) := by decide +kernel
theorem dX11_stone_26 : decode cX11_stone 26 = .ok (.isub, 1) := by decide +kernel
theorem dX11_stone_27 : decode cX11_stone 27 = .ok (.invokestatic 98, 3) := by decide +kernel
theorem dX11_stone_30 : decode cX11_stone 30 = .ok (.ifCond .eq 6, 3) := by decide +kernel
theorem dX11_stone_33 : decode cX11_stone 33 = .ok (.bipush (-2), 2) := by decide +kernel
theorem dX11_stone_35 : decode cX11_stone 35 = .ok (.ireturn, 1) := by decide +kernel
theorem dX11_stone_36 : decode cX11_stone 36 = .ok (.aload_n 0, 1) := by decide +kernel
theorem dX11_stone_37 : decode cX11_stone 37 = .ok (.getfield 12, 3) := by decide +kernel
theorem dX11_stone_40 : decode cX11_stone 40 = .ok (.getfield 219, 3) := by decide +kernel
theorem dX11_stone_43 : decode cX11_stone 43 = .ok (.invokevirtual 106, 3) := by decide +kernel
theorem dX11_stone_46 : decode cX11_stone 46 = .ok (.ifCond .eq 6, 3) := by decide +kernel
theorem dX11_stone_49 : decode cX11_stone 49 = .ok (.bipush (-4), 2) := by decide +kernel
theorem dX11_stone_51 : decode cX11_stone 51 = .ok (.ireturn, 1) := by decide +kernel
theorem dX11_stone_52 : decode cX11_stone 52 = .ok (.aload_n 0, 1) := by decide +kernel
theorem dX11_stone_53 : decode cX11_stone 53 = .ok (.getfield 12, 3) := by decide +kernel
theorem dX11_stone_56 : decode cX11_stone 56 = .ok (.getfield 219, 3) := by decide +kernel
theorem dX11_stone_59 : decode cX11_stone 59 = .ok (.iload_n 1, 1) := by decide +kernel
theorem dX11_stone_60 : decode cX11_stone 60 = .ok (.iload_n 2, 1) := by decide +kernel
theorem dX11_stone_61 : decode cX11_stone 61 = .ok (.iload_n 3, 1) := by decide +kernel
theorem dX11_stone_62 : decode cX11_stone 62 = .ok (.iconst 0, 1) := by decide +kernel
theorem dX11_stone_63 : decode cX11_stone 63 = .ok (.iconst 0, 1) := by decide +kernel
theorem dX11_stone_64 : decode cX11_stone 64 = .ok (.invokevirtual 112, 3) := by decide +kernel
theorem dX11_stone_67 : decode cX11_stone 67 = .ok (.iconst 1, 1) := by decide +kernel
theorem dX11_stone_68 : decode cX11_stone 68 = .ok (.iadd, 1) := by decide +kernel
theorem dX11_stone_69 : decode cX11_stone 69 = .ok (.ireturn, 1) := by decide +kernel
theorem dX11_span_0 : decode cX11_span 0 = .ok (.iload_n 1, 1) := by decide +kernel
theorem dX11_span_1 : decode cX11_span 1 = .ok (.iconst 1, 1) := by decide +kernel
theorem dX11_span_2 : decode cX11_span 2 = .ok (.ldc 168, 2) := by decide +kernel
theorem dX11_span_4 : decode cX11_span 4 = .ok (.invokestatic 98, 3) := by decide +kernel
theorem dX11_span_7 : decode cX11_span 7 = .ok (.ifCond .ne 12, 3) := by decide +kernel
theorem dX11_span_10 : decode cX11_span 10 = .ok (.iload_n 2, 1) := by decide +kernel
theorem dX11_span_11 : decode cX11_span 11 = .ok (.iconst 0, 1) := by decide +kernel
theorem dX11_span_12 : decode cX11_span 12 = .ok (.iconst 1, 1) := by decide +kernel
theorem dX11_span_13 : decode cX11_span 13 = .ok (.invokestatic 98, 3) := by decide +kernel
theorem dX11_span_16 : decode cX11_span 16 = .ok (.ifCond .eq 6, 3) := by decide +kernel
theorem dX11_span_19 : decode cX11_span 19 = .ok (.bipush (-2), 2) := by decide +kernel
theorem dX11_span_21 : decode cX11_span 21 = .ok (.ireturn, 1) := by decide +kernel
theorem dX11_span_22 : decode cX11_span 22 = .ok (.aload_n 0, 1) := by decide +kernel
theorem dX11_span_23 : decode cX11_span 23 = .ok (.getfield 57, 3) := by decide +kernel
theorem dX11_span_26 : decode cX11_span 26 = .ok (.invokevirtual 222, 3) := by decide +kernel
theorem dX11_span_29 : decode cX11_span 29 = .ok (.ifCond .ne 5, 3) := by decide +kernel
theorem dX11_span_32 : decode cX11_span 32 = .ok (.iconst 0, 1) := by decide +kernel
theorem dX11_span_33 : decode cX11_span 33 = .ok (.ireturn, 1) := by decide +kernel
theorem dX11_span_34 : decode cX11_span 34 = .ok (.iload_n 2, 1) := by decide +kernel
theorem dX11_span_35 : decode cX11_span 35 = .ok (.ifCond .ne 13, 3) := by decide +kernel
theorem dX11_span_38 : decode cX11_span 38 = .ok (.aload_n 0, 1) := by decide +kernel
theorem dX11_span_39 : decode cX11_span 39 = .ok (.getfield 57, 3) := by decide +kernel
theorem dX11_span_42 : decode cX11_span 42 = .ok (.invokevirtual 225, 3) := by decide +kernel
theorem dX11_span_45 : decode cX11_span 45 = .ok (.goto 10, 3) := by decide +kernel
theorem dX11_span_48 : decode cX11_span 48 = .ok (.aload_n 0, 1) := by decide +kernel
theorem dX11_span_49 : decode cX11_span 49 = .ok (.getfield 57, 3) := by decide +kernel
theorem dX11_span_52 : decode cX11_span 52 = .ok (.invokevirtual 229, 3) := by decide +kernel
theorem dX11_span_55 : decode cX11_span 55 = .ok (.istore_n 3, 1) := by decide +kernel
theorem dX11_span_56 : decode cX11_span 56 = .ok (.iload_n 2, 1) := by decide +kernel
theorem dX11_span_57 : decode cX11_span 57 = .ok (.ifCond .ne 14, 3) := by decide +kernel
theorem dX11_span_60 : decode cX11_span 60 = .ok (.aload_n 0, 1) := by decide +kernel
theorem dX11_span_61 : decode cX11_span 61 = .ok (.getfield 57, 3) := by decide +kernel
theorem dX11_span_64 : decode cX11_span 64 = .ok (.iload_n 3, 1) := by decide +kernel
theorem dX11_span_65 : decode cX11_span 65 = .ok (.invokevirtual 232, 3) := by decide +kernel
theorem dX11_span_68 : decode cX11_span 68 = .ok (.goto 11, 3) := by decide +kernel
theorem dX11_span_71 : decode cX11_span 71 = .ok (.aload_n 0, 1) := by decide +kernel
theorem dX11_span_72 : decode cX11_span 72 = .ok (.getfield 57, 3) := by decide +kernel
theorem dX11_span_75 : decode cX11_span 75 = .ok (.iload_n 3, 1) := by decide +kernel
theorem dX11_span_76 : decode cX11_span 76 = .ok (.invokevirtual 236, 3) := by decide +kernel
theorem dX11_span_79 : decode cX11_span 79 = .ok (.lstore 4, 2) := by decide +kernel
theorem dX11_span_81 : decode cX11_span 81 = .ok (.aload_n 0, 1) := by decide +kernel
theorem dX11_span_82 : decode cX11_span 82 = .ok (.iload_n 1, 1) := by decide +kernel
theorem dX11_span_83 : decode cX11_span 83 = .ok (.i2l, 1) := by decide +kernel
theorem dX11_span_84 : decode cX11_span 84 = .ok (.lload 4, 2) := by decide +kernel
theorem dX11_span_86 : decode cX11_span 86 = .ok (.lmul, 1) := by decide +kernel
theorem dX11_span_87 : decode cX11_span 87 = .ok (.aload_n 0, 1) := by decide +kernel
theorem dX11_span_88 : decode cX11_span 88 = .ok (.getfield 12, 3) := by decide +kernel
theorem dX11_span_91 : decode cX11_span 91 = .ok (.getfield 219, 3) := by decide +kernel
theorem dX11_span_94 : decode cX11_span 94 = .ok (.iload_n 3, 1) := by decide +kernel
theorem dX11_span_95 : decode cX11_span 95 = .ok (.iconst 0, 1) := by decide +kernel
theorem dX11_span_96 : decode cX11_span 96 = .ok (.invokevirtual 119, 3) := by decide +kernel
theorem dX11_span_99 : decode cX11_span 99 = .ok (.i2l, 1) := by decide +kernel
theorem dX11_span_100 : decode cX11_span 100 = .ok (.invokevirtual 215, 3) := by decide +kernel
theorem dX11_span_103 : decode cX11_span 103 = .ok (.iconst 1, 1) := by decide +kernel
theorem dX11_span_104 : decode cX11_span 104 = .ok (.ireturn, 1) := by decide +kernel
theorem dX11_balance_0 : decode cX11_balance 0 = .ok (.aload_n 0, 1) := by decide +kernel
theorem dX11_balance_1 : decode cX11_balance 1 = .ok (.iload_n 1, 1) := by decide +kernel
theorem dX11_balance_2 : decode cX11_balance 2 = .ok (.invokevirtual 165, 3) := by decide +kernel
theorem dX11_balance_5 : decode cX11_balance 5 = .ok (.ifCond .ne 10, 3) := by decide +kernel
theorem dX11_balance_8 : decode cX11_balance 8 = .ok (.iload_n 2, 1) := by decide +kernel
theorem dX11_balance_9 : decode cX11_balance 9 = .ok (.invokestatic 131, 3) := by decide +kernel
theorem dX11_balance_12 : decode cX11_balance 12 = .ok (.ifCond .eq 7, 3) := by decide +kernel
theorem dX11_balance_15 : decode cX11_balance 15 = .ok (.ldc2_w 239, 3) := by decide +kernel
theorem dX11_balance_18 : decode cX11_balance 18 = .ok (.lreturn, 1) := by decide +kernel
theorem dX11_balance_19 : decode cX11_balance 19 = .ok (.aload_n 0, 1) := by decide +kernel
theorem dX11_balance_20 : decode cX11_balance 20 = .ok (.getfield 50, 3) := by decide +kernel
theorem dX11_balance_23 : decode cX11_balance 23 = .ok (.iload_n 2, 1) := by decide +kernel
theorem dX11_balance_24 : decode cX11_balance 24 = .ok (.invokevirtual 241, 3) := by decide +kernel
theorem dX11_balance_27 : decode cX11_balance 27 = .ok (.aload_n 0, 1) := by decide +kernel
theorem dX11_balance_28 : decode cX11_balance 28 = .ok (.getfield 50, 3) := by decide +kernel
theorem dX11_balance_31 : decode cX11_balance 31 = .ok (.iload_n 1, 1) := by decide +kernel
theorem dX11_balance_32 : decode cX11_balance 32 = .ok (.invokevirtual 245, 3) := by decide +kernel
theorem dX11_balance_35 : decode cX11_balance 35 = .ok (.lreturn, 1) := by decide +kernel
theorem dX11_fewest_0 : decode cX11_fewest 0 = .ok (.iload_n 1, 1) := by decide +kernel
theorem dX11_fewest_1 : decode cX11_fewest 1 = .ok (.invokestatic 131, 3) := by decide +kernel
theorem dX11_fewest_4 : decode cX11_fewest 4 = .ok (.ifCond .eq 6, 3) := by decide +kernel
theorem dX11_fewest_7 : decode cX11_fewest 7 = .ok (.bipush (-2), 2) := by decide +kernel
theorem dX11_fewest_9 : decode cX11_fewest 9 = .ok (.ireturn, 1) := by decide +kernel
theorem dX11_fewest_10 : decode cX11_fewest 10 = .ok (.aload_n 0, 1) := by decide +kernel
theorem dX11_fewest_11 : decode cX11_fewest 11 = .ok (.getfield 50, 3) := by decide +kernel
theorem dX11_fewest_14 : decode cX11_fewest 14 = .ok (.iload_n 1, 1) := by decide +kernel
theorem dX11_fewest_15 : decode cX11_fewest 15 = .ok (.invokevirtual 241, 3) := by decide +kernel
theorem dX11_fewest_18 : decode cX11_fewest 18 = .ok (.aload_n 0, 1) := by decide +kernel
theorem dX11_fewest_19 : decode cX11_fewest 19 = .ok (.getfield 50, 3) := by decide +kernel
theorem dX11_fewest_22 : decode cX11_fewest 22 = .ok (.invokevirtual 248, 3) := by decide +kernel
theorem dX11_fewest_25 : decode cX11_fewest 25 = .ok (.ireturn, 1) := by decide +kernel
theorem dX11_ring_0 : decode cX11_ring 0 = .ok (.iload_n 1, 1) := by decide +kernel
theorem dX11_ring_1 : decode cX11_ring 1 = .ok (.invokestatic 131, 3) := by decide +kernel
theorem dX11_ring_4 : decode cX11_ring 4 = .ok (.ifCond .ne 8, 3) := by decide +kernel
theorem dX11_ring_7 : decode cX11_ring 7 = .ok (.iload_n 2, 1) := by decide +kernel
theorem dX11_ring_8 : decode cX11_ring 8 = .ok (.iconst (-1), 1) := by decide +kernel
theorem dX11_ring_9 : decode cX11_ring 9 = .ok (.if_icmp .ge 6, 3) := by decide +kernel
theorem dX11_ring_12 : decode cX11_ring 12 = .ok (.bipush (-2), 2) := by decide +kernel
theorem dX11_ring_14 : decode cX11_ring 14 = .ok (.ireturn, 1) := by decide +kernel
theorem dX11_ring_15 : decode cX11_ring 15 = .ok (.aload_n 0, 1) := by decide +kernel
theorem dX11_ring_16 : decode cX11_ring 16 = .ok (.getfield 50, 3) := by decide +kernel
theorem dX11_ring_19 : decode cX11_ring 19 = .ok (.iload_n 1, 1) := by decide +kernel
theorem dX11_ring_20 : decode cX11_ring 20 = .ok (.invokevirtual 241, 3) := by decide +kernel
theorem dX11_ring_23 : decode cX11_ring 23 = .ok (.aload_n 0, 1) := by decide +kernel
theorem dX11_ring_24 : decode cX11_ring 24 = .ok (.getfield 50, 3) := by decide +kernel
theorem dX11_ring_27 : decode cX11_ring 27 = .ok (.invokevirtual 251, 3) := by decide +kernel
theorem dX11_ring_30 : decode cX11_ring 30 = .ok (.istore_n 3, 1) := by decide +kernel
theorem dX11_ring_31 : decode cX11_ring 31 = .ok (.iload_n 2, 1) := by decide +kernel
theorem dX11_ring_32 : decode cX11_ring 32 = .ok (.iconst (-1), 1) := by decide +kernel
theorem dX11_ring_33 : decode cX11_ring 33 = .ok (.if_icmp .ne 5, 3) := by decide +kernel
theorem dX11_ring_36 : decode cX11_ring 36 = .ok (.iload_n 3, 1) := by decide +kernel
theorem dX11_ring_37 : decode cX11_ring 37 = .ok (.ireturn, 1) := by decide +kernel
theorem dX11_ring_38 : decode cX11_ring 38 = .ok (.iload_n 2, 1) := by decide +kernel
theorem dX11_ring_39 : decode cX11_ring 39 = .ok (.iload_n 3, 1) := by decide +kernel
theorem dX11_ring_40 : decode cX11_ring 40 = .ok (.if_icmp .ge 14, 3) := by decide +kernel
theorem dX11_ring_43 : decode cX11_ring 43 = .ok (.aload_n 0, 1) := by decide +kernel
theorem dX11_ring_44 : decode cX11_ring 44 = .ok (.getfield 50, 3) := by decide +kernel
theorem dX11_ring_47 : decode cX11_ring 47 = .ok (.iload_n 2, 1) := by decide +kernel
theorem dX11_ring_48 : decode cX11_ring 48 = .ok (.invokevirtual 254, 3) := by decide +kernel
theorem dX11_ring_51 : decode cX11_ring 51 = .ok (.goto 4, 3) := by decide +kernel
theorem dX11_ring_54 : decode cX11_ring 54 = .ok (.iconst (-1), 1) := by decide +kernel
theorem dX11_ring_55 : decode cX11_ring 55 = .ok (.ireturn, 1) := by decide +kernel
theorem dX11_names_0 : decode cX11_names 0 = .ok (.iload_n 1, 1) := by decide +kernel
theorem dX11_names_1 : decode cX11_names 1 = .ok (.iconst 1, 1) := by decide +kernel
theorem dX11_names_2 : decode cX11_names 2 = .ok (.bipush 9, 2) := by decide +kernel
theorem dX11_names_4 : decode cX11_names 4 = .ok (.invokestatic 98, 3) := by decide +kernel
theorem dX11_names_7 : decode cX11_names 7 = .ok (.ifCond .eq 6, 3) := by decide +kernel
theorem dX11_names_10 : decode cX11_names 10 = .ok (.bipush (-2), 2) := by decide +kernel
theorem dX11_names_12 : decode cX11_names 12 = .ok (.ireturn, 1) := by decide +kernel
theorem dX11_names_13 : decode cX11_names 13 = .ok (.aload_n 0, 1) := by decide +kernel
theorem dX11_names_14 : decode cX11_names 14 = .ok (.getfield 12, 3) := by decide +kernel
theorem dX11_names_17 : decode cX11_names 17 = .ok (.iload_n 1, 1) := by decide +kernel
theorem dX11_names_18 : decode cX11_names 18 = .ok (.putfield 257, 3) := by decide +kernel
theorem dX11_names_21 : decode cX11_names 21 = .ok (.aload_n 0, 1) := by decide +kernel
theorem dX11_names_22 : decode cX11_names 22 = .ok (.getfield 12, 3) := by decide +kernel
theorem dX11_names_25 : decode cX11_names 25 = .ok (.getfield 260, 3) := by decide +kernel
theorem dX11_names_28 : decode cX11_names 28 = .ok (.invokevirtual 263, 3) := by decide +kernel
theorem dX11_names_31 : decode cX11_names 31 = .ok (.iconst 1, 1) := by decide +kernel
theorem dX11_names_32 : decode cX11_names 32 = .ok (.ireturn, 1) := by decide +kernel
theorem dX11_ahead_0 : decode cX11_ahead 0 = .ok (.aload_n 0, 1) := by decide +kernel
theorem dX11_ahead_1 : decode cX11_ahead 1 = .ok (.iload_n 1, 1) := by decide +kernel
theorem dX11_ahead_2 : decode cX11_ahead 2 = .ok (.invokevirtual 266, 3) := by decide +kernel
theorem dX11_ahead_5 : decode cX11_ahead 5 = .ok (.ifCond .ne 26, 3) := by decide +kernel
theorem dX11_ahead_8 : decode cX11_ahead 8 = .ok (.aload_n 0, 1) := by decide +kernel
theorem dX11_ahead_9 : decode cX11_ahead 9 = .ok (.iload_n 2, 1) := by decide +kernel
theorem dX11_ahead_10 : decode cX11_ahead 10 = .ok (.invokevirtual 266, 3) := by decide +kernel
theorem dX11_ahead_13 : decode cX11_ahead 13 = .ok (.ifCond .ne 18, 3) := by decide +kernel
theorem dX11_ahead_16 : decode cX11_ahead 16 = .ok (.iload_n 1, 1) := by decide +kernel
theorem dX11_ahead_17 : decode cX11_ahead 17 = .ok (.iload_n 2, 1) := by decide +kernel
theorem dX11_ahead_18 : decode cX11_ahead 18 = .ok (.if_icmp .eq 13, 3) := by decide +kernel
theorem dX11_ahead_21 : decode cX11_ahead 21 = .ok (.iload_n 3, 1) := by decide +kernel
theorem dX11_ahead_22 : decode cX11_ahead 22 = .ok (.iconst 0, 1) := by decide +kernel
theorem dX11_ahead_23 : decode cX11_ahead 23 = .ok (.bipush 99, 2) := by decide +kernel
theorem dX11_ahead_25 : decode cX11_ahead 25 = .ok (.invokestatic 98, 3) := by decide +kernel
theorem dX11_ahead_28 : decode cX11_ahead 28 = .ok (.ifCond .eq 6, 3) := by decide +kernel
theorem dX11_ahead_31 : decode cX11_ahead 31 = .ok (.bipush (-2), 2) := by decide +kernel
theorem dX11_ahead_33 : decode cX11_ahead 33 = .ok (.ireturn, 1) := by decide +kernel
theorem dX11_ahead_34 : decode cX11_ahead 34 = .ok (.aload_n 0, 1) := by decide +kernel
theorem dX11_ahead_35 : decode cX11_ahead 35 = .ok (.getfield 12, 3) := by decide +kernel
theorem dX11_ahead_38 : decode cX11_ahead 38 = .ok (.getfield 260, 3) := by decide +kernel
theorem dX11_ahead_41 : decode cX11_ahead 41 = .ok (.invokevirtual 106, 3) := by decide +kernel
theorem dX11_ahead_44 : decode cX11_ahead 44 = .ok (.ifCond .eq 6, 3) := by decide +kernel
theorem dX11_ahead_47 : decode cX11_ahead 47 = .ok (.bipush (-4), 2) := by decide +kernel
theorem dX11_ahead_49 : decode cX11_ahead 49 = .ok (.ireturn, 1) := by decide +kernel
theorem dX11_ahead_50 : decode cX11_ahead 50 = .ok (.aload_n 0, 1) := by decide +kernel
theorem dX11_ahead_51 : decode cX11_ahead 51 = .ok (.getfield 12, 3) := by decide +kernel
theorem dX11_ahead_54 : decode cX11_ahead 54 = .ok (.getfield 260, 3) := by decide +kernel
theorem dX11_ahead_57 : decode cX11_ahead 57 = .ok (.iload_n 1, 1) := by decide +kernel
theorem dX11_ahead_58 : decode cX11_ahead 58 = .ok (.iload_n 2, 1) := by decide +kernel
theorem dX11_ahead_59 : decode cX11_ahead 59 = .ok (.iload_n 3, 1) := by decide +kernel
theorem dX11_ahead_60 : decode cX11_ahead 60 = .ok (.iconst 0, 1) := by decide +kernel
theorem dX11_ahead_61 : decode cX11_ahead 61 = .ok (.iconst 0, 1) := by decide +kernel
theorem dX11_ahead_62 : decode cX11_ahead 62 = .ok (.invokevirtual 112, 3) := by decide +kernel
theorem dX11_ahead_65 : decode cX11_ahead 65 = .ok (.iconst 1, 1) := by decide +kernel
theorem dX11_ahead_66 : decode cX11_ahead 66 = .ok (.iadd, 1) := by decide +kernel
theorem dX11_ahead_67 : decode cX11_ahead 67 = .ok (.ireturn, 1) := by decide +kernel
theorem dX11_orders_0 : decode cX11_orders 0 = .ok (.iload_n 1, 1) := by decide +kernel
theorem dX11_orders_1 : decode cX11_orders 1 = .ok (.iconst 0, 1) := by decide +kernel
theorem dX11_orders_2 : decode cX11_orders 2 = .ok (.bipush 99, 2) := by decide +kernel
theorem dX11_orders_4 : decode cX11_orders 4 = .ok (.invokestatic 98, 3) := by decide +kernel
theorem dX11_orders_7 : decode cX11_orders 7 = .ok (.ifCond .eq 6, 3) := by decide +kernel
theorem dX11_orders_10 : decode cX11_orders 10 = .ok (.bipush (-2), 2) := by decide +kernel
theorem dX11_orders_12 : decode cX11_orders 12 = .ok (.ireturn, 1) := by decide +kernel
theorem dX11_orders_13 : decode cX11_orders 13 = .ok (.aload_n 0, 1) := by decide +kernel
theorem dX11_orders_14 : decode cX11_orders 14 = .ok (.getfield 64, 3) := by decide +kernel
theorem dX11_orders_17 : decode cX11_orders 17 = .ok (.iload_n 1, 1) := by decide +kernel
theorem dX11_orders_18 : decode cX11_orders 18 = .ok (.invokevirtual 269, 3) := by decide +kernel
theorem dX11_orders_21 : decode cX11_orders 21 = .ok (.aload_n 0, 1) := by decide +kernel
theorem dX11_orders_22 : decode cX11_orders 22 = .ok (.getfield 64, 3) := by decide +kernel
theorem dX11_orders_25 : decode cX11_orders 25 = .ok (.invokevirtual 272, 3) := by decide +kernel
theorem dX11_orders_28 : decode cX11_orders 28 = .ok (.ireturn, 1) := by decide +kernel
theorem dX11_place_0 : decode cX11_place 0 = .ok (.aload_n 0, 1) := by decide +kernel
theorem dX11_place_1 : decode cX11_place 1 = .ok (.iload_n 1, 1) := by decide +kernel
theorem dX11_place_2 : decode cX11_place 2 = .ok (.invokevirtual 266, 3) := by decide +kernel
theorem dX11_place_5 : decode cX11_place 5 = .ok (.ifCond .ne 22, 3) := by decide +kernel
theorem dX11_place_8 : decode cX11_place 8 = .ok (.iload_n 2, 1) := by decide +kernel
theorem dX11_place_9 : decode cX11_place 9 = .ok (.iconst 0, 1) := by decide +kernel
theorem dX11_place_10 : decode cX11_place 10 = .ok (.bipush 99, 2) := by decide +kernel
theorem dX11_place_12 : decode cX11_place 12 = .ok (.invokestatic 98, 3) := by decide +kernel
theorem dX11_place_15 : decode cX11_place 15 = .ok (.ifCond .ne 12, 3) := by decide +kernel
theorem dX11_place_18 : decode cX11_place 18 = .ok (.iload_n 3, 1) := by decide +kernel
theorem dX11_place_19 : decode cX11_place 19 = .ok (.iconst 0, 1) := by decide +kernel
theorem dX11_place_20 : decode cX11_place 20 = .ok (.iconst 1, 1) := by decide +kernel
theorem dX11_place_21 : decode cX11_place 21 = .ok (.invokestatic 98, 3) := by decide +kernel
theorem dX11_place_24 : decode cX11_place 24 = .ok (.ifCond .eq 6, 3) := by decide +kernel
theorem dX11_place_27 : decode cX11_place 27 = .ok (.bipush (-2), 2) := by decide +kernel
theorem dX11_place_29 : decode cX11_place 29 = .ok (.ireturn, 1) := by decide +kernel
theorem dX11_place_30 : decode cX11_place 30 = .ok (.aload_n 0, 1) := by decide +kernel
theorem dX11_place_31 : decode cX11_place 31 = .ok (.getfield 64, 3) := by decide +kernel
theorem dX11_place_34 : decode cX11_place 34 = .ok (.iload_n 2, 1) := by decide +kernel
theorem dX11_place_35 : decode cX11_place 35 = .ok (.invokevirtual 269, 3) := by decide +kernel
theorem dX11_place_38 : decode cX11_place 38 = .ok (.aload_n 0, 1) := by decide +kernel
theorem dX11_place_39 : decode cX11_place 39 = .ok (.getfield 64, 3) := by decide +kernel
theorem dX11_place_42 : decode cX11_place 42 = .ok (.invokevirtual 275, 3) := by decide +kernel
theorem dX11_place_45 : decode cX11_place 45 = .ok (.ifCond .ne 5, 3) := by decide +kernel
theorem dX11_place_48 : decode cX11_place 48 = .ok (.iconst (-1), 1) := by decide +kernel
theorem dX11_place_49 : decode cX11_place 49 = .ok (.ireturn, 1) := by decide +kernel
theorem dX11_place_50 : decode cX11_place 50 = .ok (.iload_n 3, 1) := by decide +kernel
theorem dX11_place_51 : decode cX11_place 51 = .ok (.ifCond .ne 14, 3) := by decide +kernel
theorem dX11_place_54 : decode cX11_place 54 = .ok (.aload_n 0, 1) := by decide +kernel
theorem dX11_place_55 : decode cX11_place 55 = .ok (.getfield 64, 3) := by decide +kernel
theorem dX11_place_58 : decode cX11_place 58 = .ok (.iload_n 1, 1) := by decide +kernel
theorem dX11_place_59 : decode cX11_place 59 = .ok (.invokevirtual 278, 3) := by decide +kernel
theorem dX11_place_62 : decode cX11_place 62 = .ok (.goto 21, 3) := by decide +kernel
theorem dX11_place_65 : decode cX11_place 65 = .ok (.aload_n 0, 1) := by decide +kernel
theorem dX11_place_66 : decode cX11_place 66 = .ok (.getfield 12, 3) := by decide +kernel
theorem dX11_place_69 : decode cX11_place 69 = .ok (.getfield 257, 3) := by decide +kernel
theorem dX11_place_72 : decode cX11_place 72 = .ok (.iconst 1, 1) := by decide +kernel
theorem dX11_place_73 : decode cX11_place 73 = .ok (.isub, 1) := by decide +kernel
theorem dX11_place_74 : decode cX11_place 74 = .ok (.aload_n 0, 1) := by decide +kernel
theorem dX11_place_75 : decode cX11_place 75 = .ok (.getfield 64, 3) := by decide +kernel
theorem dX11_place_78 : decode cX11_place 78 = .ok (.iload_n 1, 1) := by decide +kernel
theorem dX11_place_79 : decode cX11_place 79 = .ok (.invokevirtual 281, 3) := by decide +kernel
theorem dX11_place_82 : decode cX11_place 82 = .ok (.isub, 1) := by decide +kernel
theorem dX11_place_83 : decode cX11_place 83 = .ok (.ireturn, 1) := by decide +kernel
theorem dX11_order_0 : decode cX11_order 0 = .ok (.iload_n 1, 1) := by decide +kernel
theorem dX11_order_1 : decode cX11_order 1 = .ok (.iconst 0, 1) := by decide +kernel
theorem dX11_order_2 : decode cX11_order 2 = .ok (.bipush 99, 2) := by decide +kernel
theorem dX11_order_4 : decode cX11_order 4 = .ok (.invokestatic 98, 3) := by decide +kernel
theorem dX11_order_7 : decode cX11_order 7 = .ok (.ifCond .ne 11, 3) := by decide +kernel
theorem dX11_order_10 : decode cX11_order 10 = .ok (.aload_n 0, 1) := by decide +kernel
theorem dX11_order_11 : decode cX11_order 11 = .ok (.iload_n 2, 1) := by decide +kernel
theorem dX11_order_12 : decode cX11_order 12 = .ok (.invokevirtual 266, 3) := by decide +kernel
theorem dX11_order_15 : decode cX11_order 15 = .ok (.ifCond .eq 6, 3) := by decide +kernel
theorem dX11_order_18 : decode cX11_order 18 = .ok (.bipush (-2), 2) := by decide +kernel
theorem dX11_order_20 : decode cX11_order 20 = .ok (.ireturn, 1) := by decide +kernel
theorem dX11_order_21 : decode cX11_order 21 = .ok (.aload_n 0, 1) := by decide +kernel
theorem dX11_order_22 : decode cX11_order 22 = .ok (.getfield 64, 3) := by decide +kernel
theorem dX11_order_25 : decode cX11_order 25 = .ok (.iload_n 1, 1) := by decide +kernel
theorem dX11_order_26 : decode cX11_order 26 = .ok (.invokevirtual 269, 3) := by decide +kernel
theorem dX11_order_29 : decode cX11_order 29 = .ok (.aload_n 0, 1) := by decide +kernel
theorem dX11_order_30 : decode cX11_order 30 = .ok (.getfield 64, 3) := by decide +kernel
theorem dX11_order_33 : decode cX11_order 33 = .ok (.invokevirtual 275, 3) := by decide +kernel
theorem dX11_order_36 : decode cX11_order 36 = .ok (.ifCond .eq 14, 3) := by decide +kernel
theorem dX11_order_39 : decode cX11_order 39 = .ok (.aload_n 0, 1) := by decide +kernel
theorem dX11_order_40 : decode cX11_order 40 = .ok (.getfield 64, 3) := by decide +kernel
theorem dX11_order_43 : decode cX11_order 43 = .ok (.iload_n 2, 1) := by decide +kernel
theorem dX11_order_44 : decode cX11_order 44 = .ok (.invokevirtual 284, 3) := by decide +kernel
theorem dX11_order_47 : decode cX11_order 47 = .ok (.goto 4, 3) := by decide +kernel
theorem dX11_order_50 : decode cX11_order 50 = .ok (.iconst (-1), 1) := by decide +kernel
theorem dX11_order_51 : decode cX11_order 51 = .ok (.ireturn, 1) := by decide +kernel
theorem dX11_letter_0 : decode cX11_letter 0 = .ok (.aload_n 0, 1) := by decide +kernel
theorem dX11_letter_1 : decode cX11_letter 1 = .ok (.iload_n 1, 1) := by decide +kernel
theorem dX11_letter_2 : decode cX11_letter 2 = .ok (.invokevirtual 165, 3) := by decide +kernel
theorem dX11_letter_5 : decode cX11_letter 5 = .ok (.ifCond .ne 50, 3) := by decide +kernel
theorem dX11_letter_8 : decode cX11_letter 8 = .ok (.aload_n 0, 1) := by decide +kernel
theorem dX11_letter_9 : decode cX11_letter 9 = .ok (.iload_n 2, 1) := by decide +kernel
theorem dX11_letter_10 : decode cX11_letter 10 = .ok (.invokevirtual 165, 3) := by decide +kernel
theorem dX11_letter_13 : decode cX11_letter 13 = .ok (.ifCond .ne 42, 3) := by decide +kernel
theorem dX11_letter_16 : decode cX11_letter 16 = .ok (.iload_n 1, 1) := by decide +kernel
theorem dX11_letter_17 : decode cX11_letter 17 = .ok (.iload_n 2, 1) := by decide +kernel
theorem dX11_letter_18 : decode cX11_letter 18 = .ok (.if_icmp .eq 37, 3) := by decide +kernel
theorem dX11_letter_21 : decode cX11_letter 21 = .ok (.iload_n 3, 1) := by decide +kernel
theorem dX11_letter_22 : decode cX11_letter 22 = .ok (.iconst 0, 1) := by decide +kernel
theorem dX11_letter_23 : decode cX11_letter 23 = .ok (.sipush 9999, 3) := by decide +kernel
theorem dX11_letter_26 : decode cX11_letter 26 = .ok (.invokestatic 98, 3) := by decide +kernel
theorem dX11_letter_29 : decode cX11_letter 29 = .ok (.ifCond .ne 26, 3) := by decide +kernel
theorem dX11_letter_32 : decode cX11_letter 32 = .ok (.iload 4, 2) := by decide +kernel
theorem dX11_letter_34 : decode cX11_letter 34 = .ok (.iload_n 3, 1) := by decide +kernel
theorem dX11_letter_35 : decode cX11_letter 35 = .ok (.sipush 9999, 3) := by decide +kernel
theorem dX11_letter_38 : decode cX11_letter 38 = .ok (.invokestatic 98, 3) := by decide +kernel
theorem dX11_letter_41 : decode cX11_letter 41 = .ok (.ifCond .ne 14, 3) := by decide +kernel
theorem dX11_letter_44 : decode cX11_letter 44 = .ok (.iload 5, 2) := by decide +kernel
theorem dX11_letter_46 : decode cX11_letter 46 = .ok (.iconst (-1), 1) := by decide +kernel
theorem dX11_letter_47 : decode cX11_letter 47 = .ok (.bipush 7, 2) := by decide +kernel
theorem dX11_letter_49 : decode cX11_letter 49 = .ok (.invokestatic 98, 3) := by decide +kernel
theorem dX11_letter_52 : decode cX11_letter 52 = .ok (.ifCond .eq 6, 3) := by decide +kernel
theorem dX11_letter_55 : decode cX11_letter 55 = .ok (.bipush (-2), 2) := by decide +kernel
theorem dX11_letter_57 : decode cX11_letter 57 = .ok (.ireturn, 1) := by decide +kernel
theorem dX11_letter_58 : decode cX11_letter 58 = .ok (.aload_n 0, 1) := by decide +kernel
theorem dX11_letter_59 : decode cX11_letter 59 = .ok (.getfield 12, 3) := by decide +kernel
theorem dX11_letter_62 : decode cX11_letter 62 = .ok (.getfield 287, 3) := by decide +kernel
theorem dX11_letter_65 : decode cX11_letter 65 = .ok (.invokevirtual 106, 3) := by decide +kernel
theorem dX11_letter_68 : decode cX11_letter 68 = .ok (.ifCond .eq 6, 3) := by decide +kernel
theorem dX11_letter_71 : decode cX11_letter 71 = .ok (.bipush (-4), 2) := by decide +kernel
theorem dX11_letter_73 : decode cX11_letter 73 = .ok (.ireturn, 1) := by decide +kernel
theorem dX11_letter_74 : decode cX11_letter 74 = .ok (.aload_n 0, 1) := by decide +kernel
theorem dX11_letter_75 : decode cX11_letter 75 = .ok (.getfield 12, 3) := by decide +kernel
theorem dX11_letter_78 : decode cX11_letter 78 = .ok (.getfield 287, 3) := by decide +kernel
theorem dX11_letter_81 : decode cX11_letter 81 = .ok (.iload_n 1, 1) := by decide +kernel
theorem dX11_letter_82 : decode cX11_letter 82 = .ok (.iload_n 2, 1) := by decide +kernel
theorem dX11_letter_83 : decode cX11_letter 83 = .ok (.iload_n 3, 1) := by decide +kernel
theorem dX11_letter_84 : decode cX11_letter 84 = .ok (.iload 4, 2) := by decide +kernel
theorem dX11_letter_86 : decode cX11_letter 86 = .ok (.iload 5, 2) := by decide +kernel
theorem dX11_letter_88 : decode cX11_letter 88 = .ok (.invokevirtual 112, 3) := by decide +kernel
theorem dX11_letter_91 : decode cX11_letter 91 = .ok (.ireturn, 1) := by decide +kernel
theorem dX11_knows_0 : decode cX11_knows 0 = .ok (.aload_n 0, 1) := by decide +kernel
theorem dX11_knows_1 : decode cX11_knows 1 = .ok (.iload_n 1, 1) := by decide +kernel
theorem dX11_knows_2 : decode cX11_knows 2 = .ok (.invokevirtual 165, 3) := by decide +kernel
theorem dX11_knows_5 : decode cX11_knows 5 = .ok (.ifCond .ne 24, 3) := by decide +kernel
theorem dX11_knows_8 : decode cX11_knows 8 = .ok (.iload_n 2, 1) := by decide +kernel
theorem dX11_knows_9 : decode cX11_knows 9 = .ok (.iconst 0, 1) := by decide +kernel
theorem dX11_knows_10 : decode cX11_knows 10 = .ok (.bipush 7, 2) := by decide +kernel
theorem dX11_knows_12 : decode cX11_knows 12 = .ok (.invokestatic 98, 3) := by decide +kernel
theorem dX11_knows_15 : decode cX11_knows 15 = .ok (.ifCond .ne 14, 3) := by decide +kernel
theorem dX11_knows_18 : decode cX11_knows 18 = .ok (.iload_n 3, 1) := by decide +kernel
theorem dX11_knows_19 : decode cX11_knows 19 = .ok (.iconst 0, 1) := by decide +kernel
theorem dX11_knows_20 : decode cX11_knows 20 = .ok (.sipush 9999, 3) := by decide +kernel
theorem dX11_knows_23 : decode cX11_knows 23 = .ok (.invokestatic 98, 3) := by decide +kernel
theorem dX11_knows_26 : decode cX11_knows 26 = .ok (.ifCond .eq 6, 3) := by decide +kernel
theorem dX11_knows_29 : decode cX11_knows 29 = .ok (.bipush (-2), 2) := by decide +kernel
theorem dX11_knows_31 : decode cX11_knows 31 = .ok (.ireturn, 1) := by decide +kernel
theorem dX11_knows_32 : decode cX11_knows 32 = .ok (.aload_n 0, 1) := by decide +kernel
theorem dX11_knows_33 : decode cX11_knows 33 = .ok (.getfield 71, 3) := by decide +kernel
theorem dX11_knows_36 : decode cX11_knows 36 = .ok (.invokevirtual 290, 3) := by decide +kernel
theorem dX11_knows_39 : decode cX11_knows 39 = .ok (.aload_n 0, 1) := by decide +kernel
theorem dX11_knows_40 : decode cX11_knows 40 = .ok (.getfield 71, 3) := by decide +kernel
theorem dX11_knows_43 : decode cX11_knows 43 = .ok (.iload_n 1, 1) := by decide +kernel
theorem dX11_knows_44 : decode cX11_knows 44 = .ok (.iload_n 3, 1) := by decide +kernel
theorem dX11_knows_45 : decode cX11_knows 45 = .ok (.invokevirtual 293, 3) := by decide +kernel
theorem dX11_knows_48 : decode cX11_knows 48 = .ok (.iload_n 2, 1) := by decide +kernel
theorem dX11_knows_49 : decode cX11_knows 49 = .ok (.ishr, 1) := by decide +kernel
theorem dX11_knows_50 : decode cX11_knows 50 = .ok (.iconst 1, 1) := by decide +kernel
theorem dX11_knows_51 : decode cX11_knows 51 = .ok (.iand, 1) := by decide +kernel
theorem dX11_knows_52 : decode cX11_knows 52 = .ok (.ireturn, 1) := by decide +kernel
theorem dX11_carries_0 : decode cX11_carries 0 = .ok (.iload_n 1, 1) := by decide +kernel
theorem dX11_carries_1 : decode cX11_carries 1 = .ok (.iconst 0, 1) := by decide +kernel
theorem dX11_carries_2 : decode cX11_carries 2 = .ok (.aload_n 0, 1) := by decide +kernel
theorem dX11_carries_3 : decode cX11_carries 3 = .ok (.getfield 12, 3) := by decide +kernel
theorem dX11_carries_6 : decode cX11_carries 6 = .ok (.getfield 287, 3) := by decide +kernel
theorem dX11_carries_9 : decode cX11_carries 9 = .ok (.getfield 296, 3) := by decide +kernel
theorem dX11_carries_12 : decode cX11_carries 12 = .ok (.iconst 1, 1) := by decide +kernel
theorem dX11_carries_13 : decode cX11_carries 13 = .ok (.isub, 1) := by decide +kernel
theorem dX11_carries_14 : decode cX11_carries 14 = .ok (.invokestatic 98, 3) := by decide +kernel
theorem dX11_carries_17 : decode cX11_carries 17 = .ok (.ifCond .eq 6, 3) := by decide +kernel
theorem dX11_carries_20 : decode cX11_carries 20 = .ok (.bipush (-2), 2) := by decide +kernel
theorem dX11_carries_22 : decode cX11_carries 22 = .ok (.ireturn, 1) := by decide +kernel
theorem dX11_carries_23 : decode cX11_carries 23 = .ok (.aload_n 0, 1) := by decide +kernel
theorem dX11_carries_24 : decode cX11_carries 24 = .ok (.getfield 71, 3) := by decide +kernel
theorem dX11_carries_27 : decode cX11_carries 27 = .ok (.invokevirtual 290, 3) := by decide +kernel
theorem dX11_carries_30 : decode cX11_carries 30 = .ok (.aload_n 0, 1) := by decide +kernel
theorem dX11_carries_31 : decode cX11_carries 31 = .ok (.getfield 71, 3) := by decide +kernel
theorem dX11_carries_34 : decode cX11_carries 34 = .ok (.iload_n 1, 1) := by decide +kernel
theorem dX11_carries_35 : decode cX11_carries 35 = .ok (.invokevirtual 299, 3) := by decide +kernel
theorem dX11_carries_38 : decode cX11_carries 38 = .ok (.ireturn, 1) := by decide +kernel
theorem dX11_mention_0 : decode cX11_mention 0 = .ok (.iload_n 1, 1) := by decide +kernel
theorem dX11_mention_1 : decode cX11_mention 1 = .ok (.iconst (-1), 1) := by decide +kernel
theorem dX11_mention_2 : decode cX11_mention 2 = .ok (.iconst 4, 1) := by decide +kernel
theorem dX11_mention_3 : decode cX11_mention 3 = .ok (.invokestatic 98, 3) := by decide +kernel
theorem dX11_mention_6 : decode cX11_mention 6 = .ok (.ifCond .ne 20, 3) := by decide +kernel
theorem dX11_mention_9 : decode cX11_mention 9 = .ok (.iload_n 2, 1) := by decide +kernel
theorem dX11_mention_10 : decode cX11_mention 10 = .ok (.iconst (-1), 1) := by decide +kernel
theorem dX11_mention_11 : decode cX11_mention 11 = .ok (.bipush 9, 2) := by decide +kernel
theorem dX11_mention_13 : decode cX11_mention 13 = .ok (.invokestatic 98, 3) := by decide +kernel
theorem dX11_mention_16 : decode cX11_mention 16 = .ok (.ifCond .ne 10, 3) := by decide +kernel
theorem dX11_mention_19 : decode cX11_mention 19 = .ok (.iload_n 3, 1) := by decide +kernel
theorem dX11_mention_20 : decode cX11_mention 20 = .ok (.invokestatic 131, 3) := by decide +kernel
theorem dX11_mention_23 : decode cX11_mention 23 = .ok (.ifCond .eq 6, 3) := by decide +kernel
theorem dX11_mention_26 : decode cX11_mention 26 = .ok (.bipush (-2), 2) := by decide +kernel
theorem dX11_mention_28 : decode cX11_mention 28 = .ok (.ireturn, 1) := by decide +kernel
theorem dX11_mention_29 : decode cX11_mention 29 = .ok (.aload_n 0, 1) := by decide +kernel
theorem dX11_mention_30 : decode cX11_mention 30 = .ok (.getfield 12, 3) := by decide +kernel
theorem dX11_mention_33 : decode cX11_mention 33 = .ok (.getfield 302, 3) := by decide +kernel
theorem dX11_mention_36 : decode cX11_mention 36 = .ok (.invokevirtual 106, 3) := by decide +kernel
theorem dX11_mention_39 : decode cX11_mention 39 = .ok (.ifCond .eq 6, 3) := by decide +kernel
theorem dX11_mention_42 : decode cX11_mention 42 = .ok (.bipush (-4), 2) := by decide +kernel
theorem dX11_mention_44 : decode cX11_mention 44 = .ok (.ireturn, 1) := by decide +kernel
theorem dX11_mention_45 : decode cX11_mention 45 = .ok (.aload_n 0, 1) := by decide +kernel
theorem dX11_mention_46 : decode cX11_mention 46 = .ok (.getfield 12, 3) := by decide +kernel
theorem dX11_mention_49 : decode cX11_mention 49 = .ok (.getfield 302, 3) := by decide +kernel
theorem dX11_mention_52 : decode cX11_mention 52 = .ok (.iload_n 1, 1) := by decide +kernel
theorem dX11_mention_53 : decode cX11_mention 53 = .ok (.iload_n 2, 1) := by decide +kernel
theorem dX11_mention_54 : decode cX11_mention 54 = .ok (.iload_n 3, 1) := by decide +kernel
theorem dX11_mention_55 : decode cX11_mention 55 = .ok (.iconst 0, 1) := by decide +kernel
theorem dX11_mention_56 : decode cX11_mention 56 = .ok (.iconst 0, 1) := by decide +kernel
theorem dX11_mention_57 : decode cX11_mention 57 = .ok (.invokevirtual 112, 3) := by decide +kernel
theorem dX11_mention_60 : decode cX11_mention 60 = .ok (.ireturn, 1) := by decide +kernel
theorem dX11_men_0 : decode cX11_men 0 = .ok (.iload_n 1, 1) := by decide +kernel
theorem dX11_men_1 : decode cX11_men 1 = .ok (.iconst (-1), 1) := by decide +kernel
theorem dX11_men_2 : decode cX11_men 2 = .ok (.aload_n 0, 1) := by decide +kernel
theorem dX11_men_3 : decode cX11_men 3 = .ok (.getfield 12, 3) := by decide +kernel
theorem dX11_men_6 : decode cX11_men 6 = .ok (.getfield 302, 3) := by decide +kernel
theorem dX11_men_9 : decode cX11_men 9 = .ok (.getfield 296, 3) := by decide +kernel
theorem dX11_men_12 : decode cX11_men 12 = .ok (.iconst 1, 1) := by decide +kernel
theorem dX11_men_13 : decode cX11_men 13 = .ok (.isub, 1) := by decide +kernel
theorem dX11_men_14 : decode cX11_men 14 = .ok (.invokestatic 98, 3) := by decide +kernel
theorem dX11_men_17 : decode cX11_men 17 = .ok (.ifCond .eq 6, 3) := by decide +kernel
theorem dX11_men_20 : decode cX11_men 20 = .ok (.bipush (-10), 2) := by decide +kernel
theorem dX11_men_22 : decode cX11_men 22 = .ok (.ireturn, 1) := by decide +kernel
theorem dX11_men_23 : decode cX11_men 23 = .ok (.aload_n 0, 1) := by decide +kernel
theorem dX11_men_24 : decode cX11_men 24 = .ok (.getfield 78, 3) := by decide +kernel
theorem dX11_men_27 : decode cX11_men 27 = .ok (.invokevirtual 305, 3) := by decide +kernel
theorem dX11_men_30 : decode cX11_men 30 = .ok (.istore_n 2, 1) := by decide +kernel
theorem dX11_men_31 : decode cX11_men 31 = .ok (.iload_n 1, 1) := by decide +kernel
theorem dX11_men_32 : decode cX11_men 32 = .ok (.iconst (-1), 1) := by decide +kernel
theorem dX11_men_33 : decode cX11_men 33 = .ok (.if_icmp .ne 7, 3) := by decide +kernel
theorem dX11_men_36 : decode cX11_men 36 = .ok (.iload_n 2, 1) := by decide +kernel
theorem dX11_men_37 : decode cX11_men 37 = .ok (.goto 11, 3) := by decide +kernel
theorem dX11_men_40 : decode cX11_men 40 = .ok (.aload_n 0, 1) := by decide +kernel
theorem dX11_men_41 : decode cX11_men 41 = .ok (.getfield 78, 3) := by decide +kernel
theorem dX11_men_44 : decode cX11_men 44 = .ok (.iload_n 1, 1) := by decide +kernel
theorem dX11_men_45 : decode cX11_men 45 = .ok (.invokevirtual 308, 3) := by decide +kernel
theorem dX11_men_48 : decode cX11_men 48 = .ok (.ireturn, 1) := by decide +kernel
theorem dX11_load_0 : decode cX11_load 0 = .ok (.aload_n 0, 1) := by decide +kernel
theorem dX11_load_1 : decode cX11_load 1 = .ok (.iload_n 1, 1) := by decide +kernel
theorem dX11_load_2 : decode cX11_load 2 = .ok (.iload_n 2, 1) := by decide +kernel
theorem dX11_load_3 : decode cX11_load 3 = .ok (.invokevirtual 205, 3) := by decide +kernel
theorem dX11_load_6 : decode cX11_load 6 = .ok (.ifCond .ne 13, 3) := by decide +kernel
theorem dX11_load_9 : decode cX11_load 9 = .ok (.iload_n 3, 1) := by decide +kernel
theorem dX11_load_10 : decode cX11_load 10 = .ok (.iconst 0, 1) := by decide +kernel
theorem dX11_load_11 : decode cX11_load 11 = .ok (.ldc 168, 2) := by decide +kernel
theorem dX11_load_13 : decode cX11_load 13 = .ok (.invokestatic 98, 3) := by decide +kernel
theorem dX11_load_16 : decode cX11_load 16 = .ok (.ifCond .eq 6, 3) := by decide +kernel
theorem dX11_load_19 : decode cX11_load 19 = .ok (.bipush (-2), 2) := by decide +kernel
theorem dX11_load_21 : decode cX11_load 21 = .ok (.ireturn, 1) := by decide +kernel
theorem dX11_load_22 : decode cX11_load 22 = .ok (.aload_n 0, 1) := by decide +kernel
theorem dX11_load_23 : decode cX11_load 23 = .ok (.getfield 12, 3) := by decide +kernel
theorem dX11_load_26 : decode cX11_load 26 = .ok (.getfield 311, 3) := by decide +kernel
theorem dX11_load_29 : decode cX11_load 29 = .ok (.invokevirtual 106, 3) := by decide +kernel
theorem dX11_load_32 : decode cX11_load 32 = .ok (.ifCond .eq 6, 3) := by decide +kernel
theorem dX11_load_35 : decode cX11_load 35 = .ok (.bipush (-4), 2) := by decide +kernel
theorem dX11_load_37 : decode cX11_load 37 = .ok (.ireturn, 1) := by decide +kernel
theorem dX11_load_38 : decode cX11_load 38 = .ok (.aload_n 0, 1) := by decide +kernel
theorem dX11_load_39 : decode cX11_load 39 = .ok (.getfield 12, 3) := by decide +kernel
theorem dX11_load_42 : decode cX11_load 42 = .ok (.getfield 311, 3) := by decide +kernel
theorem dX11_load_45 : decode cX11_load 45 = .ok (.iload_n 1, 1) := by decide +kernel
theorem dX11_load_46 : decode cX11_load 46 = .ok (.iload_n 2, 1) := by decide +kernel
theorem dX11_load_47 : decode cX11_load 47 = .ok (.iload_n 3, 1) := by decide +kernel
theorem dX11_load_48 : decode cX11_load 48 = .ok (.iconst 0, 1) := by decide +kernel
theorem dX11_load_49 : decode cX11_load 49 = .ok (.iconst 0, 1) := by decide +kernel
theorem dX11_load_50 : decode cX11_load 50 = .ok (.invokevirtual 112, 3) := by decide +kernel
theorem dX11_load_53 : decode cX11_load 53 = .ok (.ireturn, 1) := by decide +kernel
theorem dX11_unload_0 : decode cX11_unload 0 = .ok (.aload_n 0, 1) := by decide +kernel
theorem dX11_unload_1 : decode cX11_unload 1 = .ok (.getfield 12, 3) := by decide +kernel
theorem dX11_unload_4 : decode cX11_unload 4 = .ok (.getfield 311, 3) := by decide +kernel
theorem dX11_unload_7 : decode cX11_unload 7 = .ok (.getfield 296, 3) := by decide +kernel
theorem dX11_unload_10 : decode cX11_unload 10 = .ok (.istore_n 1, 1) := by decide +kernel
theorem dX11_unload_11 : decode cX11_unload 11 = .ok (.aload_n 0, 1) := by decide +kernel
theorem dX11_unload_12 : decode cX11_unload 12 = .ok (.getfield 12, 3) := by decide +kernel
theorem dX11_unload_15 : decode cX11_unload 15 = .ok (.getfield 311, 3) := by decide +kernel
theorem dX11_unload_18 : decode cX11_unload 18 = .ok (.invokevirtual 263, 3) := by decide +kernel
theorem dX11_unload_21 : decode cX11_unload 21 = .ok (.iload_n 1, 1) := by decide +kernel
theorem dX11_unload_22 : decode cX11_unload 22 = .ok (.ireturn, 1) := by decide +kernel
theorem dX11_price_0 : decode cX11_price 0 = .ok (.iload_n 1, 1) := by decide +kernel
theorem dX11_price_1 : decode cX11_price 1 = .ok (.iconst 0, 1) := by decide +kernel
theorem dX11_price_2 : decode cX11_price 2 = .ok (.iconst 2, 1) := by decide +kernel
theorem dX11_price_3 : decode cX11_price 3 = .ok (.invokestatic 98, 3) := by decide +kernel
theorem dX11_price_6 : decode cX11_price 6 = .ok (.ifCond .ne 14, 3) := by decide +kernel
theorem dX11_price_9 : decode cX11_price 9 = .ok (.iload_n 2, 1) := by decide +kernel
theorem dX11_price_10 : decode cX11_price 10 = .ok (.iconst 0, 1) := by decide +kernel
theorem dX11_price_11 : decode cX11_price 11 = .ok (.sipush 1000, 3) := by decide +kernel
theorem dX11_price_14 : decode cX11_price 14 = .ok (.invokestatic 98, 3) := by decide +kernel
theorem dX11_price_17 : decode cX11_price 17 = .ok (.ifCond .eq 6, 3) := by decide +kernel
theorem dX11_price_20 : decode cX11_price 20 = .ok (.bipush (-2), 2) := by decide +kernel
theorem dX11_price_22 : decode cX11_price 22 = .ok (.ireturn, 1) := by decide +kernel
theorem dX11_price_23 : decode cX11_price 23 = .ok (.aload_n 0, 1) := by decide +kernel
theorem dX11_price_24 : decode cX11_price 24 = .ok (.getfield 12, 3) := by decide +kernel
theorem dX11_price_27 : decode cX11_price 27 = .ok (.getfield 314, 3) := by decide +kernel
theorem dX11_price_30 : decode cX11_price 30 = .ok (.iconst 0, 1) := by decide +kernel
theorem dX11_price_31 : decode cX11_price 31 = .ok (.iload_n 1, 1) := by decide +kernel
theorem dX11_price_32 : decode cX11_price 32 = .ok (.invokevirtual 119, 3) := by decide +kernel
theorem dX11_price_35 : decode cX11_price 35 = .ok (.istore_n 3, 1) := by decide +kernel
theorem dX11_price_36 : decode cX11_price 36 = .ok (.aload_n 0, 1) := by decide +kernel
theorem dX11_price_37 : decode cX11_price 37 = .ok (.getfield 12, 3) := by decide +kernel
theorem dX11_price_40 : decode cX11_price 40 = .ok (.getfield 314, 3) := by decide +kernel
theorem dX11_price_43 : decode cX11_price 43 = .ok (.iconst 0, 1) := by decide +kernel
theorem dX11_price_44 : decode cX11_price 44 = .ok (.iload_n 1, 1) := by decide +kernel
theorem dX11_price_45 : decode cX11_price 45 = .ok (.iload_n 2, 1) := by decide +kernel
theorem dX11_price_46 : decode cX11_price 46 = .ok (.invokevirtual 123, 3) := by decide +kernel
theorem dX11_price_49 : decode cX11_price 49 = .ok (.iload_n 3, 1) := by decide +kernel
theorem dX11_price_50 : decode cX11_price 50 = .ok (.ireturn, 1) := by decide +kernel
theorem dX11_plan_0 : decode cX11_plan 0 = .ok (.iload_n 1, 1) := by decide +kernel
theorem dX11_plan_1 : decode cX11_plan 1 = .ok (.invokestatic 131, 3) := by decide +kernel
theorem dX11_plan_4 : decode cX11_plan 4 = .ok (.ifCond .ne 23, 3) := by decide +kernel
theorem dX11_plan_7 : decode cX11_plan 7 = .ok (.iload_n 2, 1) := by decide +kernel
theorem dX11_plan_8 : decode cX11_plan 8 = .ok (.iconst (-1), 1) := by decide +kernel
theorem dX11_plan_9 : decode cX11_plan 9 = .ok (.aload_n 0, 1) := by decide +kernel
theorem dX11_plan_10 : decode cX11_plan 10 = .ok (.getfield 12, 3) := by decide +kernel
theorem dX11_plan_13 : decode cX11_plan 13 = .ok (.getfield 311, 3) := by decide +kernel
theorem dX11_plan_16 : decode cX11_plan 16 = .ok (.getfield 296, 3) := by decide +kernel
theorem dX11_plan_19 : decode cX11_plan 19 = .ok (.iconst 1, 1) := by decide +kernel
theorem dX11_plan_20 : decode cX11_plan 20 = .ok (.isub, 1) := by decide +kernel
theorem dX11_plan_21 : decode cX11_plan 21 = .ok (.invokestatic 98, 3) := by decide +kernel
theorem dX11_plan_24 : decode cX11_plan 24 = .ok (.ifCond .eq 7, 3) := by decide +kernel
theorem dX11_plan_27 : decode cX11_plan 27 = .ok (.ldc2_w 239, 3) := by decide +kernel
theorem dX11_plan_30 : decode cX11_plan 30 = .ok (.lreturn, 1) := by decide +kernel
theorem dX11_plan_31 : decode cX11_plan 31 = .ok (.aload_n 0, 1) := by decide +kernel
theorem dX11_plan_32 : decode cX11_plan 32 = .ok (.getfield 87, 3) := by decide +kernel
theorem dX11_plan_35 : decode cX11_plan 35 = .ok (.iload_n 1, 1) := by decide +kernel
theorem dX11_plan_36 : decode cX11_plan 36 = .ok (.invokevirtual 317, 3) := by decide +kernel
theorem dX11_plan_39 : decode cX11_plan 39 = .ok (.aload_n 0, 1) := by decide +kernel
theorem dX11_plan_40 : decode cX11_plan 40 = .ok (.getfield 87, 3) := by decide +kernel
theorem dX11_plan_43 : decode cX11_plan 43 = .ok (.invokevirtual 320, 3) := by decide +kernel
theorem dX11_plan_46 : decode cX11_plan 46 = .ok (.iload_n 2, 1) := by decide +kernel
theorem dX11_plan_47 : decode cX11_plan 47 = .ok (.iconst (-1), 1) := by decide +kernel
theorem dX11_plan_48 : decode cX11_plan 48 = .ok (.if_icmp .ne 13, 3) := by decide +kernel
theorem dX11_plan_51 : decode cX11_plan 51 = .ok (.aload_n 0, 1) := by decide +kernel
theorem dX11_plan_52 : decode cX11_plan 52 = .ok (.getfield 87, 3) := by decide +kernel
theorem dX11_plan_55 : decode cX11_plan 55 = .ok (.getfield 323, 3) := by decide +kernel
theorem dX11_plan_58 : decode cX11_plan 58 = .ok (.goto 19, 3) := by decide +kernel
theorem dX11_plan_61 : decode cX11_plan 61 = .ok (.aload_n 0, 1) := by decide +kernel
theorem dX11_plan_62 : decode cX11_plan 62 = .ok (.getfield 87, 3) := by decide +kernel
theorem dX11_plan_65 : decode cX11_plan 65 = .ok (.aload_n 0, 1) := by decide +kernel
theorem dX11_plan_66 : decode cX11_plan 66 = .ok (.getfield 87, 3) := by decide +kernel
theorem dX11_plan_69 : decode cX11_plan 69 = .ok (.getfield 326, 3) := by decide +kernel
theorem dX11_plan_72 : decode cX11_plan 72 = .ok (.iload_n 2, 1) := by decide +kernel
theorem dX11_plan_73 : decode cX11_plan 73 = .ok (.invokevirtual 329, 3) := by decide +kernel
theorem dX11_plan_76 : decode cX11_plan 76 = .ok (.i2l, 1) := by decide +kernel
theorem dX11_plan_77 : decode cX11_plan 77 = .ok (.lreturn, 1) := by decide +kernel
theorem dX11_part_0 : decode cX11_part 0 = .ok (.iload_n 1, 1) := by decide +kernel
theorem dX11_part_1 : decode cX11_part 1 = .ok (.iconst 0, 1) := by decide +kernel
theorem dX11_part_2 : decode cX11_part 2 = .ok (.iconst 1, 1) := by decide +kernel
theorem dX11_part_3 : decode cX11_part 3 = .ok (.invokestatic 98, 3) := by decide +kernel
theorem dX11_part_6 : decode cX11_part 6 = .ok (.ifCond .eq 7, 3) := by decide +kernel
theorem dX11_part_9 : decode cX11_part 9 = .ok (.ldc2_w 332, 3) := by decide +kernel
theorem dX11_part_12 : decode cX11_part 12 = .ok (.lreturn, 1) := by decide +kernel
theorem dX11_part_13 : decode cX11_part 13 = .ok (.iload_n 1, 1) := by decide +kernel
theorem dX11_part_14 : decode cX11_part 14 = .ok (.ifCond .ne 10, 3) := by decide +kernel
theorem dX11_part_17 : decode cX11_part 17 = .ok (.aload_n 0, 1) := by decide +kernel
theorem dX11_part_18 : decode cX11_part 18 = .ok (.getfield 91, 3) := by decide +kernel
theorem dX11_part_21 : decode cX11_part 21 = .ok (.goto 7, 3) := by decide +kernel
theorem dX11_part_24 : decode cX11_part 24 = .ok (.aload_n 0, 1) := by decide +kernel
theorem dX11_part_25 : decode cX11_part 25 = .ok (.getfield 95, 3) := by decide +kernel
theorem dX11_part_28 : decode cX11_part 28 = .ok (.lreturn, 1) := by decide +kernel
theorem dX11_image_0 : decode cX11_image 0 = .ok (.iload_n 1, 1) := by decide +kernel
theorem dX11_image_1 : decode cX11_image 1 = .ok (.iconst 0, 1) := by decide +kernel
theorem dX11_image_2 : decode cX11_image 2 = .ok (.aload_n 0, 1) := by decide +kernel
theorem dX11_image_3 : decode cX11_image 3 = .ok (.getfield 16, 3) := by decide +kernel
theorem dX11_image_6 : decode cX11_image 6 = .ok (.arraylength, 1) := by decide +kernel
theorem dX11_image_7 : decode cX11_image 7 = .ok (.iconst 1, 1) := by decide +kernel
theorem dX11_image_8 : decode cX11_image 8 = .ok (.isub, 1) := by decide +kernel
theorem dX11_image_9 : decode cX11_image 9 = .ok (.invokestatic 98, 3) := by decide +kernel
theorem dX11_image_12 : decode cX11_image 12 = .ok (.ifCond .eq 6, 3) := by decide +kernel
theorem dX11_image_15 : decode cX11_image 15 = .ok (.bipush (-2), 2) := by decide +kernel
theorem dX11_image_17 : decode cX11_image 17 = .ok (.ireturn, 1) := by decide +kernel
theorem dX11_image_18 : decode cX11_image 18 = .ok (.aload_n 0, 1) := by decide +kernel
theorem dX11_image_19 : decode cX11_image 19 = .ok (.getfield 16, 3) := by decide +kernel
theorem dX11_image_22 : decode cX11_image 22 = .ok (.iload_n 1, 1) := by decide +kernel
theorem dX11_image_23 : decode cX11_image 23 = .ok (.aaload, 1) := by decide +kernel
theorem dX11_image_24 : decode cX11_image 24 = .ok (.astore_n 2, 1) := by decide +kernel
theorem dX11_image_25 : decode cX11_image 25 = .ok (.aload_n 2, 1) := by decide +kernel
theorem dX11_image_26 : decode cX11_image 26 = .ok (.ifnonnull 18, 3) := by decide +kernel
theorem dX11_image_29 : decode cX11_image 29 = .ok (.new 9, 3) := by decide +kernel
theorem dX11_image_32 : decode cX11_image 32 = .ok (.dup, 1) := by decide +kernel
theorem dX11_image_33 : decode cX11_image 33 = .ok (.invokespecial 11, 3) := by decide +kernel
theorem dX11_image_36 : decode cX11_image 36 = .ok (.astore_n 2, 1) := by decide +kernel
theorem dX11_image_37 : decode cX11_image 37 = .ok (.aload_n 0, 1) := by decide +kernel
theorem dX11_image_38 : decode cX11_image 38 = .ok (.getfield 16, 3) := by decide +kernel
theorem dX11_image_41 : decode cX11_image 41 = .ok (.iload_n 1, 1) := by decide +kernel
theorem dX11_image_42 : decode cX11_image 42 = .ok (.aload_n 2, 1) := by decide +kernel
theorem dX11_image_43 : decode cX11_image 43 = .ok (.aastore, 1) := by decide +kernel
theorem dX11_image_44 : decode cX11_image 44 = .ok (.aload_n 2, 1) := by decide +kernel
theorem dX11_image_45 : decode cX11_image 45 = .ok (.aload_n 0, 1) := by decide +kernel
theorem dX11_image_46 : decode cX11_image 46 = .ok (.getfield 12, 3) := by decide +kernel
theorem dX11_image_49 : decode cX11_image 49 = .ok (.invokevirtual 334, 3) := by decide +kernel
theorem dX11_image_52 : decode cX11_image 52 = .ok (.iconst 1, 1) := by decide +kernel
theorem dX11_image_53 : decode cX11_image 53 = .ok (.ireturn, 1) := by decide +kernel
theorem dX11_from_0 : decode cX11_from 0 = .ok (.iload_n 1, 1) := by decide +kernel
theorem dX11_from_1 : decode cX11_from 1 = .ok (.iconst 0, 1) := by decide +kernel
theorem dX11_from_2 : decode cX11_from 2 = .ok (.aload_n 0, 1) := by decide +kernel
theorem dX11_from_3 : decode cX11_from 3 = .ok (.getfield 16, 3) := by decide +kernel
theorem dX11_from_6 : decode cX11_from 6 = .ok (.arraylength, 1) := by decide +kernel
theorem dX11_from_7 : decode cX11_from 7 = .ok (.iconst 1, 1) := by decide +kernel
theorem dX11_from_8 : decode cX11_from 8 = .ok (.isub, 1) := by decide +kernel
theorem dX11_from_9 : decode cX11_from 9 = .ok (.invokestatic 98, 3) := by decide +kernel
theorem dX11_from_12 : decode cX11_from 12 = .ok (.ifCond .eq 6, 3) := by decide +kernel
theorem dX11_from_15 : decode cX11_from 15 = .ok (.bipush (-2), 2) := by decide +kernel
theorem dX11_from_17 : decode cX11_from 17 = .ok (.ireturn, 1) := by decide +kernel
theorem dX11_from_18 : decode cX11_from 18 = .ok (.aload_n 0, 1) := by decide +kernel
theorem dX11_from_19 : decode cX11_from 19 = .ok (.getfield 16, 3) := by decide +kernel
theorem dX11_from_22 : decode cX11_from 22 = .ok (.iload_n 1, 1) := by decide +kernel
theorem dX11_from_23 : decode cX11_from 23 = .ok (.aaload, 1) := by decide +kernel
theorem dX11_from_24 : decode cX11_from 24 = .ok (.astore_n 2, 1) := by decide +kernel
theorem dX11_from_25 : decode cX11_from 25 = .ok (.aload_n 2, 1) := by decide +kernel
theorem dX11_from_26 : decode cX11_from 26 = .ok (.ifnonnull 6, 3) := by decide +kernel
theorem dX11_from_29 : decode cX11_from 29 = .ok (.bipush (-3), 2) := by decide +kernel
theorem dX11_from_31 : decode cX11_from 31 = .ok (.ireturn, 1) := by decide +kernel
theorem dX11_from_32 : decode cX11_from 32 = .ok (.aload_n 0, 1) := by decide +kernel
theorem dX11_from_33 : decode cX11_from 33 = .ok (.getfield 12, 3) := by decide +kernel
theorem dX11_from_36 : decode cX11_from 36 = .ok (.aload_n 2, 1) := by decide +kernel
theorem dX11_from_37 : decode cX11_from 37 = .ok (.invokevirtual 334, 3) := by decide +kernel
theorem dX11_from_40 : decode cX11_from 40 = .ok (.iconst 1, 1) := by decide +kernel
theorem dX11_from_41 : decode cX11_from 41 = .ok (.ireturn, 1) := by decide +kernel
theorem dX11_count_0 : decode cX11_count 0 = .ok (.iload_n 1, 1) := by decide +kernel
theorem dX11_count_1 : decode cX11_count 1 = .ok (.iconst 0, 1) := by decide +kernel
theorem dX11_count_2 : decode cX11_count 2 = .ok (.bipush 10, 2) := by decide +kernel
theorem dX11_count_4 : decode cX11_count 4 = .ok (.invokestatic 98, 3) := by decide +kernel
theorem dX11_count_7 : decode cX11_count 7 = .ok (.ifCond .eq 8, 3) := by decide +kernel
theorem dX11_count_10 : decode cX11_count 10 = .ok (.bipush (-2), 2) := by decide +kernel
theorem dX11_count_12 : decode cX11_count 12 = .ok (.goto 11, 3) := by decide +kernel
theorem dX11_count_15 : decode cX11_count 15 = .ok (.aload_n 0, 1) := by decide +kernel
theorem dX11_count_16 : decode cX11_count 16 = .ok (.getfield 12, 3) := by decide +kernel
theorem dX11_count_19 : decode cX11_count 19 = .ok (.iload_n 1, 1) := by decide +kernel
theorem dX11_count_20 : decode cX11_count 20 = .ok (.invokevirtual 337, 3) := by decide +kernel
theorem dX11_count_23 : decode cX11_count 23 = .ok (.ireturn, 1) := by decide +kernel
theorem dX11_digest_0 : decode cX11_digest 0 = .ok (.ldc2_w 340, 3) := by decide +kernel
theorem dX11_digest_3 : decode cX11_digest 3 = .ok (.lstore_n 1, 1) := by decide +kernel
theorem dX11_digest_4 : decode cX11_digest 4 = .ok (.iconst 0, 1) := by decide +kernel
theorem dX11_digest_5 : decode cX11_digest 5 = .ok (.istore_n 3, 1) := by decide +kernel
theorem dX11_digest_6 : decode cX11_digest 6 = .ok (.iload_n 3, 1) := by decide +kernel
theorem dX11_digest_7 : decode cX11_digest 7 = .ok (.bipush 11, 2) := by decide +kernel
theorem dX11_digest_9 : decode cX11_digest 9 = .ok (.if_icmp .ge 25, 3) := by decide +kernel
theorem dX11_digest_12 : decode cX11_digest 12 = .ok (.ldc2_w 342, 3) := by decide +kernel
theorem dX11_digest_15 : decode cX11_digest 15 = .ok (.lload_n 1, 1) := by decide +kernel
theorem dX11_digest_16 : decode cX11_digest 16 = .ok (.lmul, 1) := by decide +kernel
theorem dX11_digest_17 : decode cX11_digest 17 = .ok (.aload_n 0, 1) := by decide +kernel
theorem dX11_digest_18 : decode cX11_digest 18 = .ok (.getfield 12, 3) := by decide +kernel
theorem dX11_digest_21 : decode cX11_digest 21 = .ok (.iload_n 3, 1) := by decide +kernel
theorem dX11_digest_22 : decode cX11_digest 22 = .ok (.invokevirtual 337, 3) := by decide +kernel
theorem dX11_digest_25 : decode cX11_digest 25 = .ok (.i2l, 1) := by decide +kernel
theorem dX11_digest_26 : decode cX11_digest 26 = .ok (.ladd, 1) := by decide +kernel
theorem dX11_digest_27 : decode cX11_digest 27 = .ok (.lstore_n 1, 1) := by decide +kernel
theorem dX11_digest_28 : decode cX11_digest 28 = .ok (.iinc 3 1, 3) := by decide +kernel
theorem dX11_digest_31 : decode cX11_digest 31 = .ok (.goto (-25), 3) := by decide +kernel
theorem dX11_digest_34 : decode cX11_digest 34 = .ok (.aload_n 0, 1) := by decide +kernel
theorem dX11_digest_35 : decode cX11_digest 35 = .ok (.getfield 12, 3) := by decide +kernel
theorem dX11_digest_38 : decode cX11_digest 38 = .ok (.lload_n 1, 1) := by decide +kernel
theorem dX11_digest_39 : decode cX11_digest 39 = .ok (.invokevirtual 344, 3) := by decide +kernel
theorem dX11_digest_42 : decode cX11_digest 42 = .ok (.lstore_n 1, 1) := by decide +kernel
theorem dX11_digest_43 : decode cX11_digest 43 = .ok (.aload_n 0, 1) := by decide +kernel
theorem dX11_digest_44 : decode cX11_digest 44 = .ok (.getfield 12, 3) := by decide +kernel
theorem dX11_digest_47 : decode cX11_digest 47 = .ok (.lload_n 1, 1) := by decide +kernel
theorem dX11_digest_48 : decode cX11_digest 48 = .ok (.invokevirtual 348, 3) := by decide +kernel
theorem dX11_digest_51 : decode cX11_digest 51 = .ok (.lstore_n 1, 1) := by decide +kernel
theorem dX11_digest_52 : decode cX11_digest 52 = .ok (.aload_n 0, 1) := by decide +kernel
theorem dX11_digest_53 : decode cX11_digest 53 = .ok (.getfield 50, 3) := by decide +kernel
theorem dX11_digest_56 : decode cX11_digest 56 = .ok (.bipush 99, 2) := by decide +kernel
theorem dX11_digest_58 : decode cX11_digest 58 = .ok (.invokevirtual 241, 3) := by decide +kernel
theorem dX11_digest_61 : decode cX11_digest 61 = .ok (.iconst 0, 1) := by decide +kernel
theorem dX11_digest_62 : decode cX11_digest 62 = .ok (.istore_n 3, 1) := by decide +kernel
theorem dX11_digest_63 : decode cX11_digest 63 = .ok (.iload_n 3, 1) := by decide +kernel
theorem dX11_digest_64 : decode cX11_digest 64 = .ok (.aload_n 0, 1) := by decide +kernel
theorem dX11_digest_65 : decode cX11_digest 65 = .ok (.getfield 12, 3) := by decide +kernel
theorem dX11_digest_68 : decode cX11_digest 68 = .ok (.getfield 102, 3) := by decide +kernel
theorem dX11_digest_71 : decode cX11_digest 71 = .ok (.getfield 296, 3) := by decide +kernel
theorem dX11_digest_74 : decode cX11_digest 74 = .ok (.if_icmp .ge 24, 3) := by decide +kernel
theorem dX11_digest_77 : decode cX11_digest 77 = .ok (.ldc2_w 342, 3) := by decide +kernel
theorem dX11_digest_80 : decode cX11_digest 80 = .ok (.lload_n 1, 1) := by decide +kernel
theorem dX11_digest_81 : decode cX11_digest 81 = .ok (.lmul, 1) := by decide +kernel
theorem dX11_digest_82 : decode cX11_digest 82 = .ok (.aload_n 0, 1) := by decide +kernel
theorem dX11_digest_83 : decode cX11_digest 83 = .ok (.getfield 50, 3) := by decide +kernel
theorem dX11_digest_86 : decode cX11_digest 86 = .ok (.iload_n 3, 1) := by decide +kernel
theorem dX11_digest_87 : decode cX11_digest 87 = .ok (.invokevirtual 245, 3) := by decide +kernel
theorem dX11_digest_90 : decode cX11_digest 90 = .ok (.ladd, 1) := by decide +kernel
theorem dX11_digest_91 : decode cX11_digest 91 = .ok (.lstore_n 1, 1) := by decide +kernel
theorem dX11_digest_92 : decode cX11_digest 92 = .ok (.iinc 3 1, 3) := by decide +kernel
theorem dX11_digest_95 : decode cX11_digest 95 = .ok (.goto (-32), 3) := by decide +kernel
theorem dX11_digest_98 : decode cX11_digest 98 = .ok (.ldc2_w 342, 3) := by decide +kernel
theorem dX11_digest_101 : decode cX11_digest 101 = .ok (.lload_n 1, 1) := by decide +kernel
theorem dX11_digest_102 : decode cX11_digest 102 = .ok (.lmul, 1) := by decide +kernel
theorem dX11_digest_103 : decode cX11_digest 103 = .ok (.aload_n 0, 1) := by decide +kernel
theorem dX11_digest_104 : decode cX11_digest 104 = .ok (.getfield 91, 3) := by decide +kernel
theorem dX11_digest_107 : decode cX11_digest 107 = .ok (.ladd, 1) := by decide +kernel
theorem dX11_digest_108 : decode cX11_digest 108 = .ok (.lstore_n 1, 1) := by decide +kernel
theorem dX11_digest_109 : decode cX11_digest 109 = .ok (.ldc2_w 342, 3) := by decide +kernel
theorem dX11_digest_112 : decode cX11_digest 112 = .ok (.lload_n 1, 1) := by decide +kernel
theorem dX11_digest_113 : decode cX11_digest 113 = .ok (.lmul, 1) := by decide +kernel
theorem dX11_digest_114 : decode cX11_digest 114 = .ok (.aload_n 0, 1) := by decide +kernel
theorem dX11_digest_115 : decode cX11_digest 115 = .ok (.getfield 95, 3) := by decide +kernel
theorem dX11_digest_118 : decode cX11_digest 118 = .ok (.ladd, 1) := by decide +kernel
theorem dX11_digest_119 : decode cX11_digest 119 = .ok (.lreturn, 1) := by decide +kernel
theorem dX11_isOut_0 : decode cX11_isOut 0 = .ok (.iload_n 0, 1) := by decide +kernel
theorem dX11_isOut_1 : decode cX11_isOut 1 = .ok (.iload_n 1, 1) := by decide +kernel
theorem dX11_isOut_2 : decode cX11_isOut 2 = .ok (.if_icmp .lt 8, 3) := by decide +kernel
theorem dX11_isOut_5 : decode cX11_isOut 5 = .ok (.iload_n 0, 1) := by decide +kernel
theorem dX11_isOut_6 : decode cX11_isOut 6 = .ok (.iload_n 2, 1) := by decide +kernel
theorem dX11_isOut_7 : decode cX11_isOut 7 = .ok (.if_icmp .le 7, 3) := by decide +kernel
theorem dX11_isOut_10 : decode cX11_isOut 10 = .ok (.iconst 1, 1) := by decide +kernel
theorem dX11_isOut_11 : decode cX11_isOut 11 = .ok (.goto 4, 3) := by decide +kernel
theorem dX11_isOut_14 : decode cX11_isOut 14 = .ok (.iconst 0, 1) := by decide +kernel
theorem dX11_isOut_15 : decode cX11_isOut 15 = .ok (.ireturn, 1) := by decide +kernel
theorem dX11_isOutOfSeasons_0 : decode cX11_isOutOfSeasons 0 = .ok (.iload_n 0, 1) := by decide +kernel
theorem dX11_isOutOfSeasons_1 : decode cX11_isOutOfSeasons 1 = .ok (.iconst 0, 1) := by decide +kernel
theorem dX11_isOutOfSeasons_2 : decode cX11_isOutOfSeasons 2 = .ok (.bipush 99, 2) := by decide +kernel
theorem dX11_isOutOfSeasons_4 : decode cX11_isOutOfSeasons 4 = .ok (.invokestatic 98, 3) := by decide +kernel
theorem dX11_isOutOfSeasons_7 : decode cX11_isOutOfSeasons 7 = .ok (.ireturn, 1) := by decide +kernel
theorem dX11_isNoMerchant_0 : decode cX11_isNoMerchant 0 = .ok (.iload_n 1, 1) := by decide +kernel
theorem dX11_isNoMerchant_1 : decode cX11_isNoMerchant 1 = .ok (.iconst 0, 1) := by decide +kernel
theorem dX11_isNoMerchant_2 : decode cX11_isNoMerchant 2 = .ok (.aload_n 0, 1) := by decide +kernel
theorem dX11_isNoMerchant_3 : decode cX11_isNoMerchant 3 = .ok (.getfield 12, 3) := by decide +kernel
theorem dX11_isNoMerchant_6 : decode cX11_isNoMerchant 6 = .ok (.getfield 102, 3) := by decide +kernel
theorem dX11_isNoMerchant_9 : decode cX11_isNoMerchant 9 = .ok (.getfield 296, 3) := by decide +kernel
theorem dX11_isNoMerchant_12 : decode cX11_isNoMerchant 12 = .ok (.iconst 1, 1) := by decide +kernel
theorem dX11_isNoMerchant_13 : decode cX11_isNoMerchant 13 = .ok (.isub, 1) := by decide +kernel
theorem dX11_isNoMerchant_14 : decode cX11_isNoMerchant 14 = .ok (.invokestatic 98, 3) := by decide +kernel
theorem dX11_isNoMerchant_17 : decode cX11_isNoMerchant 17 = .ok (.ireturn, 1) := by decide +kernel
theorem dX11_isNoDebt_0 : decode cX11_isNoDebt 0 = .ok (.iload_n 1, 1) := by decide +kernel
theorem dX11_isNoDebt_1 : decode cX11_isNoDebt 1 = .ok (.iconst 0, 1) := by decide +kernel
theorem dX11_isNoDebt_2 : decode cX11_isNoDebt 2 = .ok (.aload_n 0, 1) := by decide +kernel
theorem dX11_isNoDebt_3 : decode cX11_isNoDebt 3 = .ok (.getfield 12, 3) := by decide +kernel
theorem dX11_isNoDebt_6 : decode cX11_isNoDebt 6 = .ok (.getfield 169, 3) := by decide +kernel
theorem dX11_isNoDebt_9 : decode cX11_isNoDebt 9 = .ok (.getfield 296, 3) := by decide +kernel
theorem dX11_isNoDebt_12 : decode cX11_isNoDebt 12 = .ok (.iconst 1, 1) := by decide +kernel
theorem dX11_isNoDebt_13 : decode cX11_isNoDebt 13 = .ok (.isub, 1) := by decide +kernel
theorem dX11_isNoDebt_14 : decode cX11_isNoDebt 14 = .ok (.invokestatic 98, 3) := by decide +kernel
theorem dX11_isNoDebt_17 : decode cX11_isNoDebt 17 = .ok (.ireturn, 1) := by decide +kernel
theorem dX11_isNoPurse_0 : decode cX11_isNoPurse 0 = .ok (.iload_n 1, 1) := by decide +kernel
theorem dX11_isNoPurse_1 : decode cX11_isNoPurse 1 = .ok (.iconst 0, 1) := by decide +kernel
theorem dX11_isNoPurse_2 : decode cX11_isNoPurse 2 = .ok (.aload_n 0, 1) := by decide +kernel
theorem dX11_isNoPurse_3 : decode cX11_isNoPurse 3 = .ok (.getfield 12, 3) := by decide +kernel
theorem dX11_isNoPurse_6 : decode cX11_isNoPurse 6 = .ok (.getfield 184, 3) := by decide +kernel
theorem dX11_isNoPurse_9 : decode cX11_isNoPurse 9 = .ok (.getfield 296, 3) := by decide +kernel
theorem dX11_isNoPurse_12 : decode cX11_isNoPurse 12 = .ok (.iconst 1, 1) := by decide +kernel
theorem dX11_isNoPurse_13 : decode cX11_isNoPurse 13 = .ok (.isub, 1) := by decide +kernel
theorem dX11_isNoPurse_14 : decode cX11_isNoPurse 14 = .ok (.invokestatic 98, 3) := by decide +kernel
theorem dX11_isNoPurse_17 : decode cX11_isNoPurse 17 = .ok (.ireturn, 1) := by decide +kernel
theorem dX11_isNoName_0 : decode cX11_isNoName 0 = .ok (.iload_n 1, 1) := by decide +kernel
theorem dX11_isNoName_1 : decode cX11_isNoName 1 = .ok (.iconst 0, 1) := by decide +kernel
theorem dX11_isNoName_2 : decode cX11_isNoName 2 = .ok (.aload_n 0, 1) := by decide +kernel
theorem dX11_isNoName_3 : decode cX11_isNoName 3 = .ok (.getfield 12, 3) := by decide +kernel
theorem dX11_isNoName_6 : decode cX11_isNoName 6 = .ok (.getfield 257, 3) := by decide +kernel
theorem dX11_isNoName_9 : decode cX11_isNoName 9 = .ok (.iconst 1, 1) := by decide +kernel
theorem dX11_isNoName_10 : decode cX11_isNoName 10 = .ok (.isub, 1) := by decide +kernel
theorem dX11_isNoName_11 : decode cX11_isNoName 11 = .ok (.invokestatic 98, 3) := by decide +kernel
theorem dX11_isNoName_14 : decode cX11_isNoName 14 = .ok (.ireturn, 1) := by decide +kernel
theorem dX11_isNoLoad_0 : decode cX11_isNoLoad 0 = .ok (.aload_n 0, 1) := by decide +kernel
theorem dX11_isNoLoad_1 : decode cX11_isNoLoad 1 = .ok (.iload_n 1, 1) := by decide +kernel
theorem dX11_isNoLoad_2 : decode cX11_isNoLoad 2 = .ok (.invokevirtual 165, 3) := by decide +kernel
theorem dX11_isNoLoad_5 : decode cX11_isNoLoad 5 = .ok (.ifCond .ne 13, 3) := by decide +kernel
theorem dX11_isNoLoad_8 : decode cX11_isNoLoad 8 = .ok (.iload_n 2, 1) := by decide +kernel
theorem dX11_isNoLoad_9 : decode cX11_isNoLoad 9 = .ok (.iconst 1, 1) := by decide +kernel
theorem dX11_isNoLoad_10 : decode cX11_isNoLoad 10 = .ok (.ldc 168, 2) := by decide +kernel
theorem dX11_isNoLoad_12 : decode cX11_isNoLoad 12 = .ok (.invokestatic 98, 3) := by decide +kernel
theorem dX11_isNoLoad_15 : decode cX11_isNoLoad 15 = .ok (.ifCond .eq 7, 3) := by decide +kernel
theorem dX11_isNoLoad_18 : decode cX11_isNoLoad 18 = .ok (.iconst 1, 1) := by decide +kernel
theorem dX11_isNoLoad_19 : decode cX11_isNoLoad 19 = .ok (.goto 4, 3) := by decide +kernel
theorem dX11_isNoLoad_22 : decode cX11_isNoLoad 22 = .ok (.iconst 0, 1) := by decide +kernel
theorem dX11_isNoLoad_23 : decode cX11_isNoLoad 23 = .ok (.ireturn, 1) := by decide +kernel
theorem dX11_setFraction_0 : decode cX11_setFraction 0 = .ok (.lload_n 1, 1) := by decide +kernel
theorem dX11_setFraction_1 : decode cX11_setFraction 1 = .ok (.lload_n 3, 1) := by decide +kernel
theorem dX11_setFraction_2 : decode cX11_setFraction 2 = .ok (.invokestatic 351, 3) := by decide +kernel
theorem dX11_setFraction_5 : decode cX11_setFraction 5 = .ok (.lstore 5, 2) := by decide +kernel
theorem dX11_setFraction_7 : decode cX11_setFraction 7 = .ok (.lload 5, 2) := by decide +kernel
theorem dX11_setFraction_9 : decode cX11_setFraction 9 = .ok (.lconst 0, 1) := by decide +kernel
theorem dX11_setFraction_10 : decode cX11_setFraction 10 = .ok (.lcmp, 1) := by decide +kernel
theorem dX11_setFraction_11 : decode cX11_setFraction 11 = .ok (.ifCond .le 19, 3) := by decide +kernel
theorem dX11_setFraction_14 : decode cX11_setFraction 14 = .ok (.aload_n 0, 1) := by decide +kernel
theorem dX11_setFraction_15 : decode cX11_setFraction 15 = .ok (.lload_n 1, 1) := by decide +kernel
theorem dX11_setFraction_16 : decode cX11_setFraction 16 = .ok (.lload 5, 2) := by decide +kernel
theorem dX11_setFraction_18 : decode cX11_setFraction 18 = .ok (.ldiv, 1) := by decide +kernel
theorem dX11_setFraction_19 : decode cX11_setFraction 19 = .ok (.putfield 91, 3) := by decide +kernel
theorem dX11_setFraction_22 : decode cX11_setFraction 22 = .ok (.aload_n 0, 1) := by decide +kernel
theorem dX11_setFraction_23 : decode cX11_setFraction 23 = .ok (.lload_n 3, 1) := by decide +kernel
theorem dX11_setFraction_24 : decode cX11_setFraction 24 = .ok (.lload 5, 2) := by decide +kernel
theorem dX11_setFraction_26 : decode cX11_setFraction 26 = .ok (.ldiv, 1) := by decide +kernel
theorem dX11_setFraction_27 : decode cX11_setFraction 27 = .ok (.putfield 95, 3) := by decide +kernel
theorem dX11_setFraction_30 : decode cX11_setFraction 30 = .ok (.return_, 1) := by decide +kernel
theorem dX11_greatestDivisor_0 : decode cX11_greatestDivisor 0 = .ok (.lload_n 0, 1) := by decide +kernel
theorem dX11_greatestDivisor_1 : decode cX11_greatestDivisor 1 = .ok (.lstore 4, 2) := by decide +kernel
theorem dX11_greatestDivisor_3 : decode cX11_greatestDivisor 3 = .ok (.lload_n 2, 1) := by decide +kernel
theorem dX11_greatestDivisor_4 : decode cX11_greatestDivisor 4 = .ok (.lstore 6, 2) := by decide +kernel
theorem dX11_greatestDivisor_6 : decode cX11_greatestDivisor 6 = .ok (.iconst 0, 1) := by decide +kernel
theorem dX11_greatestDivisor_7 : decode cX11_greatestDivisor 7 = .ok (.istore 8, 2) := by decide +kernel
theorem dX11_greatestDivisor_9 : decode cX11_greatestDivisor 9 = .ok (.iload 8, 2) := by decide +kernel
theorem dX11_greatestDivisor_11 : decode cX11_greatestDivisor 11 = .ok (.sipush 1000, 3) := by decide +kernel
theorem dX11_greatestDivisor_14 : decode cX11_greatestDivisor 14 = .ok (.if_icmp .ge 31, 3) := by decide +kernel
theorem dX11_greatestDivisor_17 : decode cX11_greatestDivisor 17 = .ok (.lload 6, 2) := by decide +kernel
theorem dX11_greatestDivisor_19 : decode cX11_greatestDivisor 19 = .ok (.lconst 0, 1) := by decide +kernel
theorem dX11_greatestDivisor_20 : decode cX11_greatestDivisor 20 = .ok (.lcmp, 1) := by decide +kernel
theorem dX11_greatestDivisor_21 : decode cX11_greatestDivisor 21 = .ok (.ifCond .eq 24, 3) := by decide +kernel
theorem dX11_greatestDivisor_24 : decode cX11_greatestDivisor 24 = .ok (.lload 4, 2) := by decide +kernel
theorem dX11_greatestDivisor_26 : decode cX11_greatestDivisor 26 = .ok (.lload 6, 2) := by decide +kernel
theorem dX11_greatestDivisor_28 : decode cX11_greatestDivisor 28 = .ok (.lrem, 1) := by decide +kernel
theorem dX11_greatestDivisor_29 : decode cX11_greatestDivisor 29 = .ok (.lstore 9, 2) := by decide +kernel
theorem dX11_greatestDivisor_31 : decode cX11_greatestDivisor 31 = .ok (.lload 6, 2) := by decide +kernel
theorem dX11_greatestDivisor_33 : decode cX11_greatestDivisor 33 = .ok (.lstore 4, 2) := by decide +kernel
theorem dX11_greatestDivisor_35 : decode cX11_greatestDivisor 35 = .ok (.lload 9, 2) := by decide +kernel
theorem dX11_greatestDivisor_37 : decode cX11_greatestDivisor 37 = .ok (.lstore 6, 2) := by decide +kernel
theorem dX11_greatestDivisor_39 : decode cX11_greatestDivisor 39 = .ok (.iinc 8 1, 3) := by decide +kernel
theorem dX11_greatestDivisor_42 : decode cX11_greatestDivisor 42 = .ok (.goto (-33), 3) := by decide +kernel
theorem dX11_greatestDivisor_45 : decode cX11_greatestDivisor 45 = .ok (.lload 4, 2) := by decide +kernel
theorem dX11_greatestDivisor_47 : decode cX11_greatestDivisor 47 = .ok (.lreturn, 1) := by decide +kernel
theorem dX12_in_0 : decode cX12_in 0 = .ok (.lload_n 0, 1) := by decide +kernel
theorem dX12_in_1 : decode cX12_in 1 = .ok (.lload_n 2, 1) := by decide +kernel
theorem dX12_in_2 : decode cX12_in 2 = .ok (.lcmp, 1) := by decide +kernel
theorem dX12_in_3 : decode cX12_in 3 = .ok (.ifCond .lt 14, 3) := by decide +kernel
theorem dX12_in_6 : decode cX12_in 6 = .ok (.lload_n 0, 1) := by decide +kernel
theorem dX12_in_7 : decode cX12_in 7 = .ok (.lload 4, 2) := by decide +kernel
theorem dX12_in_9 : decode cX12_in 9 = .ok (.lcmp, 1) := by decide +kernel
theorem dX12_in_10 : decode cX12_in 10 = .ok (.ifCond .gt 7, 3) := by decide +kernel
theorem dX12_in_13 : decode cX12_in 13 = .ok (.iconst 1, 1) := by decide +kernel
theorem dX12_in_14 : decode cX12_in 14 = .ok (.goto 4, 3) := by decide +kernel
theorem dX12_in_17 : decode cX12_in 17 = .ok (.iconst 0, 1) := by decide +kernel
theorem dX12_in_18 : decode cX12_in 18 = .ok (.ireturn, 1) := by decide +kernel
theorem dX12_init_0 : decode cX12_init 0 = .ok (.aload_n 0, 1) := by decide +kernel
theorem dX12_init_1 : decode cX12_init 1 = .ok (.invokespecial 1, 3) := by decide +kernel
theorem dX12_init_4 : decode cX12_init 4 = .ok (.aload_n 0, 1) := by decide +kernel
theorem dX12_init_5 : decode cX12_init 5 = .ok (.sipush 1951, 3) := by decide +kernel
theorem dX12_init_8 : decode cX12_init 8 = .ok (.newarray .int, 2) := by decide +kernel
theorem dX12_init_10 : decode cX12_init 10 = .ok (.putfield 7, 3) := by decide +kernel
theorem dX12_init_13 : decode cX12_init 13 = .ok (.aload_n 0, 1) := by decide +kernel
theorem dX12_init_14 : decode cX12_init 14 = .ok (.sipush 3902, 3) := by decide +kernel
theorem dX12_init_17 : decode cX12_init 17 = .ok (.newarray .int, 2) := by decide +kernel
theorem dX12_init_19 : decode cX12_init 19 = .ok (.putfield 13, 3) := by decide +kernel
theorem dX12_init_22 : decode cX12_init 22 = .ok (.aload_n 0, 1) := by decide +kernel
theorem dX12_init_23 : decode cX12_init 23 = .ok (.iconst 2, 1) := by decide +kernel
theorem dX12_init_24 : decode cX12_init 24 = .ok (.newarray .boolean, 2) := by decide +kernel
theorem dX12_init_26 : decode cX12_init 26 = .ok (.putfield 16, 3) := by decide +kernel
theorem dX12_init_29 : decode cX12_init 29 = .ok (.aload_n 0, 1) := by decide +kernel
theorem dX12_init_30 : decode cX12_init 30 = .ok (.bipush 70, 2) := by decide +kernel
theorem dX12_init_32 : decode cX12_init 32 = .ok (.newarray .int, 2) := by decide +kernel
theorem dX12_init_34 : decode cX12_init 34 = .ok (.putfield 20, 3) := by decide +kernel
theorem dX12_init_37 : decode cX12_init 37 = .ok (.aload_n 0, 1) := by decide +kernel
theorem dX12_init_38 : decode cX12_init 38 = .ok (.bipush 70, 2) := by decide +kernel
theorem dX12_init_40 : decode cX12_init 40 = .ok (.newarray .int, 2) := by decide +kernel
theorem dX12_init_42 : decode cX12_init 42 = .ok (.putfield 23, 3) := by decide +kernel
theorem dX12_init_45 : decode cX12_init 45 = .ok (.aload_n 0, 1) := by decide +kernel
theorem dX12_init_46 : decode cX12_init 46 = .ok (.bipush 70, 2) := by decide +kernel
theorem dX12_init_48 : decode cX12_init 48 = .ok (.newarray .int, 2) := by decide +kernel
theorem dX12_init_50 : decode cX12_init 50 = .ok (.putfield 26, 3) := by decide +kernel
theorem dX12_init_53 : decode cX12_init 53 = .ok (.aload_n 0, 1) := by decide +kernel
theorem dX12_init_54 : decode cX12_init 54 = .ok (.bipush 70, 2) := by decide +kernel
theorem dX12_init_56 : decode cX12_init 56 = .ok (.newarray .long, 2) := by decide +kernel
theorem dX12_init_58 : decode cX12_init 58 = .ok (.putfield 29, 3) := by decide +kernel
theorem dX12_init_61 : decode cX12_init 61 = .ok (.aload_n 0, 1) := by decide +kernel
theorem dX12_init_62 : decode cX12_init 62 = .ok (.iconst 5, 1) := by decide +kernel
theorem dX12_init_63 : decode cX12_init 63 = .ok (.newarray .long, 2) := by decide +kernel
theorem dX12_init_65 : decode cX12_init 65 = .ok (.putfield 33, 3) := by decide +kernel
theorem dX12_init_68 : decode cX12_init 68 = .ok (.aload_n 0, 1) := by decide +kernel
theorem dX12_init_69 : decode cX12_init 69 = .ok (.bipush 10, 2) := by decide +kernel
theorem dX12_init_71 : decode cX12_init 71 = .ok (.newarray .long, 2) := by decide +kernel
theorem dX12_init_73 : decode cX12_init 73 = .ok (.putfield 36, 3) := by decide +kernel
theorem dX12_init_76 : decode cX12_init 76 = .ok (.aload_n 0, 1) := by decide +kernel
theorem dX12_init_77 : decode cX12_init 77 = .ok (.sipush 1024, 3) := by decide +kernel
theorem dX12_init_80 : decode cX12_init 80 = .ok (.newarray .long, 2) := by decide +kernel
theorem dX12_init_82 : decode cX12_init 82 = .ok (.putfield 39, 3) := by decide +kernel
theorem dX12_init_85 : decode cX12_init 85 = .ok (.aload_n 0, 1) := by decide +kernel
theorem dX12_init_86 : decode cX12_init 86 = .ok (.sipush 1024, 3) := by decide +kernel
theorem dX12_init_89 : decode cX12_init 89 = .ok (.newarray .int, 2) := by decide +kernel
theorem dX12_init_91 : decode cX12_init 91 = .ok (.putfield 42, 3) := by decide +kernel
theorem dX12_init_94 : decode cX12_init 94 = .ok (.aload_n 0, 1) := by decide +kernel
theorem dX12_init_95 : decode cX12_init 95 = .ok (.bipush 100, 2) := by decide +kernel
theorem dX12_init_97 : decode cX12_init 97 = .ok (.newarray .boolean, 2) := by decide +kernel
theorem dX12_init_99 : decode cX12_init 99 = .ok (.putfield 45, 3) := by decide +kernel
theorem dX12_init_102 : decode cX12_init 102 = .ok (.aload_n 0, 1) := by decide +kernel
theorem dX12_init_103 : decode cX12_init 103 = .ok (.bipush 110, 2) := by decide +kernel
theorem dX12_init_105 : decode cX12_init 105 = .ok (.newarray .boolean, 2) := by decide +kernel
theorem dX12_init_107 : decode cX12_init 107 = .ok (.putfield 48, 3) := by decide +kernel
theorem dX12_init_110 : decode cX12_init 110 = .ok (.aload_n 0, 1) := by decide +kernel
theorem dX12_init_111 : decode cX12_init 111 = .ok (.bipush 10, 2) := by decide +kernel
theorem dX12_init_113 : decode cX12_init 113 = .ok (.newarray .int, 2) := by decide +kernel
theorem dX12_init_115 : decode cX12_init 115 = .ok (.putfield 51, 3) := by decide +kernel
theorem dX12_init_118 : decode cX12_init 118 = .ok (.aload_n 0, 1) := by decide +kernel
theorem dX12_init_119 : decode cX12_init 119 = .ok (.bipush 9, 2) := by decide +kernel
theorem dX12_init_121 : decode cX12_init 121 = .ok (.newarray .int, 2) := by decide +kernel
theorem dX12_init_123 : decode cX12_init 123 = .ok (.putfield 54, 3) := by decide +kernel
theorem dX12_init_126 : decode cX12_init 126 = .ok (.aload_n 0, 1) := by decide +kernel
theorem dX12_init_127 : decode cX12_init 127 = .ok (.sipush 512, 3) := by decide +kernel
theorem dX12_init_130 : decode cX12_init 130 = .ok (.newarray .long, 2) := by decide +kernel
theorem dX12_init_132 : decode cX12_init 132 = .ok (.putfield 57, 3) := by decide +kernel
theorem dX12_init_135 : decode cX12_init 135 = .ok (.aload_n 0, 1) := by decide +kernel
theorem dX12_init_136 : decode cX12_init 136 = .ok (.sipush 512, 3) := by decide +kernel
theorem dX12_init_139 : decode cX12_init 139 = .ok (.newarray .long, 2) := by decide +kernel
theorem dX12_init_141 : decode cX12_init 141 = .ok (.putfield 60, 3) := by decide +kernel
theorem dX12_init_144 : decode cX12_init 144 = .ok (.aload_n 0, 1) := by decide +kernel
theorem dX12_init_145 : decode cX12_init 145 = .ok (.bipush 30, 2) := by decide +kernel
theorem dX12_init_147 : decode cX12_init 147 = .ok (.newarray .int, 2) := by decide +kernel
theorem dX12_init_149 : decode cX12_init 149 = .ok (.putfield 63, 3) := by decide +kernel
theorem dX12_init_152 : decode cX12_init 152 = .ok (.aload_n 0, 1) := by decide +kernel
theorem dX12_init_153 : decode cX12_init 153 = .ok (.bipush 10, 2) := by decide +kernel
theorem dX12_init_155 : decode cX12_init 155 = .ok (.newarray .int, 2) := by decide +kernel
theorem dX12_init_157 : decode cX12_init 157 = .ok (.putfield 66, 3) := by decide +kernel
theorem dX12_init_160 : decode cX12_init 160 = .ok (.aload_n 0, 1) := by decide +kernel
theorem dX12_init_161 : decode cX12_init 161 = .ok (.bipush 10, 2) := by decide +kernel
theorem dX12_init_163 : decode cX12_init 163 = .ok (.newarray .int, 2) := by decide +kernel
theorem dX12_init_165 : decode cX12_init 165 = .ok (.putfield 69, 3) := by decide +kernel
theorem dX12_init_168 : decode cX12_init 168 = .ok (.aload_n 0, 1) := by decide +kernel
theorem dX12_init_169 : decode cX12_init 169 = .ok (.bipush 54, 2) := by decide +kernel
theorem dX12_init_171 : decode cX12_init 171 = .ok (.newarray .long, 2) := by decide +kernel
theorem dX12_init_173 : decode cX12_init 173 = .ok (.putfield 72, 3) := by decide +kernel
theorem dX12_init_176 : decode cX12_init 176 = .ok (.aload_n 0, 1) := by decide +kernel
theorem dX12_init_177 : decode cX12_init 177 = .ok (.getfield 7, 3) := by decide +kernel
theorem dX12_init_180 : decode cX12_init 180 = .ok (.bipush 11, 2) := by decide +kernel
theorem dX12_init_182 : decode cX12_init 182 = .ok (.bipush 10, 2) := by decide +kernel
theorem dX12_init_184 : decode cX12_init 184 = .ok (.iastore, 1) := by decide +kernel
theorem dX12_init_185 : decode cX12_init 185 = .ok (.aload_n 0, 1) := by decide +kernel
theorem dX12_init_186 : decode cX12_init 186 = .ok (.getfield 7, 3) := by decide +kernel
theorem dX12_init_189 : decode cX12_init 189 = .ok (.bipush 12, 2) := by decide +kernel
theorem dX12_init_191 : decode cX12_init 191 = .ok (.bipush 9, 2) := by decide +kernel
theorem dX12_init_193 : decode cX12_init 193 = .ok (.iastore, 1) := by decide +kernel
theorem dX12_init_194 : decode cX12_init 194 = .ok (.aload_n 0, 1) := by decide +kernel
theorem dX12_init_195 : decode cX12_init 195 = .ok (.lconst 1, 1) := by decide +kernel
theorem dX12_init_196 : decode cX12_init 196 = .ok (.putfield 75, 3) := by decide +kernel
theorem dX12_init_199 : decode cX12_init 199 = .ok (.return_, 1) := by decide +kernel
theorem dX12_is_0 : decode cX12_is 0 = .ok (.iload_n 2, 1) := by decide +kernel
theorem dX12_is_1 : decode cX12_is 1 = .ok (.i2l, 1) := by decide +kernel
theorem dX12_is_2 : decode cX12_is 2 = .ok (.lconst 0, 1) := by decide +kernel
theorem dX12_is_3 : decode cX12_is 3 = .ok (.aload_n 0, 1) := by decide +kernel
theorem dX12_is_4 : decode cX12_is 4 = .ok (.getfield 7, 3) := by decide +kernel
theorem dX12_is_7 : decode cX12_is 7 = .ok (.iload_n 1, 1) := by decide +kernel
theorem dX12_is_8 : decode cX12_is 8 = .ok (.iaload, 1) := by decide +kernel
theorem dX12_is_9 : decode cX12_is 9 = .ok (.iconst 1, 1) := by decide +kernel
theorem dX12_is_10 : decode cX12_is 10 = .ok (.isub, 1) := by decide +kernel
theorem dX12_is_11 : decode cX12_is 11 = .ok (.i2l, 1) := by decide +kernel
theorem dX12_is_12 : decode cX12_is 12 = .ok (.invokestatic 79, 3) := by decide +kernel
theorem dX12_is_15 : decode cX12_is 15 = .ok (.ireturn, 1) := by decide +kernel
theorem dX12_one_0 : decode cX12_one 0 = .ok (.aload_n 0, 1) := by decide +kernel
theorem dX12_one_1 : decode cX12_one 1 = .ok (.getfield 7, 3) := by decide +kernel
theorem dX12_one_4 : decode cX12_one 4 = .ok (.iload_n 1, 1) := by decide +kernel
theorem dX12_one_5 : decode cX12_one 5 = .ok (.dup2, 1) := by decide +kernel
theorem dX12_one_6 : decode cX12_one 6 = .ok (.iaload, 1) := by decide +kernel
theorem dX12_one_7 : decode cX12_one 7 = .ok (.iconst 1, 1) := by decide +kernel
theorem dX12_one_8 : decode cX12_one 8 = .ok (.iadd, 1) := by decide +kernel
theorem dX12_one_9 : decode cX12_one 9 = .ok (.iastore, 1) := by decide +kernel
theorem dX12_one_10 : decode cX12_one 10 = .ok (.aload_n 0, 1) := by decide +kernel
theorem dX12_one_11 : decode cX12_one 11 = .ok (.getfield 7, 3) := by decide +kernel
theorem dX12_one_14 : decode cX12_one 14 = .ok (.iload_n 1, 1) := by decide +kernel
theorem dX12_one_15 : decode cX12_one 15 = .ok (.iaload, 1) := by decide +kernel
theorem dX12_one_16 : decode cX12_one 16 = .ok (.iconst 1, 1) := by decide +kernel
theorem dX12_one_17 : decode cX12_one 17 = .ok (.isub, 1) := by decide +kernel
theorem dX12_one_18 : decode cX12_one 18 = .ok (.ireturn, 1) := by decide +kernel
theorem dX12_puts_0 : decode cX12_puts 0 = .ok (.aload_n 0, 1) := by decide +kernel
theorem dX12_puts_1 : decode cX12_puts 1 = .ok (.getfield 7, 3) := by decide +kernel
theorem dX12_puts_4 : decode cX12_puts 4 = .ok (.iload_n 1, 1) := by decide +kernel
theorem dX12_puts_5 : decode cX12_puts 5 = .ok (.iaload, 1) := by decide +kernel
theorem dX12_puts_6 : decode cX12_puts 6 = .ok (.istore_n 3, 1) := by decide +kernel
theorem dX12_puts_7 : decode cX12_puts 7 = .ok (.aload_n 0, 1) := by decide +kernel
theorem dX12_puts_8 : decode cX12_puts 8 = .ok (.getfield 7, 3) := by decide +kernel
theorem dX12_puts_11 : decode cX12_puts 11 = .ok (.iload_n 1, 1) := by decide +kernel
theorem dX12_puts_12 : decode cX12_puts 12 = .ok (.iload_n 2, 1) := by decide +kernel
theorem dX12_puts_13 : decode cX12_puts 13 = .ok (.iastore, 1) := by decide +kernel
theorem dX12_puts_14 : decode cX12_puts 14 = .ok (.iload_n 3, 1) := by decide +kernel
theorem dX12_puts_15 : decode cX12_puts 15 = .ok (.ireturn, 1) := by decide +kernel
theorem dX12_isSeason_0 : decode cX12_isSeason 0 = .ok (.iload_n 0, 1) := by decide +kernel
theorem dX12_isSeason_1 : decode cX12_isSeason 1 = .ok (.i2l, 1) := by decide +kernel
theorem dX12_isSeason_2 : decode cX12_isSeason 2 = .ok (.lconst 0, 1) := by decide +kernel
theorem dX12_isSeason_3 : decode cX12_isSeason 3 = .ok (.ldc2_w 83, 3) := by decide +kernel
theorem dX12_isSeason_6 : decode cX12_isSeason 6 = .ok (.invokestatic 79, 3) := by decide +kernel
theorem dX12_isSeason_9 : decode cX12_isSeason 9 = .ok (.ireturn, 1) := by decide +kernel
theorem dX12_house_0 : decode cX12_house 0 = .ok (.aload_n 0, 1) := by decide +kernel
theorem dX12_house_1 : decode cX12_house 1 = .ok (.getfield 7, 3) := by decide +kernel
theorem dX12_house_4 : decode cX12_house 4 = .ok (.bipush 20, 2) := by decide +kernel
theorem dX12_house_6 : decode cX12_house 6 = .ok (.iconst 2, 1) := by decide +kernel
theorem dX12_house_7 : decode cX12_house 7 = .ok (.iload_n 1, 1) := by decide +kernel
theorem dX12_house_8 : decode cX12_house 8 = .ok (.imul, 1) := by decide +kernel
theorem dX12_house_9 : decode cX12_house 9 = .ok (.iadd, 1) := by decide +kernel
theorem dX12_house_10 : decode cX12_house 10 = .ok (.iaload, 1) := by decide +kernel
theorem dX12_house_11 : decode cX12_house 11 = .ok (.ireturn, 1) := by decide +kernel
theorem dX12_town_0 : decode cX12_town 0 = .ok (.aload_n 0, 1) := by decide +kernel
theorem dX12_town_1 : decode cX12_town 1 = .ok (.getfield 7, 3) := by decide +kernel
theorem dX12_town_4 : decode cX12_town 4 = .ok (.bipush 20, 2) := by decide +kernel
theorem dX12_town_6 : decode cX12_town 6 = .ok (.iconst 2, 1) := by decide +kernel
theorem dX12_town_7 : decode cX12_town 7 = .ok (.iload_n 1, 1) := by decide +kernel
theorem dX12_town_8 : decode cX12_town 8 = .ok (.imul, 1) := by decide +kernel
theorem dX12_town_9 : decode cX12_town 9 = .ok (.iadd, 1) := by decide +kernel
theorem dX12_town_10 : decode cX12_town 10 = .ok (.iconst 1, 1) := by decide +kernel
theorem dX12_town_11 : decode cX12_town 11 = .ok (.iadd, 1) := by decide +kernel
theorem dX12_town_12 : decode cX12_town 12 = .ok (.iaload, 1) := by decide +kernel
theorem dX12_town_13 : decode cX12_town 13 = .ok (.ireturn, 1) := by decide +kernel
theorem dX12_kin_0 : decode cX12_kin 0 = .ok (.aload_n 0, 1) := by decide +kernel
theorem dX12_kin_1 : decode cX12_kin 1 = .ok (.iload_n 1, 1) := by decide +kernel
theorem dX12_kin_2 : decode cX12_kin 2 = .ok (.invokevirtual 85, 3) := by decide +kernel
theorem dX12_kin_5 : decode cX12_kin 5 = .ok (.aload_n 0, 1) := by decide +kernel
theorem dX12_kin_6 : decode cX12_kin 6 = .ok (.iload_n 2, 1) := by decide +kernel
theorem dX12_kin_7 : decode cX12_kin 7 = .ok (.invokevirtual 85, 3) := by decide +kernel
theorem dX12_kin_10 : decode cX12_kin 10 = .ok (.if_icmp .ne 7, 3) := by decide +kernel
theorem dX12_kin_13 : decode cX12_kin 13 = .ok (.iconst 1, 1) := by decide +kernel
theorem dX12_kin_14 : decode cX12_kin 14 = .ok (.goto 4, 3) := by decide +kernel
theorem dX12_kin_17 : decode cX12_kin 17 = .ok (.iconst 0, 1) := by decide +kernel
theorem dX12_kin_18 : decode cX12_kin 18 = .ok (.ireturn, 1) := by decide +kernel
theorem dX12_merchant_0 : decode cX12_merchant 0 = .ok (.iload_n 1, 1) := by decide +kernel
theorem dX12_merchant_1 : decode cX12_merchant 1 = .ok (.i2l, 1) := by decide +kernel
theorem dX12_merchant_2 : decode cX12_merchant 2 = .ok (.lconst 0, 1) := by decide +kernel
theorem dX12_merchant_3 : decode cX12_merchant 3 = .ok (.ldc2_w 89, 3) := by decide +kernel
theorem dX12_merchant_6 : decode cX12_merchant 6 = .ok (.invokestatic 79, 3) := by decide +kernel
theorem dX12_merchant_9 : decode cX12_merchant 9 = .ok (.ifCond .eq 13, 3) := by decide +kernel
theorem dX12_merchant_12 : decode cX12_merchant 12 = .ok (.iload_n 2, 1) := by decide +kernel
theorem dX12_merchant_13 : decode cX12_merchant 13 = .ok (.i2l, 1) := by decide +kernel
theorem dX12_merchant_14 : decode cX12_merchant 14 = .ok (.lconst 0, 1) := by decide +kernel
theorem dX12_merchant_15 : decode cX12_merchant 15 = .ok (.lconst 1, 1) := by decide +kernel
theorem dX12_merchant_16 : decode cX12_merchant 16 = .ok (.invokestatic 79, 3) := by decide +kernel
theorem dX12_merchant_19 : decode cX12_merchant 19 = .ok (.ifCond .ne 6, 3) := by decide +kernel
theorem dX12_merchant_22 : decode cX12_merchant 22 = .ok (.bipush (-2), 2) := by decide +kernel
theorem dX12_merchant_24 : decode cX12_merchant 24 = .ok (.ireturn, 1) := by decide +kernel
theorem dX12_merchant_25 : decode cX12_merchant 25 = .ok (.aload_n 0, 1) := by decide +kernel
theorem dX12_merchant_26 : decode cX12_merchant 26 = .ok (.getfield 7, 3) := by decide +kernel
theorem dX12_merchant_29 : decode cX12_merchant 29 = .ok (.iconst 0, 1) := by decide +kernel
theorem dX12_merchant_30 : decode cX12_merchant 30 = .ok (.iaload, 1) := by decide +kernel
theorem dX12_merchant_31 : decode cX12_merchant 31 = .ok (.bipush 10, 2) := by decide +kernel
theorem dX12_merchant_33 : decode cX12_merchant 33 = .ok (.if_icmp .ne 6, 3) := by decide +kernel
theorem dX12_merchant_36 : decode cX12_merchant 36 = .ok (.bipush (-4), 2) := by decide +kernel
theorem dX12_merchant_38 : decode cX12_merchant 38 = .ok (.ireturn, 1) := by decide +kernel
theorem dX12_merchant_39 : decode cX12_merchant 39 = .ok (.aload_n 0, 1) := by decide +kernel
theorem dX12_merchant_40 : decode cX12_merchant 40 = .ok (.getfield 7, 3) := by decide +kernel
theorem dX12_merchant_43 : decode cX12_merchant 43 = .ok (.bipush 20, 2) := by decide +kernel
theorem dX12_merchant_45 : decode cX12_merchant 45 = .ok (.iconst 2, 1) := by decide +kernel
theorem dX12_merchant_46 : decode cX12_merchant 46 = .ok (.aload_n 0, 1) := by decide +kernel
theorem dX12_merchant_47 : decode cX12_merchant 47 = .ok (.getfield 7, 3) := by decide +kernel
theorem dX12_merchant_50 : decode cX12_merchant 50 = .ok (.iconst 0, 1) := by decide +kernel
theorem dX12_merchant_51 : decode cX12_merchant 51 = .ok (.iaload, 1) := by decide +kernel
theorem dX12_merchant_52 : decode cX12_merchant 52 = .ok (.imul, 1) := by decide +kernel
theorem dX12_merchant_53 : decode cX12_merchant 53 = .ok (.iadd, 1) := by decide +kernel
theorem dX12_merchant_54 : decode cX12_merchant 54 = .ok (.iload_n 1, 1) := by decide +kernel
theorem dX12_merchant_55 : decode cX12_merchant 55 = .ok (.iastore, 1) := by decide +kernel
theorem dX12_merchant_56 : decode cX12_merchant 56 = .ok (.aload_n 0, 1) := by decide +kernel
theorem dX12_merchant_57 : decode cX12_merchant 57 = .ok (.getfield 7, 3) := by decide +kernel
theorem dX12_merchant_60 : decode cX12_merchant 60 = .ok (.bipush 20, 2) := by decide +kernel
theorem dX12_merchant_62 : decode cX12_merchant 62 = .ok (.iconst 2, 1) := by decide +kernel
theorem dX12_merchant_63 : decode cX12_merchant 63 = .ok (.aload_n 0, 1) := by decide +kernel
theorem dX12_merchant_64 : decode cX12_merchant 64 = .ok (.getfield 7, 3) := by decide +kernel
theorem dX12_merchant_67 : decode cX12_merchant 67 = .ok (.iconst 0, 1) := by decide +kernel
theorem dX12_merchant_68 : decode cX12_merchant 68 = .ok (.iaload, 1) := by decide +kernel
theorem dX12_merchant_69 : decode cX12_merchant 69 = .ok (.imul, 1) := by decide +kernel
theorem dX12_merchant_70 : decode cX12_merchant 70 = .ok (.iadd, 1) := by decide +kernel
theorem dX12_merchant_71 : decode cX12_merchant 71 = .ok (.iconst 1, 1) := by decide +kernel
theorem dX12_merchant_72 : decode cX12_merchant 72 = .ok (.iadd, 1) := by decide +kernel
theorem dX12_merchant_73 : decode cX12_merchant 73 = .ok (.iload_n 2, 1) := by decide +kernel
theorem dX12_merchant_74 : decode cX12_merchant 74 = .ok (.iastore, 1) := by decide +kernel
theorem dX12_merchant_75 : decode cX12_merchant 75 = .ok (.aload_n 0, 1) := by decide +kernel
theorem dX12_merchant_76 : decode cX12_merchant 76 = .ok (.iconst 0, 1) := by decide +kernel
theorem dX12_merchant_77 : decode cX12_merchant 77 = .ok (.invokevirtual 91, 3) := by decide +kernel
theorem dX12_merchant_80 : decode cX12_merchant 80 = .ok (.ireturn, 1) := by decide +kernel
theorem dX12_emits_0 : decode cX12_emits 0 = .ok (.aload_n 0, 1) := by decide +kernel
theorem dX12_emits_1 : decode cX12_emits 1 = .ok (.getfield 20, 3) := by decide +kernel
theorem dX12_emits_4 : decode cX12_emits 4 = .ok (.aload_n 0, 1) := by decide +kernel
theorem dX12_emits_5 : decode cX12_emits 5 = .ok (.getfield 94, 3) := by decide +kernel
theorem dX12_emits_8 : decode cX12_emits 8 = .ok (.iload_n 1, 1) := by decide +kernel
theorem dX12_emits_9 : decode cX12_emits 9 = .ok (.iastore, 1) := by decide +kernel
theorem dX12_emits_10 : decode cX12_emits 10 = .ok (.aload_n 0, 1) := by decide +kernel
theorem dX12_emits_11 : decode cX12_emits 11 = .ok (.getfield 23, 3) := by decide +kernel
theorem dX12_emits_14 : decode cX12_emits 14 = .ok (.aload_n 0, 1) := by decide +kernel
theorem dX12_emits_15 : decode cX12_emits 15 = .ok (.getfield 94, 3) := by decide +kernel
theorem dX12_emits_18 : decode cX12_emits 18 = .ok (.iload_n 2, 1) := by decide +kernel
theorem dX12_emits_19 : decode cX12_emits 19 = .ok (.iastore, 1) := by decide +kernel
theorem dX12_emits_20 : decode cX12_emits 20 = .ok (.aload_n 0, 1) := by decide +kernel
theorem dX12_emits_21 : decode cX12_emits 21 = .ok (.dup, 1) := by decide +kernel
theorem dX12_emits_22 : decode cX12_emits 22 = .ok (.getfield 94, 3) := by decide +kernel
theorem dX12_emits_25 : decode cX12_emits 25 = .ok (.iconst 1, 1) := by decide +kernel
theorem dX12_emits_26 : decode cX12_emits 26 = .ok (.iadd, 1) := by decide +kernel
theorem dX12_emits_27 : decode cX12_emits 27 = .ok (.putfield 94, 3) := by decide +kernel
theorem dX12_emits_30 : decode cX12_emits 30 = .ok (.return_, 1) := by decide +kernel
theorem dX12_holds_0 : decode cX12_holds 0 = .ok (.iload_n 0, 1) := by decide +kernel
theorem dX12_holds_1 : decode cX12_holds 1 = .ok (.tableswitch 83 2 12 #[59, 62, 65, 67, 69, 71, 73, 75, 77, 79, 81], 59) := by decide +kernel
theorem dX12_holds_60 : decode cX12_holds 60 = .ok (.bipush 6, 2) := by decide +kernel
theorem dX12_holds_62 : decode cX12_holds 62 = .ok (.ireturn, 1) := by decide +kernel
theorem dX12_holds_63 : decode cX12_holds 63 = .ok (.bipush 6, 2) := by decide +kernel
theorem dX12_holds_65 : decode cX12_holds 65 = .ok (.ireturn, 1) := by decide +kernel
theorem dX12_holds_66 : decode cX12_holds 66 = .ok (.iconst 5, 1) := by decide +kernel
theorem dX12_holds_67 : decode cX12_holds 67 = .ok (.ireturn, 1) := by decide +kernel
theorem dX12_holds_68 : decode cX12_holds 68 = .ok (.iconst 5, 1) := by decide +kernel
theorem dX12_holds_69 : decode cX12_holds 69 = .ok (.ireturn, 1) := by decide +kernel
theorem dX12_holds_70 : decode cX12_holds 70 = .ok (.iconst 4, 1) := by decide +kernel
theorem dX12_holds_71 : decode cX12_holds 71 = .ok (.ireturn, 1) := by decide +kernel
theorem dX12_holds_72 : decode cX12_holds 72 = .ok (.iconst 4, 1) := by decide +kernel
theorem dX12_holds_73 : decode cX12_holds 73 = .ok (.ireturn, 1) := by decide +kernel
theorem dX12_holds_74 : decode cX12_holds 74 = .ok (.iconst 3, 1) := by decide +kernel
theorem dX12_holds_75 : decode cX12_holds 75 = .ok (.ireturn, 1) := by decide +kernel
theorem dX12_holds_76 : decode cX12_holds 76 = .ok (.iconst 3, 1) := by decide +kernel
theorem dX12_holds_77 : decode cX12_holds 77 = .ok (.ireturn, 1) := by decide +kernel
theorem dX12_holds_78 : decode cX12_holds 78 = .ok (.iconst 3, 1) := by decide +kernel
theorem dX12_holds_79 : decode cX12_holds 79 = .ok (.ireturn, 1) := by decide +kernel
theorem dX12_holds_80 : decode cX12_holds 80 = .ok (.iconst 2, 1) := by decide +kernel
theorem dX12_holds_81 : decode cX12_holds 81 = .ok (.ireturn, 1) := by decide +kernel
theorem dX12_holds_82 : decode cX12_holds 82 = .ok (.iconst 1, 1) := by decide +kernel
theorem dX12_holds_83 : decode cX12_holds 83 = .ok (.ireturn, 1) := by decide +kernel
theorem dX12_holds_84 : decode cX12_holds 84 = .ok (.iconst 0, 1) := by decide +kernel
theorem dX12_holds_85 : decode cX12_holds 85 = .ok (.ireturn, 1) := by decide +kernel
theorem dX12_settles_0 : decode cX12_settles 0 = .ok (.aload_n 0, 1) := by decide +kernel
theorem dX12_settles_1 : decode cX12_settles 1 = .ok (.getfield 98, 3) := by decide +kernel
theorem dX12_settles_4 : decode cX12_settles 4 = .ok (.ifCond .le 48, 3) := by decide +kernel
theorem dX12_settles_7 : decode cX12_settles 7 = .ok (.aload_n 0, 1) := by decide +kernel
theorem dX12_settles_8 : decode cX12_settles 8 = .ok (.getfield 26, 3) := by decide +kernel
theorem dX12_settles_11 : decode cX12_settles 11 = .ok (.aload_n 0, 1) := by decide +kernel
theorem dX12_settles_12 : decode cX12_settles 12 = .ok (.getfield 98, 3) := by decide +kernel
theorem dX12_settles_15 : decode cX12_settles 15 = .ok (.iconst 1, 1) := by decide +kernel
theorem dX12_settles_16 : decode cX12_settles 16 = .ok (.isub, 1) := by decide +kernel
theorem dX12_settles_17 : decode cX12_settles 17 = .ok (.iaload, 1) := by decide +kernel
theorem dX12_settles_18 : decode cX12_settles 18 = .ok (.invokestatic 101, 3) := by decide +kernel
theorem dX12_settles_21 : decode cX12_settles 21 = .ok (.iload_n 1, 1) := by decide +kernel
theorem dX12_settles_22 : decode cX12_settles 22 = .ok (.if_icmp .lt 30, 3) := by decide +kernel
theorem dX12_settles_25 : decode cX12_settles 25 = .ok (.aload_n 0, 1) := by decide +kernel
theorem dX12_settles_26 : decode cX12_settles 26 = .ok (.dup, 1) := by decide +kernel
theorem dX12_settles_27 : decode cX12_settles 27 = .ok (.getfield 98, 3) := by decide +kernel
theorem dX12_settles_30 : decode cX12_settles 30 = .ok (.iconst 1, 1) := by decide +kernel
theorem dX12_settles_31 : decode cX12_settles 31 = .ok (.isub, 1) := by decide +kernel
theorem dX12_settles_32 : decode cX12_settles 32 = .ok (.putfield 98, 3) := by decide +kernel
theorem dX12_settles_35 : decode cX12_settles 35 = .ok (.aload_n 0, 1) := by decide +kernel
theorem dX12_settles_36 : decode cX12_settles 36 = .ok (.aload_n 0, 1) := by decide +kernel
theorem dX12_settles_37 : decode cX12_settles 37 = .ok (.getfield 26, 3) := by decide +kernel
theorem dX12_settles_40 : decode cX12_settles 40 = .ok (.aload_n 0, 1) := by decide +kernel
theorem dX12_settles_41 : decode cX12_settles 41 = .ok (.getfield 98, 3) := by decide +kernel
theorem dX12_settles_44 : decode cX12_settles 44 = .ok (.iaload, 1) := by decide +kernel
theorem dX12_settles_45 : decode cX12_settles 45 = .ok (.iconst 0, 1) := by decide +kernel
theorem dX12_settles_46 : decode cX12_settles 46 = .ok (.invokevirtual 104, 3) := by decide +kernel
theorem dX12_settles_49 : decode cX12_settles 49 = .ok (.goto (-49), 3) := by decide +kernel
theorem dX12_settles_52 : decode cX12_settles 52 = .ok (.return_, 1) := by decide +kernel
theorem dX12_waitsWith_0 : decode cX12_waitsWith 0 = .ok (.aload_n 0, 1) := by decide +kernel
theorem dX12_waitsWith_1 : decode cX12_waitsWith 1 = .ok (.getfield 26, 3) := by decide +kernel
theorem dX12_waitsWith_4 : decode cX12_waitsWith 4 = .ok (.aload_n 0, 1) := by decide +kernel
theorem dX12_waitsWith_5 : decode cX12_waitsWith 5 = .ok (.getfield 98, 3) := by decide +kernel
theorem dX12_waitsWith_8 : decode cX12_waitsWith 8 = .ok (.iload_n 1, 1) := by decide +kernel
theorem dX12_waitsWith_9 : decode cX12_waitsWith 9 = .ok (.iastore, 1) := by decide +kernel
theorem dX12_waitsWith_10 : decode cX12_waitsWith 10 = .ok (.aload_n 0, 1) := by decide +kernel
theorem dX12_waitsWith_11 : decode cX12_waitsWith 11 = .ok (.dup, 1) := by decide +kernel
theorem dX12_waitsWith_12 : decode cX12_waitsWith 12 = .ok (.getfield 98, 3) := by decide +kernel
theorem dX12_waitsWith_15 : decode cX12_waitsWith 15 = .ok (.iconst 1, 1) := by decide +kernel
theorem dX12_waitsWith_16 : decode cX12_waitsWith 16 = .ok (.iadd, 1) := by decide +kernel
theorem dX12_waitsWith_17 : decode cX12_waitsWith 17 = .ok (.putfield 98, 3) := by decide +kernel
theorem dX12_waitsWith_20 : decode cX12_waitsWith 20 = .ok (.return_, 1) := by decide +kernel
theorem dX12_nameOf_0 : decode cX12_nameOf 0 = .ok (.iload_n 0, 1) := by decide +kernel
theorem dX12_nameOf_1 : decode cX12_nameOf 1 = .ok (.lookupswitch 61 #[(103, 51), (107, 53), (115, 57), (116, 55), (119, 59)], 51) := by decide +kernel
theorem dX12_nameOf_52 : decode cX12_nameOf 52 = .ok (.iconst 0, 1) := by decide +kernel
theorem dX12_nameOf_53 : decode cX12_nameOf 53 = .ok (.ireturn, 1) := by decide +kernel
theorem dX12_nameOf_54 : decode cX12_nameOf 54 = .ok (.iconst 1, 1) := by decide +kernel
theorem dX12_nameOf_55 : decode cX12_nameOf 55 = .ok (.ireturn, 1) := by decide +kernel
theorem dX12_nameOf_56 : decode cX12_nameOf 56 = .ok (.iconst 2, 1) := by decide +kernel
theorem dX12_nameOf_57 : decode cX12_nameOf 57 = .ok (.ireturn, 1) := by decide +kernel
theorem dX12_nameOf_58 : decode cX12_nameOf 58 = .ok (.iconst 3, 1) := by decide +kernel
theorem dX12_nameOf_59 : decode cX12_nameOf 59 = .ok (.ireturn, 1) := by decide +kernel
theorem dX12_nameOf_60 : decode cX12_nameOf 60 = .ok (.iconst 4, 1) := by decide +kernel
theorem dX12_nameOf_61 : decode cX12_nameOf 61 = .ok (.ireturn, 1) := by decide +kernel
theorem dX12_nameOf_62 : decode cX12_nameOf 62 = .ok (.iconst (-1), 1) := by decide +kernel
theorem dX12_nameOf_63 : decode cX12_nameOf 63 = .ok (.ireturn, 1) := by decide +kernel
theorem dX12_signOf_0 : decode cX12_signOf 0 = .ok (.iload_n 0, 1) := by decide +kernel
theorem dX12_signOf_1 : decode cX12_signOf 1 = .ok (.lookupswitch 108 #[(38, 102), (42, 83), (43, 87), (45, 90), (47, 85), (60, 93), (61, 99), (62, 96), (124, 105)], 83) := by decide +kernel
theorem dX12_signOf_84 : decode cX12_signOf 84 = .ok (.iconst 4, 1) := by decide +kernel
theorem dX12_signOf_85 : decode cX12_signOf 85 = .ok (.ireturn, 1) := by decide +kernel
theorem dX12_signOf_86 : decode cX12_signOf 86 = .ok (.iconst 5, 1) := by decide +kernel
theorem dX12_signOf_87 : decode cX12_signOf 87 = .ok (.ireturn, 1) := by decide +kernel
theorem dX12_signOf_88 : decode cX12_signOf 88 = .ok (.bipush 6, 2) := by decide +kernel
theorem dX12_signOf_90 : decode cX12_signOf 90 = .ok (.ireturn, 1) := by decide +kernel
theorem dX12_signOf_91 : decode cX12_signOf 91 = .ok (.bipush 7, 2) := by decide +kernel
theorem dX12_signOf_93 : decode cX12_signOf 93 = .ok (.ireturn, 1) := by decide +kernel
theorem dX12_signOf_94 : decode cX12_signOf 94 = .ok (.bipush 8, 2) := by decide +kernel
theorem dX12_signOf_96 : decode cX12_signOf 96 = .ok (.ireturn, 1) := by decide +kernel
theorem dX12_signOf_97 : decode cX12_signOf 97 = .ok (.bipush 9, 2) := by decide +kernel
theorem dX12_signOf_99 : decode cX12_signOf 99 = .ok (.ireturn, 1) := by decide +kernel
theorem dX12_signOf_100 : decode cX12_signOf 100 = .ok (.bipush 10, 2) := by decide +kernel
theorem dX12_signOf_102 : decode cX12_signOf 102 = .ok (.ireturn, 1) := by decide +kernel
theorem dX12_signOf_103 : decode cX12_signOf 103 = .ok (.bipush 11, 2) := by decide +kernel
theorem dX12_signOf_105 : decode cX12_signOf 105 = .ok (.ireturn, 1) := by decide +kernel
theorem dX12_signOf_106 : decode cX12_signOf 106 = .ok (.bipush 12, 2) := by decide +kernel
theorem dX12_signOf_108 : decode cX12_signOf 108 = .ok (.ireturn, 1) := by decide +kernel
theorem dX12_signOf_109 : decode cX12_signOf 109 = .ok (.iconst (-1), 1) := by decide +kernel
theorem dX12_signOf_110 : decode cX12_signOf 110 = .ok (.ireturn, 1) := by decide +kernel
theorem dX12_closes_0 : decode cX12_closes 0 = .ok (.aload_n 0, 1) := by decide +kernel
theorem dX12_closes_1 : decode cX12_closes 1 = .ok (.iconst 1, 1) := by decide +kernel
theorem dX12_closes_2 : decode cX12_closes 2 = .ok (.invokevirtual 108, 3) := by decide +kernel
theorem dX12_closes_5 : decode cX12_closes 5 = .ok (.aload_n 0, 1) := by decide +kernel
theorem dX12_closes_6 : decode cX12_closes 6 = .ok (.getfield 98, 3) := by decide +kernel
theorem dX12_closes_9 : decode cX12_closes 9 = .ok (.ifCond .le 39, 3) := by decide +kernel
theorem dX12_closes_12 : decode cX12_closes 12 = .ok (.aload_n 0, 1) := by decide +kernel
theorem dX12_closes_13 : decode cX12_closes 13 = .ok (.getfield 26, 3) := by decide +kernel
theorem dX12_closes_16 : decode cX12_closes 16 = .ok (.aload_n 0, 1) := by decide +kernel
theorem dX12_closes_17 : decode cX12_closes 17 = .ok (.getfield 98, 3) := by decide +kernel
theorem dX12_closes_20 : decode cX12_closes 20 = .ok (.iconst 1, 1) := by decide +kernel
theorem dX12_closes_21 : decode cX12_closes 21 = .ok (.isub, 1) := by decide +kernel
theorem dX12_closes_22 : decode cX12_closes 22 = .ok (.iaload, 1) := by decide +kernel
theorem dX12_closes_23 : decode cX12_closes 23 = .ok (.bipush 15, 2) := by decide +kernel
theorem dX12_closes_25 : decode cX12_closes 25 = .ok (.if_icmp .ne 23, 3) := by decide +kernel
theorem dX12_closes_28 : decode cX12_closes 28 = .ok (.aload_n 0, 1) := by decide +kernel
theorem dX12_closes_29 : decode cX12_closes 29 = .ok (.dup, 1) := by decide +kernel
theorem dX12_closes_30 : decode cX12_closes 30 = .ok (.getfield 98, 3) := by decide +kernel
theorem dX12_closes_33 : decode cX12_closes 33 = .ok (.iconst 1, 1) := by decide +kernel
theorem dX12_closes_34 : decode cX12_closes 34 = .ok (.isub, 1) := by decide +kernel
theorem dX12_closes_35 : decode cX12_closes 35 = .ok (.putfield 98, 3) := by decide +kernel
theorem dX12_closes_38 : decode cX12_closes 38 = .ok (.aload_n 0, 1) := by decide +kernel
theorem dX12_closes_39 : decode cX12_closes 39 = .ok (.bipush 15, 2) := by decide +kernel
theorem dX12_closes_41 : decode cX12_closes 41 = .ok (.iconst 0, 1) := by decide +kernel
theorem dX12_closes_42 : decode cX12_closes 42 = .ok (.invokevirtual 104, 3) := by decide +kernel
theorem dX12_closes_45 : decode cX12_closes 45 = .ok (.goto (-40), 3) := by decide +kernel
theorem dX12_closes_48 : decode cX12_closes 48 = .ok (.aload_n 0, 1) := by decide +kernel
theorem dX12_closes_49 : decode cX12_closes 49 = .ok (.getfield 98, 3) := by decide +kernel
theorem dX12_closes_52 : decode cX12_closes 52 = .ok (.ifCond .ne 7, 3) := by decide +kernel
theorem dX12_closes_55 : decode cX12_closes 55 = .ok (.iconst (-1), 1) := by decide +kernel
theorem dX12_closes_56 : decode cX12_closes 56 = .ok (.goto 14, 3) := by decide +kernel
theorem dX12_closes_59 : decode cX12_closes 59 = .ok (.aload_n 0, 1) := by decide +kernel
theorem dX12_closes_60 : decode cX12_closes 60 = .ok (.getfield 26, 3) := by decide +kernel
theorem dX12_closes_63 : decode cX12_closes 63 = .ok (.aload_n 0, 1) := by decide +kernel
theorem dX12_closes_64 : decode cX12_closes 64 = .ok (.getfield 98, 3) := by decide +kernel
theorem dX12_closes_67 : decode cX12_closes 67 = .ok (.iconst 1, 1) := by decide +kernel
theorem dX12_closes_68 : decode cX12_closes 68 = .ok (.isub, 1) := by decide +kernel
theorem dX12_closes_69 : decode cX12_closes 69 = .ok (.iaload, 1) := by decide +kernel
theorem dX12_closes_70 : decode cX12_closes 70 = .ok (.ireturn, 1) := by decide +kernel
theorem dX12_goesOn_0 : decode cX12_goesOn 0 = .ok (.iload_n 1, 1) := by decide +kernel
theorem dX12_goesOn_1 : decode cX12_goesOn 1 = .ok (.invokestatic 101, 3) := by decide +kernel
theorem dX12_goesOn_4 : decode cX12_goesOn 4 = .ok (.istore_n 2, 1) := by decide +kernel
theorem dX12_goesOn_5 : decode cX12_goesOn 5 = .ok (.iload_n 2, 1) := by decide +kernel
theorem dX12_goesOn_6 : decode cX12_goesOn 6 = .ok (.iconst 3, 1) := by decide +kernel
theorem dX12_goesOn_7 : decode cX12_goesOn 7 = .ok (.if_icmp .ne 35, 3) := by decide +kernel
theorem dX12_goesOn_10 : decode cX12_goesOn 10 = .ok (.aload_n 0, 1) := by decide +kernel
theorem dX12_goesOn_11 : decode cX12_goesOn 11 = .ok (.iconst 4, 1) := by decide +kernel
theorem dX12_goesOn_12 : decode cX12_goesOn 12 = .ok (.invokevirtual 108, 3) := by decide +kernel
theorem dX12_goesOn_15 : decode cX12_goesOn 15 = .ok (.aload_n 0, 1) := by decide +kernel
theorem dX12_goesOn_16 : decode cX12_goesOn 16 = .ok (.getfield 98, 3) := by decide +kernel
theorem dX12_goesOn_19 : decode cX12_goesOn 19 = .ok (.ifCond .le 23, 3) := by decide +kernel
theorem dX12_goesOn_22 : decode cX12_goesOn 22 = .ok (.aload_n 0, 1) := by decide +kernel
theorem dX12_goesOn_23 : decode cX12_goesOn 23 = .ok (.getfield 26, 3) := by decide +kernel
theorem dX12_goesOn_26 : decode cX12_goesOn 26 = .ok (.aload_n 0, 1) := by decide +kernel
theorem dX12_goesOn_27 : decode cX12_goesOn 27 = .ok (.getfield 98, 3) := by decide +kernel
theorem dX12_goesOn_30 : decode cX12_goesOn 30 = .ok (.iconst 1, 1) := by decide +kernel
theorem dX12_goesOn_31 : decode cX12_goesOn 31 = .ok (.isub, 1) := by decide +kernel
theorem dX12_goesOn_32 : decode cX12_goesOn 32 = .ok (.iaload, 1) := by decide +kernel
theorem dX12_goesOn_33 : decode cX12_goesOn 33 = .ok (.invokestatic 101, 3) := by decide +kernel
theorem dX12_goesOn_36 : decode cX12_goesOn 36 = .ok (.iconst 3, 1) := by decide +kernel
theorem dX12_goesOn_37 : decode cX12_goesOn 37 = .ok (.if_icmp .ne 5, 3) := by decide +kernel
theorem dX12_goesOn_40 : decode cX12_goesOn 40 = .ok (.iconst 0, 1) := by decide +kernel
theorem dX12_goesOn_41 : decode cX12_goesOn 41 = .ok (.ireturn, 1) := by decide +kernel
theorem dX12_goesOn_42 : decode cX12_goesOn 42 = .ok (.aload_n 0, 1) := by decide +kernel
theorem dX12_goesOn_43 : decode cX12_goesOn 43 = .ok (.iload_n 2, 1) := by decide +kernel
theorem dX12_goesOn_44 : decode cX12_goesOn 44 = .ok (.invokevirtual 108, 3) := by decide +kernel
theorem dX12_goesOn_47 : decode cX12_goesOn 47 = .ok (.aload_n 0, 1) := by decide +kernel
theorem dX12_goesOn_48 : decode cX12_goesOn 48 = .ok (.iload_n 1, 1) := by decide +kernel
theorem dX12_goesOn_49 : decode cX12_goesOn 49 = .ok (.invokevirtual 112, 3) := by decide +kernel
theorem dX12_goesOn_52 : decode cX12_goesOn 52 = .ok (.iconst 1, 1) := by decide +kernel
theorem dX12_goesOn_53 : decode cX12_goesOn 53 = .ok (.ireturn, 1) := by decide +kernel
theorem dX12_reads_0 : decode cX12_reads 0 = .ok (.aload_n 0, 1) := by decide +kernel
theorem dX12_reads_1 : decode cX12_reads 1 = .ok (.getfield 7, 3) := by decide +kernel
theorem dX12_reads_4 : decode cX12_reads 4 = .ok (.iload_n 1, 1) := by decide +kernel
theorem dX12_reads_5 : decode cX12_reads 5 = .ok (.iaload, 1) := by decide +kernel
theorem dX12_reads_6 : decode cX12_reads 6 = .ok (.istore_n 2, 1) := by decide +kernel
theorem dX12_reads_7 : decode cX12_reads 7 = .ok (.aload_n 0, 1) := by decide +kernel
theorem dX12_reads_8 : decode cX12_reads 8 = .ok (.iconst 0, 1) := by decide +kernel
theorem dX12_reads_9 : decode cX12_reads 9 = .ok (.putfield 94, 3) := by decide +kernel
theorem dX12_reads_12 : decode cX12_reads 12 = .ok (.aload_n 0, 1) := by decide +kernel
theorem dX12_reads_13 : decode cX12_reads 13 = .ok (.iconst 0, 1) := by decide +kernel
theorem dX12_reads_14 : decode cX12_reads 14 = .ok (.putfield 98, 3) := by decide +kernel
theorem dX12_reads_17 : decode cX12_reads 17 = .ok (.iconst 0, 1) := by decide +kernel
theorem dX12_reads_18 : decode cX12_reads 18 = .ok (.istore_n 3, 1) := by decide +kernel
theorem dX12_reads_19 : decode cX12_reads 19 = .ok (.iconst 0, 1) := by decide +kernel
theorem dX12_reads_20 : decode cX12_reads 20 = .ok (.istore 4, 2) := by decide +kernel
theorem dX12_reads_22 : decode cX12_reads 22 = .ok (.iconst 0, 1) := by decide +kernel
theorem dX12_reads_23 : decode cX12_reads 23 = .ok (.istore 5, 2) := by decide +kernel
theorem dX12_reads_25 : decode cX12_reads 25 = .ok (.iload 5, 2) := by decide +kernel
theorem dX12_reads_27 : decode cX12_reads 27 = .ok (.iload_n 2, 1) := by decide +kernel
theorem dX12_reads_28 : decode cX12_reads 28 = .ok (.if_icmp .ge 410, 3) := by decide +kernel
theorem dX12_reads_31 : decode cX12_reads 31 = .ok (.aload_n 0, 1) := by decide +kernel
theorem dX12_reads_32 : decode cX12_reads 32 = .ok (.getfield 7, 3) := by decide +kernel
theorem dX12_reads_35 : decode cX12_reads 35 = .ok (.iload_n 1, 1) := by decide +kernel
theorem dX12_reads_36 : decode cX12_reads 36 = .ok (.iconst 1, 1) := by decide +kernel
theorem dX12_reads_37 : decode cX12_reads 37 = .ok (.iadd, 1) := by decide +kernel
theorem dX12_reads_38 : decode cX12_reads 38 = .ok (.iload 5, 2) := by decide +kernel
theorem dX12_reads_40 : decode cX12_reads 40 = .ok (.iadd, 1) := by decide +kernel
theorem dX12_reads_41 : decode cX12_reads 41 = .ok (.iaload, 1) := by decide +kernel
theorem dX12_reads_42 : decode cX12_reads 42 = .ok (.istore 6, 2) := by decide +kernel
theorem dX12_reads_44 : decode cX12_reads 44 = .ok (.iload 6, 2) := by decide +kernel
theorem dX12_reads_46 : decode cX12_reads 46 = .ok (.bipush 32, 2) := by decide +kernel
theorem dX12_reads_48 : decode cX12_reads 48 = .ok (.if_icmp .ne 9, 3) := by decide +kernel
theorem dX12_reads_51 : decode cX12_reads 51 = .ok (.iinc 5 1, 3) := by decide +kernel
theorem dX12_reads_54 : decode cX12_reads 54 = .ok (.goto 381, 3) := by decide +kernel
theorem dX12_reads_57 : decode cX12_reads 57 = .ok (.iload 4, 2) := by decide +kernel
theorem dX12_reads_59 : decode cX12_reads 59 = .ok (.ifCond .eq 145, 3) := by decide +kernel
theorem dX12_reads_62 : decode cX12_reads 62 = .ok (.iload 6, 2) := by decide +kernel
theorem dX12_reads_64 : decode cX12_reads 64 = .ok (.bipush 41, 2) := by decide +kernel
theorem dX12_reads_66 : decode cX12_reads 66 = .ok (.if_icmp .ne 38, 3) := by decide +kernel
theorem dX12_reads_69 : decode cX12_reads 69 = .ok (.iload_n 3, 1) := by decide +kernel
theorem dX12_reads_70 : decode cX12_reads 70 = .ok (.ifCond .le 34, 3) := by decide +kernel
theorem dX12_reads_73 : decode cX12_reads 73 = .ok (.aload_n 0, 1) := by decide +kernel
theorem dX12_reads_74 : decode cX12_reads 74 = .ok (.invokevirtual 115, 3) := by decide +kernel
theorem dX12_reads_77 : decode cX12_reads 77 = .ok (.bipush 13, 2) := by decide +kernel
theorem dX12_reads_79 : decode cX12_reads 79 = .ok (.if_icmp .ne 25, 3) := by decide +kernel
theorem dX12_reads_82 : decode cX12_reads 82 = .ok (.aload_n 0, 1) := by decide +kernel
