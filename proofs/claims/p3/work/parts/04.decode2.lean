theorem dX2_chooseSides_1 : decode cX2_chooseSides 1 = .ok (.istore_n 3, 1) := by decide +kernel
theorem dX2_chooseSides_2 : decode cX2_chooseSides 2 = .ok (.iload_n 3, 1) := by decide +kernel
theorem dX2_chooseSides_3 : decode cX2_chooseSides 3 = .ok (.bipush 16, 2) := by decide +kernel
theorem dX2_chooseSides_5 : decode cX2_chooseSides 5 = .ok (.if_icmp .ge 74, 3) := by decide +kernel
theorem dX2_chooseSides_8 : decode cX2_chooseSides 8 = .ok (.aload_n 0, 1) := by decide +kernel
theorem dX2_chooseSides_9 : decode cX2_chooseSides 9 = .ok (.getfield 31, 3) := by decide +kernel
theorem dX2_chooseSides_12 : decode cX2_chooseSides 12 = .ok (.iload_n 2, 1) := by decide +kernel
theorem dX2_chooseSides_13 : decode cX2_chooseSides 13 = .ok (.aaload, 1) := by decide +kernel
theorem dX2_chooseSides_14 : decode cX2_chooseSides 14 = .ok (.iload_n 3, 1) := by decide +kernel
theorem dX2_chooseSides_15 : decode cX2_chooseSides 15 = .ok (.iaload, 1) := by decide +kernel
theorem dX2_chooseSides_16 : decode cX2_chooseSides 16 = .ok (.istore 4, 2) := by decide +kernel
theorem dX2_chooseSides_18 : decode cX2_chooseSides 18 = .ok (.aload_n 0, 1) := by decide +kernel
theorem dX2_chooseSides_19 : decode cX2_chooseSides 19 = .ok (.getfield 22, 3) := by decide +kernel
theorem dX2_chooseSides_22 : decode cX2_chooseSides 22 = .ok (.iload_n 3, 1) := by decide +kernel
theorem dX2_chooseSides_23 : decode cX2_chooseSides 23 = .ok (.iaload, 1) := by decide +kernel
theorem dX2_chooseSides_24 : decode cX2_chooseSides 24 = .ok (.istore 5, 2) := by decide +kernel
theorem dX2_chooseSides_26 : decode cX2_chooseSides 26 = .ok (.iload 4, 2) := by decide +kernel
theorem dX2_chooseSides_28 : decode cX2_chooseSides 28 = .ok (.aload_n 0, 1) := by decide +kernel
theorem dX2_chooseSides_29 : decode cX2_chooseSides 29 = .ok (.getfield 28, 3) := by decide +kernel
theorem dX2_chooseSides_32 : decode cX2_chooseSides 32 = .ok (.iload_n 2, 1) := by decide +kernel
theorem dX2_chooseSides_33 : decode cX2_chooseSides 33 = .ok (.aaload, 1) := by decide +kernel
theorem dX2_chooseSides_34 : decode cX2_chooseSides 34 = .ok (.iload_n 3, 1) := by decide +kernel
theorem dX2_chooseSides_35 : decode cX2_chooseSides 35 = .ok (.iaload, 1) := by decide +kernel
theorem dX2_chooseSides_36 : decode cX2_chooseSides 36 = .ok (.if_icmp .ne 16, 3) := by decide +kernel
theorem dX2_chooseSides_39 : decode cX2_chooseSides 39 = .ok (.iload 5, 2) := by decide +kernel
theorem dX2_chooseSides_41 : decode cX2_chooseSides 41 = .ok (.aload_n 0, 1) := by decide +kernel
theorem dX2_chooseSides_42 : decode cX2_chooseSides 42 = .ok (.getfield 28, 3) := by decide +kernel
theorem dX2_chooseSides_45 : decode cX2_chooseSides 45 = .ok (.iload_n 2, 1) := by decide +kernel
theorem dX2_chooseSides_46 : decode cX2_chooseSides 46 = .ok (.aaload, 1) := by decide +kernel
theorem dX2_chooseSides_47 : decode cX2_chooseSides 47 = .ok (.iload_n 3, 1) := by decide +kernel
theorem dX2_chooseSides_48 : decode cX2_chooseSides 48 = .ok (.iaload, 1) := by decide +kernel
theorem dX2_chooseSides_49 : decode cX2_chooseSides 49 = .ok (.if_icmp .eq 24, 3) := by decide +kernel
theorem dX2_chooseSides_52 : decode cX2_chooseSides 52 = .ok (.aload_n 0, 1) := by decide +kernel
theorem dX2_chooseSides_53 : decode cX2_chooseSides 53 = .ok (.getfield 22, 3) := by decide +kernel
theorem dX2_chooseSides_56 : decode cX2_chooseSides 56 = .ok (.iload_n 3, 1) := by decide +kernel
theorem dX2_chooseSides_57 : decode cX2_chooseSides 57 = .ok (.aload_n 0, 1) := by decide +kernel
theorem dX2_chooseSides_58 : decode cX2_chooseSides 58 = .ok (.getfield 12, 3) := by decide +kernel
theorem dX2_chooseSides_61 : decode cX2_chooseSides 61 = .ok (.bipush 13, 2) := by decide +kernel
theorem dX2_chooseSides_63 : decode cX2_chooseSides 63 = .ok (.iconst (-1), 1) := by decide +kernel
theorem dX2_chooseSides_64 : decode cX2_chooseSides 64 = .ok (.iload_n 1, 1) := by decide +kernel
theorem dX2_chooseSides_65 : decode cX2_chooseSides 65 = .ok (.iload 4, 2) := by decide +kernel
theorem dX2_chooseSides_67 : decode cX2_chooseSides 67 = .ok (.iload 5, 2) := by decide +kernel
theorem dX2_chooseSides_69 : decode cX2_chooseSides 69 = .ok (.invokevirtual 95, 3) := by decide +kernel
theorem dX2_chooseSides_72 : decode cX2_chooseSides 72 = .ok (.iastore, 1) := by decide +kernel
theorem dX2_chooseSides_73 : decode cX2_chooseSides 73 = .ok (.iinc 3 1, 3) := by decide +kernel
theorem dX2_chooseSides_76 : decode cX2_chooseSides 76 = .ok (.goto (-74), 3) := by decide +kernel
theorem dX2_chooseSides_79 : decode cX2_chooseSides 79 = .ok (.return_, 1) := by decide +kernel
theorem dX2_moveBack_0 : decode cX2_moveBack 0 = .ok (.iconst 0, 1) := by decide +kernel
theorem dX2_moveBack_1 : decode cX2_moveBack 1 = .ok (.istore_n 1, 1) := by decide +kernel
theorem dX2_moveBack_2 : decode cX2_moveBack 2 = .ok (.iload_n 1, 1) := by decide +kernel
theorem dX2_moveBack_3 : decode cX2_moveBack 3 = .ok (.bipush 16, 2) := by decide +kernel
theorem dX2_moveBack_5 : decode cX2_moveBack 5 = .ok (.if_icmp .ge 44, 3) := by decide +kernel
theorem dX2_moveBack_8 : decode cX2_moveBack 8 = .ok (.aload_n 0, 1) := by decide +kernel
theorem dX2_moveBack_9 : decode cX2_moveBack 9 = .ok (.getfield 22, 3) := by decide +kernel
theorem dX2_moveBack_12 : decode cX2_moveBack 12 = .ok (.iload_n 1, 1) := by decide +kernel
theorem dX2_moveBack_13 : decode cX2_moveBack 13 = .ok (.iaload, 1) := by decide +kernel
theorem dX2_moveBack_14 : decode cX2_moveBack 14 = .ok (.iload_n 1, 1) := by decide +kernel
theorem dX2_moveBack_15 : decode cX2_moveBack 15 = .ok (.if_icmp .eq 28, 3) := by decide +kernel
theorem dX2_moveBack_18 : decode cX2_moveBack 18 = .ok (.aload_n 0, 1) := by decide +kernel
theorem dX2_moveBack_19 : decode cX2_moveBack 19 = .ok (.getfield 12, 3) := by decide +kernel
theorem dX2_moveBack_22 : decode cX2_moveBack 22 = .ok (.iconst 1, 1) := by decide +kernel
theorem dX2_moveBack_23 : decode cX2_moveBack 23 = .ok (.iload_n 1, 1) := by decide +kernel
theorem dX2_moveBack_24 : decode cX2_moveBack 24 = .ok (.aload_n 0, 1) := by decide +kernel
theorem dX2_moveBack_25 : decode cX2_moveBack 25 = .ok (.getfield 22, 3) := by decide +kernel
theorem dX2_moveBack_28 : decode cX2_moveBack 28 = .ok (.iload_n 1, 1) := by decide +kernel
theorem dX2_moveBack_29 : decode cX2_moveBack 29 = .ok (.iaload, 1) := by decide +kernel
theorem dX2_moveBack_30 : decode cX2_moveBack 30 = .ok (.iconst 0, 1) := by decide +kernel
theorem dX2_moveBack_31 : decode cX2_moveBack 31 = .ok (.iconst 0, 1) := by decide +kernel
theorem dX2_moveBack_32 : decode cX2_moveBack 32 = .ok (.invokevirtual 95, 3) := by decide +kernel
theorem dX2_moveBack_35 : decode cX2_moveBack 35 = .ok (.pop, 1) := by decide +kernel
theorem dX2_moveBack_36 : decode cX2_moveBack 36 = .ok (.aload_n 0, 1) := by decide +kernel
theorem dX2_moveBack_37 : decode cX2_moveBack 37 = .ok (.getfield 22, 3) := by decide +kernel
theorem dX2_moveBack_40 : decode cX2_moveBack 40 = .ok (.iload_n 1, 1) := by decide +kernel
theorem dX2_moveBack_41 : decode cX2_moveBack 41 = .ok (.iload_n 1, 1) := by decide +kernel
theorem dX2_moveBack_42 : decode cX2_moveBack 42 = .ok (.iastore, 1) := by decide +kernel
theorem dX2_moveBack_43 : decode cX2_moveBack 43 = .ok (.iinc 1 1, 3) := by decide +kernel
theorem dX2_moveBack_46 : decode cX2_moveBack 46 = .ok (.goto (-44), 3) := by decide +kernel
theorem dX2_moveBack_49 : decode cX2_moveBack 49 = .ok (.return_, 1) := by decide +kernel
theorem dX3_init_0 : decode cX3_init 0 = .ok (.aload_n 0, 1) := by decide +kernel
theorem dX3_init_1 : decode cX3_init 1 = .ok (.invokespecial 3, 3) := by decide +kernel
theorem dX3_init_4 : decode cX3_init 4 = .ok (.aload_n 0, 1) := by decide +kernel
theorem dX3_init_5 : decode cX3_init 5 = .ok (.bipush 60, 2) := by decide +kernel
theorem dX3_init_7 : decode cX3_init 7 = .ok (.newarray .int, 2) := by decide +kernel
theorem dX3_init_9 : decode cX3_init 9 = .ok (.putfield 9, 3) := by decide +kernel
theorem dX3_init_12 : decode cX3_init 12 = .ok (.aload_n 0, 1) := by decide +kernel
theorem dX3_init_13 : decode cX3_init 13 = .ok (.bipush 60, 2) := by decide +kernel
theorem dX3_init_15 : decode cX3_init 15 = .ok (.newarray .int, 2) := by decide +kernel
theorem dX3_init_17 : decode cX3_init 17 = .ok (.putfield 15, 3) := by decide +kernel
theorem dX3_init_20 : decode cX3_init 20 = .ok (.aload_n 0, 1) := by decide +kernel
theorem dX3_init_21 : decode cX3_init 21 = .ok (.bipush 60, 2) := by decide +kernel
theorem dX3_init_23 : decode cX3_init 23 = .ok (.newarray .int, 2) := by decide +kernel
theorem dX3_init_25 : decode cX3_init 25 = .ok (.putfield 18, 3) := by decide +kernel
theorem dX3_init_28 : decode cX3_init 28 = .ok (.aload_n 0, 1) := by decide +kernel
theorem dX3_init_29 : decode cX3_init 29 = .ok (.bipush 60, 2) := by decide +kernel
theorem dX3_init_31 : decode cX3_init 31 = .ok (.newarray .int, 2) := by decide +kernel
theorem dX3_init_33 : decode cX3_init 33 = .ok (.putfield 21, 3) := by decide +kernel
theorem dX3_init_36 : decode cX3_init 36 = .ok (.aload_n 0, 1) := by decide +kernel
theorem dX3_init_37 : decode cX3_init 37 = .ok (.bipush 60, 2) := by decide +kernel
theorem dX3_init_39 : decode cX3_init 39 = .ok (.newarray .int, 2) := by decide +kernel
theorem dX3_init_41 : decode cX3_init 41 = .ok (.putfield 24, 3) := by decide +kernel
theorem dX3_init_44 : decode cX3_init 44 = .ok (.aload_n 0, 1) := by decide +kernel
theorem dX3_init_45 : decode cX3_init 45 = .ok (.bipush 60, 2) := by decide +kernel
theorem dX3_init_47 : decode cX3_init 47 = .ok (.newarray .int, 2) := by decide +kernel
theorem dX3_init_49 : decode cX3_init 49 = .ok (.putfield 27, 3) := by decide +kernel
theorem dX3_init_52 : decode cX3_init 52 = .ok (.aload_n 0, 1) := by decide +kernel
theorem dX3_init_53 : decode cX3_init 53 = .ok (.bipush 120, 2) := by decide +kernel
theorem dX3_init_55 : decode cX3_init 55 = .ok (.newarray .boolean, 2) := by decide +kernel
theorem dX3_init_57 : decode cX3_init 57 = .ok (.putfield 30, 3) := by decide +kernel
theorem dX3_init_60 : decode cX3_init 60 = .ok (.aload_n 0, 1) := by decide +kernel
theorem dX3_init_61 : decode cX3_init 61 = .ok (.bipush 120, 2) := by decide +kernel
theorem dX3_init_63 : decode cX3_init 63 = .ok (.newarray .int, 2) := by decide +kernel
theorem dX3_init_65 : decode cX3_init 65 = .ok (.putfield 34, 3) := by decide +kernel
theorem dX3_init_68 : decode cX3_init 68 = .ok (.aload_n 0, 1) := by decide +kernel
theorem dX3_init_69 : decode cX3_init 69 = .ok (.iconst 0, 1) := by decide +kernel
theorem dX3_init_70 : decode cX3_init 70 = .ok (.putfield 37, 3) := by decide +kernel
theorem dX3_init_73 : decode cX3_init 73 = .ok (.return_, 1) := by decide +kernel
theorem dX3_begin_0 : decode cX3_begin 0 = .ok (.aload_n 0, 1) := by decide +kernel
theorem dX3_begin_1 : decode cX3_begin 1 = .ok (.getfield 37, 3) := by decide +kernel
theorem dX3_begin_4 : decode cX3_begin 4 = .ok (.istore_n 2, 1) := by decide +kernel
theorem dX3_begin_5 : decode cX3_begin 5 = .ok (.aload_n 0, 1) := by decide +kernel
theorem dX3_begin_6 : decode cX3_begin 6 = .ok (.getfield 9, 3) := by decide +kernel
theorem dX3_begin_9 : decode cX3_begin 9 = .ok (.iload_n 2, 1) := by decide +kernel
theorem dX3_begin_10 : decode cX3_begin 10 = .ok (.iconst 0, 1) := by decide +kernel
theorem dX3_begin_11 : decode cX3_begin 11 = .ok (.iastore, 1) := by decide +kernel
theorem dX3_begin_12 : decode cX3_begin 12 = .ok (.aload_n 0, 1) := by decide +kernel
theorem dX3_begin_13 : decode cX3_begin 13 = .ok (.getfield 15, 3) := by decide +kernel
theorem dX3_begin_16 : decode cX3_begin 16 = .ok (.iload_n 2, 1) := by decide +kernel
theorem dX3_begin_17 : decode cX3_begin 17 = .ok (.iload_n 1, 1) := by decide +kernel
theorem dX3_begin_18 : decode cX3_begin 18 = .ok (.iastore, 1) := by decide +kernel
theorem dX3_begin_19 : decode cX3_begin 19 = .ok (.aload_n 0, 1) := by decide +kernel
theorem dX3_begin_20 : decode cX3_begin 20 = .ok (.getfield 18, 3) := by decide +kernel
theorem dX3_begin_23 : decode cX3_begin 23 = .ok (.iload_n 2, 1) := by decide +kernel
theorem dX3_begin_24 : decode cX3_begin 24 = .ok (.iconst 0, 1) := by decide +kernel
theorem dX3_begin_25 : decode cX3_begin 25 = .ok (.iastore, 1) := by decide +kernel
theorem dX3_begin_26 : decode cX3_begin 26 = .ok (.aload_n 0, 1) := by decide +kernel
theorem dX3_begin_27 : decode cX3_begin 27 = .ok (.getfield 21, 3) := by decide +kernel
theorem dX3_begin_30 : decode cX3_begin 30 = .ok (.iload_n 2, 1) := by decide +kernel
theorem dX3_begin_31 : decode cX3_begin 31 = .ok (.iconst 0, 1) := by decide +kernel
theorem dX3_begin_32 : decode cX3_begin 32 = .ok (.iastore, 1) := by decide +kernel
theorem dX3_begin_33 : decode cX3_begin 33 = .ok (.aload_n 0, 1) := by decide +kernel
theorem dX3_begin_34 : decode cX3_begin 34 = .ok (.getfield 24, 3) := by decide +kernel
theorem dX3_begin_37 : decode cX3_begin 37 = .ok (.iload_n 2, 1) := by decide +kernel
theorem dX3_begin_38 : decode cX3_begin 38 = .ok (.iload_n 2, 1) := by decide +kernel
theorem dX3_begin_39 : decode cX3_begin 39 = .ok (.iconst 1, 1) := by decide +kernel
theorem dX3_begin_40 : decode cX3_begin 40 = .ok (.iadd, 1) := by decide +kernel
theorem dX3_begin_41 : decode cX3_begin 41 = .ok (.iastore, 1) := by decide +kernel
theorem dX3_begin_42 : decode cX3_begin 42 = .ok (.aload_n 0, 1) := by decide +kernel
theorem dX3_begin_43 : decode cX3_begin 43 = .ok (.getfield 27, 3) := by decide +kernel
theorem dX3_begin_46 : decode cX3_begin 46 = .ok (.iload_n 2, 1) := by decide +kernel
theorem dX3_begin_47 : decode cX3_begin 47 = .ok (.iload_n 2, 1) := by decide +kernel
theorem dX3_begin_48 : decode cX3_begin 48 = .ok (.iconst 1, 1) := by decide +kernel
theorem dX3_begin_49 : decode cX3_begin 49 = .ok (.iadd, 1) := by decide +kernel
theorem dX3_begin_50 : decode cX3_begin 50 = .ok (.iastore, 1) := by decide +kernel
theorem dX3_begin_51 : decode cX3_begin 51 = .ok (.aload_n 0, 1) := by decide +kernel
theorem dX3_begin_52 : decode cX3_begin 52 = .ok (.dup, 1) := by decide +kernel
theorem dX3_begin_53 : decode cX3_begin 53 = .ok (.getfield 37, 3) := by decide +kernel
theorem dX3_begin_56 : decode cX3_begin 56 = .ok (.iconst 1, 1) := by decide +kernel
theorem dX3_begin_57 : decode cX3_begin 57 = .ok (.iadd, 1) := by decide +kernel
theorem dX3_begin_58 : decode cX3_begin 58 = .ok (.putfield 37, 3) := by decide +kernel
theorem dX3_begin_61 : decode cX3_begin 61 = .ok (.iload_n 2, 1) := by decide +kernel
theorem dX3_begin_62 : decode cX3_begin 62 = .ok (.ireturn, 1) := by decide +kernel
theorem dX3_putValue_0 : decode cX3_putValue 0 = .ok (.aload_n 0, 1) := by decide +kernel
theorem dX3_putValue_1 : decode cX3_putValue 1 = .ok (.getfield 30, 3) := by decide +kernel
theorem dX3_putValue_4 : decode cX3_putValue 4 = .ok (.iload_n 1, 1) := by decide +kernel
theorem dX3_putValue_5 : decode cX3_putValue 5 = .ok (.iload_n 2, 1) := by decide +kernel
theorem dX3_putValue_6 : decode cX3_putValue 6 = .ok (.bastore, 1) := by decide +kernel
theorem dX3_putValue_7 : decode cX3_putValue 7 = .ok (.aload_n 0, 1) := by decide +kernel
theorem dX3_putValue_8 : decode cX3_putValue 8 = .ok (.getfield 34, 3) := by decide +kernel
theorem dX3_putValue_11 : decode cX3_putValue 11 = .ok (.iload_n 1, 1) := by decide +kernel
theorem dX3_putValue_12 : decode cX3_putValue 12 = .ok (.iload_n 3, 1) := by decide +kernel
theorem dX3_putValue_13 : decode cX3_putValue 13 = .ok (.iastore, 1) := by decide +kernel
theorem dX3_putValue_14 : decode cX3_putValue 14 = .ok (.return_, 1) := by decide +kernel
theorem dX4_init_0 : decode cX4_init 0 = .ok (.aload_n 0, 1) := by decide +kernel
theorem dX4_init_1 : decode cX4_init 1 = .ok (.invokespecial 3, 3) := by decide +kernel
theorem dX4_init_4 : decode cX4_init 4 = .ok (.aload_n 0, 1) := by decide +kernel
theorem dX4_init_5 : decode cX4_init 5 = .ok (.sipush 600, 3) := by decide +kernel
theorem dX4_init_8 : decode cX4_init 8 = .ok (.newarray .int, 2) := by decide +kernel
theorem dX4_init_10 : decode cX4_init 10 = .ok (.putfield 9, 3) := by decide +kernel
theorem dX4_init_13 : decode cX4_init 13 = .ok (.aload_n 0, 1) := by decide +kernel
theorem dX4_init_14 : decode cX4_init 14 = .ok (.iconst 0, 1) := by decide +kernel
theorem dX4_init_15 : decode cX4_init 15 = .ok (.putfield 15, 3) := by decide +kernel
theorem dX4_init_18 : decode cX4_init 18 = .ok (.aload_n 0, 1) := by decide +kernel
theorem dX4_init_19 : decode cX4_init 19 = .ok (.new 19, 3) := by decide +kernel
theorem dX4_init_22 : decode cX4_init 22 = .ok (.dup, 1) := by decide +kernel
theorem dX4_init_23 : decode cX4_init 23 = .ok (.invokespecial 21, 3) := by decide +kernel
theorem dX4_init_26 : decode cX4_init 26 = .ok (.putfield 22, 3) := by decide +kernel
theorem dX4_init_29 : decode cX4_init 29 = .ok (.aload_n 0, 1) := by decide +kernel
theorem dX4_init_30 : decode cX4_init 30 = .ok (.bipush 6, 2) := by decide +kernel
theorem dX4_init_32 : decode cX4_init 32 = .ok (.newarray .int, 2) := by decide +kernel
theorem dX4_init_34 : decode cX4_init 34 = .ok (.putfield 26, 3) := by decide +kernel
theorem dX4_init_37 : decode cX4_init 37 = .ok (.aload_n 0, 1) := by decide +kernel
theorem dX4_init_38 : decode cX4_init 38 = .ok (.bipush 6, 2) := by decide +kernel
theorem dX4_init_40 : decode cX4_init 40 = .ok (.newarray .boolean, 2) := by decide +kernel
theorem dX4_init_42 : decode cX4_init 42 = .ok (.putfield 29, 3) := by decide +kernel
theorem dX4_init_45 : decode cX4_init 45 = .ok (.aload_n 0, 1) := by decide +kernel
theorem dX4_init_46 : decode cX4_init 46 = .ok (.iconst 0, 1) := by decide +kernel
theorem dX4_init_47 : decode cX4_init 47 = .ok (.putfield 33, 3) := by decide +kernel
theorem dX4_init_50 : decode cX4_init 50 = .ok (.aload_n 0, 1) := by decide +kernel
theorem dX4_init_51 : decode cX4_init 51 = .ok (.iconst 0, 1) := by decide +kernel
theorem dX4_init_52 : decode cX4_init 52 = .ok (.putfield 36, 3) := by decide +kernel
theorem dX4_init_55 : decode cX4_init 55 = .ok (.aload_n 0, 1) := by decide +kernel
theorem dX4_init_56 : decode cX4_init 56 = .ok (.iconst 0, 1) := by decide +kernel
theorem dX4_init_57 : decode cX4_init 57 = .ok (.putfield 39, 3) := by decide +kernel
theorem dX4_init_60 : decode cX4_init 60 = .ok (.aload_n 0, 1) := by decide +kernel
theorem dX4_init_61 : decode cX4_init 61 = .ok (.iconst 0, 1) := by decide +kernel
theorem dX4_init_62 : decode cX4_init 62 = .ok (.putfield 42, 3) := by decide +kernel
theorem dX4_init_65 : decode cX4_init 65 = .ok (.return_, 1) := by decide +kernel
theorem dX4_append_0 : decode cX4_append 0 = .ok (.aload_n 0, 1) := by decide +kernel
theorem dX4_append_1 : decode cX4_append 1 = .ok (.getfield 15, 3) := by decide +kernel
theorem dX4_append_4 : decode cX4_append 4 = .ok (.sipush 600, 3) := by decide +kernel
theorem dX4_append_7 : decode cX4_append 7 = .ok (.if_icmp .ge 23, 3) := by decide +kernel
theorem dX4_append_10 : decode cX4_append 10 = .ok (.aload_n 0, 1) := by decide +kernel
theorem dX4_append_11 : decode cX4_append 11 = .ok (.getfield 9, 3) := by decide +kernel
theorem dX4_append_14 : decode cX4_append 14 = .ok (.aload_n 0, 1) := by decide +kernel
theorem dX4_append_15 : decode cX4_append 15 = .ok (.getfield 15, 3) := by decide +kernel
theorem dX4_append_18 : decode cX4_append 18 = .ok (.iload_n 1, 1) := by decide +kernel
theorem dX4_append_19 : decode cX4_append 19 = .ok (.iastore, 1) := by decide +kernel
theorem dX4_append_20 : decode cX4_append 20 = .ok (.aload_n 0, 1) := by decide +kernel
theorem dX4_append_21 : decode cX4_append 21 = .ok (.dup, 1) := by decide +kernel
theorem dX4_append_22 : decode cX4_append 22 = .ok (.getfield 15, 3) := by decide +kernel
theorem dX4_append_25 : decode cX4_append 25 = .ok (.iconst 1, 1) := by decide +kernel
theorem dX4_append_26 : decode cX4_append 26 = .ok (.iadd, 1) := by decide +kernel
theorem dX4_append_27 : decode cX4_append 27 = .ok (.putfield 15, 3) := by decide +kernel
theorem dX4_append_30 : decode cX4_append 30 = .ok (.return_, 1) := by decide +kernel
theorem dX4_handOver_0 : decode cX4_handOver 0 = .ok (.aload_n 0, 1) := by decide +kernel
theorem dX4_handOver_1 : decode cX4_handOver 1 = .ok (.getfield 22, 3) := by decide +kernel
theorem dX4_handOver_4 : decode cX4_handOver 4 = .ok (.astore_n 2, 1) := by decide +kernel
theorem dX4_handOver_5 : decode cX4_handOver 5 = .ok (.aload_n 0, 1) := by decide +kernel
theorem dX4_handOver_6 : decode cX4_handOver 6 = .ok (.aload_n 1, 1) := by decide +kernel
theorem dX4_handOver_7 : decode cX4_handOver 7 = .ok (.putfield 22, 3) := by decide +kernel
theorem dX4_handOver_10 : decode cX4_handOver 10 = .ok (.aload_n 0, 1) := by decide +kernel
theorem dX4_handOver_11 : decode cX4_handOver 11 = .ok (.iconst 0, 1) := by decide +kernel
theorem dX4_handOver_12 : decode cX4_handOver 12 = .ok (.putfield 15, 3) := by decide +kernel
theorem dX4_handOver_15 : decode cX4_handOver 15 = .ok (.aload_n 2, 1) := by decide +kernel
theorem dX4_handOver_16 : decode cX4_handOver 16 = .ok (.areturn, 1) := by decide +kernel
theorem dX4_takeTape_0 : decode cX4_takeTape 0 = .ok (.aload_n 0, 1) := by decide +kernel
theorem dX4_takeTape_1 : decode cX4_takeTape 1 = .ok (.getfield 22, 3) := by decide +kernel
theorem dX4_takeTape_4 : decode cX4_takeTape 4 = .ok (.iconst 0, 1) := by decide +kernel
theorem dX4_takeTape_5 : decode cX4_takeTape 5 = .ok (.putfield 45, 3) := by decide +kernel
theorem dX4_takeTape_8 : decode cX4_takeTape 8 = .ok (.aload_n 0, 1) := by decide +kernel
theorem dX4_takeTape_9 : decode cX4_takeTape 9 = .ok (.iconst 0, 1) := by decide +kernel
theorem dX4_takeTape_10 : decode cX4_takeTape 10 = .ok (.putfield 33, 3) := by decide +kernel
theorem dX4_takeTape_13 : decode cX4_takeTape 13 = .ok (.aload_n 0, 1) := by decide +kernel
theorem dX4_takeTape_14 : decode cX4_takeTape 14 = .ok (.iconst 0, 1) := by decide +kernel
theorem dX4_takeTape_15 : decode cX4_takeTape 15 = .ok (.putfield 36, 3) := by decide +kernel
theorem dX4_takeTape_18 : decode cX4_takeTape 18 = .ok (.aload_n 0, 1) := by decide +kernel
theorem dX4_takeTape_19 : decode cX4_takeTape 19 = .ok (.iconst 0, 1) := by decide +kernel
theorem dX4_takeTape_20 : decode cX4_takeTape 20 = .ok (.putfield 39, 3) := by decide +kernel
theorem dX4_takeTape_23 : decode cX4_takeTape 23 = .ok (.aload_n 0, 1) := by decide +kernel
theorem dX4_takeTape_24 : decode cX4_takeTape 24 = .ok (.iconst 0, 1) := by decide +kernel
theorem dX4_takeTape_25 : decode cX4_takeTape 25 = .ok (.putfield 42, 3) := by decide +kernel
theorem dX4_takeTape_28 : decode cX4_takeTape 28 = .ok (.iconst 0, 1) := by decide +kernel
theorem dX4_takeTape_29 : decode cX4_takeTape 29 = .ok (.istore_n 1, 1) := by decide +kernel
theorem dX4_takeTape_30 : decode cX4_takeTape 30 = .ok (.iload_n 1, 1) := by decide +kernel
theorem dX4_takeTape_31 : decode cX4_takeTape 31 = .ok (.aload_n 0, 1) := by decide +kernel
theorem dX4_takeTape_32 : decode cX4_takeTape 32 = .ok (.getfield 15, 3) := by decide +kernel
theorem dX4_takeTape_35 : decode cX4_takeTape 35 = .ok (.if_icmp .gt 65, 3) := by decide +kernel
theorem dX4_takeTape_38 : decode cX4_takeTape 38 = .ok (.aload_n 0, 1) := by decide +kernel
theorem dX4_takeTape_39 : decode cX4_takeTape 39 = .ok (.invokevirtual 48, 3) := by decide +kernel
theorem dX4_takeTape_42 : decode cX4_takeTape 42 = .ok (.istore_n 2, 1) := by decide +kernel
theorem dX4_takeTape_43 : decode cX4_takeTape 43 = .ok (.iload_n 2, 1) := by decide +kernel
theorem dX4_takeTape_44 : decode cX4_takeTape 44 = .ok (.iconst (-1), 1) := by decide +kernel
theorem dX4_takeTape_45 : decode cX4_takeTape 45 = .ok (.if_icmp .ne 24, 3) := by decide +kernel
theorem dX4_takeTape_48 : decode cX4_takeTape 48 = .ok (.aload_n 0, 1) := by decide +kernel
theorem dX4_takeTape_49 : decode cX4_takeTape 49 = .ok (.getfield 33, 3) := by decide +kernel
theorem dX4_takeTape_52 : decode cX4_takeTape 52 = .ok (.ifCond .eq 11, 3) := by decide +kernel
theorem dX4_takeTape_55 : decode cX4_takeTape 55 = .ok (.aload_n 0, 1) := by decide +kernel
theorem dX4_takeTape_56 : decode cX4_takeTape 56 = .ok (.iconst 1, 1) := by decide +kernel
theorem dX4_takeTape_57 : decode cX4_takeTape 57 = .ok (.invokevirtual 52, 3) := by decide +kernel
theorem dX4_takeTape_60 : decode cX4_takeTape 60 = .ok (.ifCond .eq 7, 3) := by decide +kernel
theorem dX4_takeTape_63 : decode cX4_takeTape 63 = .ok (.iconst 1, 1) := by decide +kernel
theorem dX4_takeTape_64 : decode cX4_takeTape 64 = .ok (.goto 4, 3) := by decide +kernel
theorem dX4_takeTape_67 : decode cX4_takeTape 67 = .ok (.iconst 0, 1) := by decide +kernel
theorem dX4_takeTape_68 : decode cX4_takeTape 68 = .ok (.ireturn, 1) := by decide +kernel
theorem dX4_takeTape_69 : decode cX4_takeTape 69 = .ok (.iload_n 2, 1) := by decide +kernel
theorem dX4_takeTape_70 : decode cX4_takeTape 70 = .ok (.bipush 125, 2) := by decide +kernel
theorem dX4_takeTape_72 : decode cX4_takeTape 72 = .ok (.if_icmp .ne 10, 3) := by decide +kernel
theorem dX4_takeTape_75 : decode cX4_takeTape 75 = .ok (.aload_n 0, 1) := by decide +kernel
theorem dX4_takeTape_76 : decode cX4_takeTape 76 = .ok (.invokevirtual 56, 3) := by decide +kernel
theorem dX4_takeTape_79 : decode cX4_takeTape 79 = .ok (.goto 8, 3) := by decide +kernel
theorem dX4_takeTape_82 : decode cX4_takeTape 82 = .ok (.aload_n 0, 1) := by decide +kernel
theorem dX4_takeTape_83 : decode cX4_takeTape 83 = .ok (.iload_n 2, 1) := by decide +kernel
theorem dX4_takeTape_84 : decode cX4_takeTape 84 = .ok (.invokevirtual 60, 3) := by decide +kernel
theorem dX4_takeTape_87 : decode cX4_takeTape 87 = .ok (.istore_n 3, 1) := by decide +kernel
theorem dX4_takeTape_88 : decode cX4_takeTape 88 = .ok (.iload_n 3, 1) := by decide +kernel
theorem dX4_takeTape_89 : decode cX4_takeTape 89 = .ok (.ifCond .ne 5, 3) := by decide +kernel
theorem dX4_takeTape_92 : decode cX4_takeTape 92 = .ok (.iconst 0, 1) := by decide +kernel
theorem dX4_takeTape_93 : decode cX4_takeTape 93 = .ok (.ireturn, 1) := by decide +kernel
theorem dX4_takeTape_94 : decode cX4_takeTape 94 = .ok (.iinc 1 1, 3) := by decide +kernel
theorem dX4_takeTape_97 : decode cX4_takeTape 97 = .ok (.goto (-67), 3) := by decide +kernel
theorem dX4_takeTape_100 : decode cX4_takeTape 100 = .ok (.iconst 0, 1) := by decide +kernel
theorem dX4_takeTape_101 : decode cX4_takeTape 101 = .ok (.ireturn, 1) := by decide +kernel
theorem dX4_refuse_0 : decode cX4_refuse 0 = .ok (.aload_n 0, 1) := by decide +kernel
theorem dX4_refuse_1 : decode cX4_refuse 1 = .ok (.iload_n 1, 1) := by decide +kernel
theorem dX4_refuse_2 : decode cX4_refuse 2 = .ok (.putfield 39, 3) := by decide +kernel
theorem dX4_refuse_5 : decode cX4_refuse 5 = .ok (.aload_n 0, 1) := by decide +kernel
theorem dX4_refuse_6 : decode cX4_refuse 6 = .ok (.aload_n 0, 1) := by decide +kernel
theorem dX4_refuse_7 : decode cX4_refuse 7 = .ok (.getfield 36, 3) := by decide +kernel
theorem dX4_refuse_10 : decode cX4_refuse 10 = .ok (.putfield 42, 3) := by decide +kernel
theorem dX4_refuse_13 : decode cX4_refuse 13 = .ok (.iconst 0, 1) := by decide +kernel
theorem dX4_refuse_14 : decode cX4_refuse 14 = .ok (.ireturn, 1) := by decide +kernel
theorem dX4_nextByte_0 : decode cX4_nextByte 0 = .ok (.aload_n 0, 1) := by decide +kernel
theorem dX4_nextByte_1 : decode cX4_nextByte 1 = .ok (.getfield 36, 3) := by decide +kernel
theorem dX4_nextByte_4 : decode cX4_nextByte 4 = .ok (.aload_n 0, 1) := by decide +kernel
theorem dX4_nextByte_5 : decode cX4_nextByte 5 = .ok (.getfield 15, 3) := by decide +kernel
theorem dX4_nextByte_8 : decode cX4_nextByte 8 = .ok (.if_icmp .ge 44, 3) := by decide +kernel
theorem dX4_nextByte_11 : decode cX4_nextByte 11 = .ok (.aload_n 0, 1) := by decide +kernel
theorem dX4_nextByte_12 : decode cX4_nextByte 12 = .ok (.getfield 9, 3) := by decide +kernel
theorem dX4_nextByte_15 : decode cX4_nextByte 15 = .ok (.aload_n 0, 1) := by decide +kernel
theorem dX4_nextByte_16 : decode cX4_nextByte 16 = .ok (.getfield 36, 3) := by decide +kernel
theorem dX4_nextByte_19 : decode cX4_nextByte 19 = .ok (.iaload, 1) := by decide +kernel
theorem dX4_nextByte_20 : decode cX4_nextByte 20 = .ok (.bipush 32, 2) := by decide +kernel
theorem dX4_nextByte_22 : decode cX4_nextByte 22 = .ok (.if_icmp .eq 17, 3) := by decide +kernel
theorem dX4_nextByte_25 : decode cX4_nextByte 25 = .ok (.aload_n 0, 1) := by decide +kernel
theorem dX4_nextByte_26 : decode cX4_nextByte 26 = .ok (.getfield 9, 3) := by decide +kernel
theorem dX4_nextByte_29 : decode cX4_nextByte 29 = .ok (.aload_n 0, 1) := by decide +kernel
theorem dX4_nextByte_30 : decode cX4_nextByte 30 = .ok (.getfield 36, 3) := by decide +kernel
theorem dX4_nextByte_33 : decode cX4_nextByte 33 = .ok (.iaload, 1) := by decide +kernel
theorem dX4_nextByte_34 : decode cX4_nextByte 34 = .ok (.bipush 10, 2) := by decide +kernel
theorem dX4_nextByte_36 : decode cX4_nextByte 36 = .ok (.if_icmp .ne 16, 3) := by decide +kernel
theorem dX4_nextByte_39 : decode cX4_nextByte 39 = .ok (.aload_n 0, 1) := by decide +kernel
theorem dX4_nextByte_40 : decode cX4_nextByte 40 = .ok (.dup, 1) := by decide +kernel
theorem dX4_nextByte_41 : decode cX4_nextByte 41 = .ok (.getfield 36, 3) := by decide +kernel
theorem dX4_nextByte_44 : decode cX4_nextByte 44 = .ok (.iconst 1, 1) := by decide +kernel
theorem dX4_nextByte_45 : decode cX4_nextByte 45 = .ok (.iadd, 1) := by decide +kernel
theorem dX4_nextByte_46 : decode cX4_nextByte 46 = .ok (.putfield 36, 3) := by decide +kernel
theorem dX4_nextByte_49 : decode cX4_nextByte 49 = .ok (.goto (-49), 3) := by decide +kernel
theorem dX4_nextByte_52 : decode cX4_nextByte 52 = .ok (.aload_n 0, 1) := by decide +kernel
theorem dX4_nextByte_53 : decode cX4_nextByte 53 = .ok (.getfield 36, 3) := by decide +kernel
theorem dX4_nextByte_56 : decode cX4_nextByte 56 = .ok (.aload_n 0, 1) := by decide +kernel
theorem dX4_nextByte_57 : decode cX4_nextByte 57 = .ok (.getfield 15, 3) := by decide +kernel
theorem dX4_nextByte_60 : decode cX4_nextByte 60 = .ok (.if_icmp .ge 15, 3) := by decide +kernel
theorem dX4_nextByte_63 : decode cX4_nextByte 63 = .ok (.aload_n 0, 1) := by decide +kernel
theorem dX4_nextByte_64 : decode cX4_nextByte 64 = .ok (.getfield 9, 3) := by decide +kernel
theorem dX4_nextByte_67 : decode cX4_nextByte 67 = .ok (.aload_n 0, 1) := by decide +kernel
theorem dX4_nextByte_68 : decode cX4_nextByte 68 = .ok (.getfield 36, 3) := by decide +kernel
theorem dX4_nextByte_71 : decode cX4_nextByte 71 = .ok (.iaload, 1) := by decide +kernel
theorem dX4_nextByte_72 : decode cX4_nextByte 72 = .ok (.goto 4, 3) := by decide +kernel
theorem dX4_nextByte_75 : decode cX4_nextByte 75 = .ok (.iconst (-1), 1) := by decide +kernel
theorem dX4_nextByte_76 : decode cX4_nextByte 76 = .ok (.ireturn, 1) := by decide +kernel
theorem dX4_takeByte_0 : decode cX4_takeByte 0 = .ok (.aload_n 0, 1) := by decide +kernel
theorem dX4_takeByte_1 : decode cX4_takeByte 1 = .ok (.invokevirtual 48, 3) := by decide +kernel
theorem dX4_takeByte_4 : decode cX4_takeByte 4 = .ok (.iload_n 1, 1) := by decide +kernel
theorem dX4_takeByte_5 : decode cX4_takeByte 5 = .ok (.if_icmp .eq 9, 3) := by decide +kernel
theorem dX4_takeByte_8 : decode cX4_takeByte 8 = .ok (.aload_n 0, 1) := by decide +kernel
theorem dX4_takeByte_9 : decode cX4_takeByte 9 = .ok (.iconst 1, 1) := by decide +kernel
theorem dX4_takeByte_10 : decode cX4_takeByte 10 = .ok (.invokevirtual 52, 3) := by decide +kernel
theorem dX4_takeByte_13 : decode cX4_takeByte 13 = .ok (.ireturn, 1) := by decide +kernel
theorem dX4_takeByte_14 : decode cX4_takeByte 14 = .ok (.aload_n 0, 1) := by decide +kernel
theorem dX4_takeByte_15 : decode cX4_takeByte 15 = .ok (.dup, 1) := by decide +kernel
theorem dX4_takeByte_16 : decode cX4_takeByte 16 = .ok (.getfield 36, 3) := by decide +kernel
theorem dX4_takeByte_19 : decode cX4_takeByte 19 = .ok (.iconst 1, 1) := by decide +kernel
theorem dX4_takeByte_20 : decode cX4_takeByte 20 = .ok (.iadd, 1) := by decide +kernel
theorem dX4_takeByte_21 : decode cX4_takeByte 21 = .ok (.putfield 36, 3) := by decide +kernel
theorem dX4_takeByte_24 : decode cX4_takeByte 24 = .ok (.iconst 1, 1) := by decide +kernel
theorem dX4_takeByte_25 : decode cX4_takeByte 25 = .ok (.ireturn, 1) := by decide +kernel
theorem dX4_closeSide_0 : decode cX4_closeSide 0 = .ok (.aload_n 0, 1) := by decide +kernel
theorem dX4_closeSide_1 : decode cX4_closeSide 1 = .ok (.getfield 33, 3) := by decide +kernel
theorem dX4_closeSide_4 : decode cX4_closeSide 4 = .ok (.ifCond .ne 9, 3) := by decide +kernel
theorem dX4_closeSide_7 : decode cX4_closeSide 7 = .ok (.aload_n 0, 1) := by decide +kernel
theorem dX4_closeSide_8 : decode cX4_closeSide 8 = .ok (.iconst 1, 1) := by decide +kernel
theorem dX4_closeSide_9 : decode cX4_closeSide 9 = .ok (.invokevirtual 52, 3) := by decide +kernel
theorem dX4_closeSide_12 : decode cX4_closeSide 12 = .ok (.ireturn, 1) := by decide +kernel
theorem dX4_closeSide_13 : decode cX4_closeSide 13 = .ok (.aload_n 0, 1) := by decide +kernel
theorem dX4_closeSide_14 : decode cX4_closeSide 14 = .ok (.dup, 1) := by decide +kernel
theorem dX4_closeSide_15 : decode cX4_closeSide 15 = .ok (.getfield 36, 3) := by decide +kernel
theorem dX4_closeSide_18 : decode cX4_closeSide 18 = .ok (.iconst 1, 1) := by decide +kernel
theorem dX4_closeSide_19 : decode cX4_closeSide 19 = .ok (.iadd, 1) := by decide +kernel
theorem dX4_closeSide_20 : decode cX4_closeSide 20 = .ok (.putfield 36, 3) := by decide +kernel
theorem dX4_closeSide_23 : decode cX4_closeSide 23 = .ok (.aload_n 0, 1) := by decide +kernel
theorem dX4_closeSide_24 : decode cX4_closeSide 24 = .ok (.getfield 26, 3) := by decide +kernel
theorem dX4_closeSide_27 : decode cX4_closeSide 27 = .ok (.aload_n 0, 1) := by decide +kernel
theorem dX4_closeSide_28 : decode cX4_closeSide 28 = .ok (.getfield 33, 3) := by decide +kernel
theorem dX4_closeSide_31 : decode cX4_closeSide 31 = .ok (.iconst 1, 1) := by decide +kernel
theorem dX4_closeSide_32 : decode cX4_closeSide 32 = .ok (.isub, 1) := by decide +kernel
theorem dX4_closeSide_33 : decode cX4_closeSide 33 = .ok (.iaload, 1) := by decide +kernel
theorem dX4_closeSide_34 : decode cX4_closeSide 34 = .ok (.istore_n 1, 1) := by decide +kernel
theorem dX4_closeSide_35 : decode cX4_closeSide 35 = .ok (.aload_n 0, 1) := by decide +kernel
theorem dX4_closeSide_36 : decode cX4_closeSide 36 = .ok (.getfield 29, 3) := by decide +kernel
theorem dX4_closeSide_39 : decode cX4_closeSide 39 = .ok (.aload_n 0, 1) := by decide +kernel
theorem dX4_closeSide_40 : decode cX4_closeSide 40 = .ok (.getfield 33, 3) := by decide +kernel
theorem dX4_closeSide_43 : decode cX4_closeSide 43 = .ok (.iconst 1, 1) := by decide +kernel
theorem dX4_closeSide_44 : decode cX4_closeSide 44 = .ok (.isub, 1) := by decide +kernel
theorem dX4_closeSide_45 : decode cX4_closeSide 45 = .ok (.baload, 1) := by decide +kernel
theorem dX4_closeSide_46 : decode cX4_closeSide 46 = .ok (.ifCond .ne 52, 3) := by decide +kernel
theorem dX4_closeSide_49 : decode cX4_closeSide 49 = .ok (.aload_n 0, 1) := by decide +kernel
theorem dX4_closeSide_50 : decode cX4_closeSide 50 = .ok (.getfield 22, 3) := by decide +kernel
theorem dX4_closeSide_53 : decode cX4_closeSide 53 = .ok (.getfield 63, 3) := by decide +kernel
theorem dX4_closeSide_56 : decode cX4_closeSide 56 = .ok (.iload_n 1, 1) := by decide +kernel
theorem dX4_closeSide_57 : decode cX4_closeSide 57 = .ok (.aload_n 0, 1) := by decide +kernel
theorem dX4_closeSide_58 : decode cX4_closeSide 58 = .ok (.getfield 22, 3) := by decide +kernel
theorem dX4_closeSide_61 : decode cX4_closeSide 61 = .ok (.getfield 45, 3) := by decide +kernel
theorem dX4_closeSide_64 : decode cX4_closeSide 64 = .ok (.iastore, 1) := by decide +kernel
theorem dX4_closeSide_65 : decode cX4_closeSide 65 = .ok (.aload_n 0, 1) := by decide +kernel
theorem dX4_closeSide_66 : decode cX4_closeSide 66 = .ok (.invokevirtual 48, 3) := by decide +kernel
theorem dX4_closeSide_69 : decode cX4_closeSide 69 = .ok (.bipush 123, 2) := by decide +kernel
theorem dX4_closeSide_71 : decode cX4_closeSide 71 = .ok (.if_icmp .ne 27, 3) := by decide +kernel
theorem dX4_closeSide_74 : decode cX4_closeSide 74 = .ok (.aload_n 0, 1) := by decide +kernel
theorem dX4_closeSide_75 : decode cX4_closeSide 75 = .ok (.dup, 1) := by decide +kernel
theorem dX4_closeSide_76 : decode cX4_closeSide 76 = .ok (.getfield 36, 3) := by decide +kernel
theorem dX4_closeSide_79 : decode cX4_closeSide 79 = .ok (.iconst 1, 1) := by decide +kernel
theorem dX4_closeSide_80 : decode cX4_closeSide 80 = .ok (.iadd, 1) := by decide +kernel
theorem dX4_closeSide_81 : decode cX4_closeSide 81 = .ok (.putfield 36, 3) := by decide +kernel
theorem dX4_closeSide_84 : decode cX4_closeSide 84 = .ok (.aload_n 0, 1) := by decide +kernel
theorem dX4_closeSide_85 : decode cX4_closeSide 85 = .ok (.getfield 29, 3) := by decide +kernel
theorem dX4_closeSide_88 : decode cX4_closeSide 88 = .ok (.aload_n 0, 1) := by decide +kernel
theorem dX4_closeSide_89 : decode cX4_closeSide 89 = .ok (.getfield 33, 3) := by decide +kernel
theorem dX4_closeSide_92 : decode cX4_closeSide 92 = .ok (.iconst 1, 1) := by decide +kernel
theorem dX4_closeSide_93 : decode cX4_closeSide 93 = .ok (.isub, 1) := by decide +kernel
theorem dX4_closeSide_94 : decode cX4_closeSide 94 = .ok (.iconst 1, 1) := by decide +kernel
theorem dX4_closeSide_95 : decode cX4_closeSide 95 = .ok (.bastore, 1) := by decide +kernel
theorem dX4_closeSide_96 : decode cX4_closeSide 96 = .ok (.iconst 1, 1) := by decide +kernel
theorem dX4_closeSide_97 : decode cX4_closeSide 97 = .ok (.ireturn, 1) := by decide +kernel
theorem dX4_closeSide_98 : decode cX4_closeSide 98 = .ok (.aload_n 0, 1) := by decide +kernel
theorem dX4_closeSide_99 : decode cX4_closeSide 99 = .ok (.getfield 22, 3) := by decide +kernel
theorem dX4_closeSide_102 : decode cX4_closeSide 102 = .ok (.getfield 66, 3) := by decide +kernel
theorem dX4_closeSide_105 : decode cX4_closeSide 105 = .ok (.iload_n 1, 1) := by decide +kernel
theorem dX4_closeSide_106 : decode cX4_closeSide 106 = .ok (.aload_n 0, 1) := by decide +kernel
theorem dX4_closeSide_107 : decode cX4_closeSide 107 = .ok (.getfield 22, 3) := by decide +kernel
theorem dX4_closeSide_110 : decode cX4_closeSide 110 = .ok (.getfield 45, 3) := by decide +kernel
theorem dX4_closeSide_113 : decode cX4_closeSide 113 = .ok (.iastore, 1) := by decide +kernel
theorem dX4_closeSide_114 : decode cX4_closeSide 114 = .ok (.aload_n 0, 1) := by decide +kernel
theorem dX4_closeSide_115 : decode cX4_closeSide 115 = .ok (.dup, 1) := by decide +kernel
theorem dX4_closeSide_116 : decode cX4_closeSide 116 = .ok (.getfield 33, 3) := by decide +kernel
theorem dX4_closeSide_119 : decode cX4_closeSide 119 = .ok (.iconst 1, 1) := by decide +kernel
theorem dX4_closeSide_120 : decode cX4_closeSide 120 = .ok (.isub, 1) := by decide +kernel
theorem dX4_closeSide_121 : decode cX4_closeSide 121 = .ok (.putfield 33, 3) := by decide +kernel
theorem dX4_closeSide_124 : decode cX4_closeSide 124 = .ok (.iconst 1, 1) := by decide +kernel
theorem dX4_closeSide_125 : decode cX4_closeSide 125 = .ok (.ireturn, 1) := by decide +kernel
theorem dX4_takeStatement_0 : decode cX4_takeStatement 0 = .ok (.iload_n 1, 1) := by decide +kernel
theorem dX4_takeStatement_1 : decode cX4_takeStatement 1 = .ok (.invokestatic 69, 3) := by decide +kernel
theorem dX4_takeStatement_4 : decode cX4_takeStatement 4 = .ok (.ifCond .ne 27, 3) := by decide +kernel
theorem dX4_takeStatement_7 : decode cX4_takeStatement 7 = .ok (.iload_n 1, 1) := by decide +kernel
theorem dX4_takeStatement_8 : decode cX4_takeStatement 8 = .ok (.bipush 64, 2) := by decide +kernel
theorem dX4_takeStatement_10 : decode cX4_takeStatement 10 = .ok (.if_icmp .eq 21, 3) := by decide +kernel
theorem dX4_takeStatement_13 : decode cX4_takeStatement 13 = .ok (.iload_n 1, 1) := by decide +kernel
theorem dX4_takeStatement_14 : decode cX4_takeStatement 14 = .ok (.bipush 33, 2) := by decide +kernel
theorem dX4_takeStatement_16 : decode cX4_takeStatement 16 = .ok (.if_icmp .eq 15, 3) := by decide +kernel
theorem dX4_takeStatement_19 : decode cX4_takeStatement 19 = .ok (.iload_n 1, 1) := by decide +kernel
theorem dX4_takeStatement_20 : decode cX4_takeStatement 20 = .ok (.bipush 63, 2) := by decide +kernel
theorem dX4_takeStatement_22 : decode cX4_takeStatement 22 = .ok (.if_icmp .eq 9, 3) := by decide +kernel
theorem dX4_takeStatement_25 : decode cX4_takeStatement 25 = .ok (.aload_n 0, 1) := by decide +kernel
theorem dX4_takeStatement_26 : decode cX4_takeStatement 26 = .ok (.iconst 1, 1) := by decide +kernel
theorem dX4_takeStatement_27 : decode cX4_takeStatement 27 = .ok (.invokevirtual 52, 3) := by decide +kernel
theorem dX4_takeStatement_30 : decode cX4_takeStatement 30 = .ok (.ireturn, 1) := by decide +kernel
theorem dX4_takeStatement_31 : decode cX4_takeStatement 31 = .ok (.aload_n 0, 1) := by decide +kernel
theorem dX4_takeStatement_32 : decode cX4_takeStatement 32 = .ok (.getfield 22, 3) := by decide +kernel
theorem dX4_takeStatement_35 : decode cX4_takeStatement 35 = .ok (.getfield 45, 3) := by decide +kernel
theorem dX4_takeStatement_38 : decode cX4_takeStatement 38 = .ok (.bipush 60, 2) := by decide +kernel
theorem dX4_takeStatement_40 : decode cX4_takeStatement 40 = .ok (.if_icmp .lt 9, 3) := by decide +kernel
theorem dX4_takeStatement_43 : decode cX4_takeStatement 43 = .ok (.aload_n 0, 1) := by decide +kernel
theorem dX4_takeStatement_44 : decode cX4_takeStatement 44 = .ok (.iconst 3, 1) := by decide +kernel
theorem dX4_takeStatement_45 : decode cX4_takeStatement 45 = .ok (.invokevirtual 52, 3) := by decide +kernel
theorem dX4_takeStatement_48 : decode cX4_takeStatement 48 = .ok (.ireturn, 1) := by decide +kernel
theorem dX4_takeStatement_49 : decode cX4_takeStatement 49 = .ok (.iload_n 1, 1) := by decide +kernel
theorem dX4_takeStatement_50 : decode cX4_takeStatement 50 = .ok (.bipush 63, 2) := by decide +kernel
theorem dX4_takeStatement_52 : decode cX4_takeStatement 52 = .ok (.if_icmp .ne 18, 3) := by decide +kernel
theorem dX4_takeStatement_55 : decode cX4_takeStatement 55 = .ok (.aload_n 0, 1) := by decide +kernel
theorem dX4_takeStatement_56 : decode cX4_takeStatement 56 = .ok (.getfield 33, 3) := by decide +kernel
theorem dX4_takeStatement_59 : decode cX4_takeStatement 59 = .ok (.bipush 6, 2) := by decide +kernel
theorem dX4_takeStatement_61 : decode cX4_takeStatement 61 = .ok (.if_icmp .lt 9, 3) := by decide +kernel
theorem dX4_takeStatement_64 : decode cX4_takeStatement 64 = .ok (.aload_n 0, 1) := by decide +kernel
theorem dX4_takeStatement_65 : decode cX4_takeStatement 65 = .ok (.iconst 4, 1) := by decide +kernel
theorem dX4_takeStatement_66 : decode cX4_takeStatement 66 = .ok (.invokevirtual 52, 3) := by decide +kernel
theorem dX4_takeStatement_69 : decode cX4_takeStatement 69 = .ok (.ireturn, 1) := by decide +kernel
theorem dX4_takeStatement_70 : decode cX4_takeStatement 70 = .ok (.aload_n 0, 1) := by decide +kernel
theorem dX4_takeStatement_71 : decode cX4_takeStatement 71 = .ok (.getfield 22, 3) := by decide +kernel
theorem dX4_takeStatement_74 : decode cX4_takeStatement 74 = .ok (.aload_n 0, 1) := by decide +kernel
theorem dX4_takeStatement_75 : decode cX4_takeStatement 75 = .ok (.getfield 33, 3) := by decide +kernel
theorem dX4_takeStatement_78 : decode cX4_takeStatement 78 = .ok (.invokevirtual 72, 3) := by decide +kernel
theorem dX4_takeStatement_81 : decode cX4_takeStatement 81 = .ok (.istore_n 2, 1) := by decide +kernel
theorem dX4_takeStatement_82 : decode cX4_takeStatement 82 = .ok (.aload_n 0, 1) := by decide +kernel
theorem dX4_takeStatement_83 : decode cX4_takeStatement 83 = .ok (.dup, 1) := by decide +kernel
theorem dX4_takeStatement_84 : decode cX4_takeStatement 84 = .ok (.getfield 36, 3) := by decide +kernel
theorem dX4_takeStatement_87 : decode cX4_takeStatement 87 = .ok (.iconst 1, 1) := by decide +kernel
theorem dX4_takeStatement_88 : decode cX4_takeStatement 88 = .ok (.iadd, 1) := by decide +kernel
theorem dX4_takeStatement_89 : decode cX4_takeStatement 89 = .ok (.putfield 36, 3) := by decide +kernel
theorem dX4_takeStatement_92 : decode cX4_takeStatement 92 = .ok (.iload_n 1, 1) := by decide +kernel
theorem dX4_takeStatement_93 : decode cX4_takeStatement 93 = .ok (.lookupswitch 53 #[(33, 41), (63, 47), (64, 35)], 35) := by decide +kernel
theorem dX4_takeStatement_128 : decode cX4_takeStatement 128 = .ok (.aload_n 0, 1) := by decide +kernel
theorem dX4_takeStatement_129 : decode cX4_takeStatement 129 = .ok (.iload_n 2, 1) := by decide +kernel
theorem dX4_takeStatement_130 : decode cX4_takeStatement 130 = .ok (.invokevirtual 76, 3) := by decide +kernel
theorem dX4_takeStatement_133 : decode cX4_takeStatement 133 = .ok (.ireturn, 1) := by decide +kernel
theorem dX4_takeStatement_134 : decode cX4_takeStatement 134 = .ok (.aload_n 0, 1) := by decide +kernel
theorem dX4_takeStatement_135 : decode cX4_takeStatement 135 = .ok (.iload_n 2, 1) := by decide +kernel
theorem dX4_takeStatement_136 : decode cX4_takeStatement 136 = .ok (.invokevirtual 79, 3) := by decide +kernel
theorem dX4_takeStatement_139 : decode cX4_takeStatement 139 = .ok (.ireturn, 1) := by decide +kernel
theorem dX4_takeStatement_140 : decode cX4_takeStatement 140 = .ok (.aload_n 0, 1) := by decide +kernel
theorem dX4_takeStatement_141 : decode cX4_takeStatement 141 = .ok (.iload_n 2, 1) := by decide +kernel
theorem dX4_takeStatement_142 : decode cX4_takeStatement 142 = .ok (.invokevirtual 82, 3) := by decide +kernel
theorem dX4_takeStatement_145 : decode cX4_takeStatement 145 = .ok (.ireturn, 1) := by decide +kernel
theorem dX4_takeStatement_146 : decode cX4_takeStatement 146 = .ok (.aload_n 0, 1) := by decide +kernel
theorem dX4_takeStatement_147 : decode cX4_takeStatement 147 = .ok (.getfield 22, 3) := by decide +kernel
theorem dX4_takeStatement_150 : decode cX4_takeStatement 150 = .ok (.getfield 85, 3) := by decide +kernel
theorem dX4_takeStatement_153 : decode cX4_takeStatement 153 = .ok (.iload_n 2, 1) := by decide +kernel
theorem dX4_takeStatement_154 : decode cX4_takeStatement 154 = .ok (.iload_n 1, 1) := by decide +kernel
theorem dX4_takeStatement_155 : decode cX4_takeStatement 155 = .ok (.bipush 97, 2) := by decide +kernel
theorem dX4_takeStatement_157 : decode cX4_takeStatement 157 = .ok (.isub, 1) := by decide +kernel
theorem dX4_takeStatement_158 : decode cX4_takeStatement 158 = .ok (.iastore, 1) := by decide +kernel
theorem dX4_takeStatement_159 : decode cX4_takeStatement 159 = .ok (.aload_n 0, 1) := by decide +kernel
theorem dX4_takeStatement_160 : decode cX4_takeStatement 160 = .ok (.iload_n 2, 1) := by decide +kernel
theorem dX4_takeStatement_161 : decode cX4_takeStatement 161 = .ok (.invokevirtual 88, 3) := by decide +kernel
theorem dX4_takeStatement_164 : decode cX4_takeStatement 164 = .ok (.ireturn, 1) := by decide +kernel
theorem dX4_takeWrite_0 : decode cX4_takeWrite 0 = .ok (.aload_n 0, 1) := by decide +kernel
theorem dX4_takeWrite_1 : decode cX4_takeWrite 1 = .ok (.getfield 22, 3) := by decide +kernel
theorem dX4_takeWrite_4 : decode cX4_takeWrite 4 = .ok (.getfield 91, 3) := by decide +kernel
theorem dX4_takeWrite_7 : decode cX4_takeWrite 7 = .ok (.iload_n 1, 1) := by decide +kernel
theorem dX4_takeWrite_8 : decode cX4_takeWrite 8 = .ok (.iconst 3, 1) := by decide +kernel
theorem dX4_takeWrite_9 : decode cX4_takeWrite 9 = .ok (.iastore, 1) := by decide +kernel
theorem dX4_takeWrite_10 : decode cX4_takeWrite 10 = .ok (.aload_n 0, 1) := by decide +kernel
theorem dX4_takeWrite_11 : decode cX4_takeWrite 11 = .ok (.iconst 2, 1) := by decide +kernel
theorem dX4_takeWrite_12 : decode cX4_takeWrite 12 = .ok (.iload_n 1, 1) := by decide +kernel
theorem dX4_takeWrite_13 : decode cX4_takeWrite 13 = .ok (.imul, 1) := by decide +kernel
theorem dX4_takeWrite_14 : decode cX4_takeWrite 14 = .ok (.invokevirtual 94, 3) := by decide +kernel
theorem dX4_takeWrite_17 : decode cX4_takeWrite 17 = .ok (.ifCond .eq 37, 3) := by decide +kernel
theorem dX4_takeWrite_20 : decode cX4_takeWrite 20 = .ok (.aload_n 0, 1) := by decide +kernel
theorem dX4_takeWrite_21 : decode cX4_takeWrite 21 = .ok (.bipush 61, 2) := by decide +kernel
theorem dX4_takeWrite_23 : decode cX4_takeWrite 23 = .ok (.invokevirtual 97, 3) := by decide +kernel
theorem dX4_takeWrite_26 : decode cX4_takeWrite 26 = .ok (.ifCond .eq 28, 3) := by decide +kernel
theorem dX4_takeWrite_29 : decode cX4_takeWrite 29 = .ok (.aload_n 0, 1) := by decide +kernel
theorem dX4_takeWrite_30 : decode cX4_takeWrite 30 = .ok (.iconst 2, 1) := by decide +kernel
theorem dX4_takeWrite_31 : decode cX4_takeWrite 31 = .ok (.iload_n 1, 1) := by decide +kernel
theorem dX4_takeWrite_32 : decode cX4_takeWrite 32 = .ok (.imul, 1) := by decide +kernel
theorem dX4_takeWrite_33 : decode cX4_takeWrite 33 = .ok (.iconst 1, 1) := by decide +kernel
theorem dX4_takeWrite_34 : decode cX4_takeWrite 34 = .ok (.iadd, 1) := by decide +kernel
theorem dX4_takeWrite_35 : decode cX4_takeWrite 35 = .ok (.invokevirtual 94, 3) := by decide +kernel
theorem dX4_takeWrite_38 : decode cX4_takeWrite 38 = .ok (.ifCond .eq 16, 3) := by decide +kernel
theorem dX4_takeWrite_41 : decode cX4_takeWrite 41 = .ok (.aload_n 0, 1) := by decide +kernel
theorem dX4_takeWrite_42 : decode cX4_takeWrite 42 = .ok (.bipush 59, 2) := by decide +kernel
theorem dX4_takeWrite_44 : decode cX4_takeWrite 44 = .ok (.invokevirtual 97, 3) := by decide +kernel
theorem dX4_takeWrite_47 : decode cX4_takeWrite 47 = .ok (.ifCond .eq 7, 3) := by decide +kernel
theorem dX4_takeWrite_50 : decode cX4_takeWrite 50 = .ok (.iconst 1, 1) := by decide +kernel
theorem dX4_takeWrite_51 : decode cX4_takeWrite 51 = .ok (.goto 4, 3) := by decide +kernel
theorem dX4_takeWrite_54 : decode cX4_takeWrite 54 = .ok (.iconst 0, 1) := by decide +kernel
theorem dX4_takeWrite_55 : decode cX4_takeWrite 55 = .ok (.ireturn, 1) := by decide +kernel
theorem dX4_takeTelling_0 : decode cX4_takeTelling 0 = .ok (.aload_n 0, 1) := by decide +kernel
theorem dX4_takeTelling_1 : decode cX4_takeTelling 1 = .ok (.getfield 22, 3) := by decide +kernel
theorem dX4_takeTelling_4 : decode cX4_takeTelling 4 = .ok (.getfield 91, 3) := by decide +kernel
theorem dX4_takeTelling_7 : decode cX4_takeTelling 7 = .ok (.iload_n 1, 1) := by decide +kernel
theorem dX4_takeTelling_8 : decode cX4_takeTelling 8 = .ok (.iconst 4, 1) := by decide +kernel
theorem dX4_takeTelling_9 : decode cX4_takeTelling 9 = .ok (.iastore, 1) := by decide +kernel
theorem dX4_takeTelling_10 : decode cX4_takeTelling 10 = .ok (.aload_n 0, 1) := by decide +kernel
theorem dX4_takeTelling_11 : decode cX4_takeTelling 11 = .ok (.iconst 2, 1) := by decide +kernel
theorem dX4_takeTelling_12 : decode cX4_takeTelling 12 = .ok (.iload_n 1, 1) := by decide +kernel
theorem dX4_takeTelling_13 : decode cX4_takeTelling 13 = .ok (.imul, 1) := by decide +kernel
theorem dX4_takeTelling_14 : decode cX4_takeTelling 14 = .ok (.invokevirtual 94, 3) := by decide +kernel
theorem dX4_takeTelling_17 : decode cX4_takeTelling 17 = .ok (.ifCond .eq 16, 3) := by decide +kernel
theorem dX4_takeTelling_20 : decode cX4_takeTelling 20 = .ok (.aload_n 0, 1) := by decide +kernel
theorem dX4_takeTelling_21 : decode cX4_takeTelling 21 = .ok (.bipush 59, 2) := by decide +kernel
theorem dX4_takeTelling_23 : decode cX4_takeTelling 23 = .ok (.invokevirtual 97, 3) := by decide +kernel
theorem dX4_takeTelling_26 : decode cX4_takeTelling 26 = .ok (.ifCond .eq 7, 3) := by decide +kernel
theorem dX4_takeTelling_29 : decode cX4_takeTelling 29 = .ok (.iconst 1, 1) := by decide +kernel
theorem dX4_takeTelling_30 : decode cX4_takeTelling 30 = .ok (.goto 4, 3) := by decide +kernel
theorem dX4_takeTelling_33 : decode cX4_takeTelling 33 = .ok (.iconst 0, 1) := by decide +kernel
theorem dX4_takeTelling_34 : decode cX4_takeTelling 34 = .ok (.ireturn, 1) := by decide +kernel
theorem dX4_takeBranch_0 : decode cX4_takeBranch 0 = .ok (.aload_n 0, 1) := by decide +kernel
theorem dX4_takeBranch_1 : decode cX4_takeBranch 1 = .ok (.getfield 22, 3) := by decide +kernel
theorem dX4_takeBranch_4 : decode cX4_takeBranch 4 = .ok (.getfield 91, 3) := by decide +kernel
theorem dX4_takeBranch_7 : decode cX4_takeBranch 7 = .ok (.iload_n 1, 1) := by decide +kernel
theorem dX4_takeBranch_8 : decode cX4_takeBranch 8 = .ok (.iconst 5, 1) := by decide +kernel
theorem dX4_takeBranch_9 : decode cX4_takeBranch 9 = .ok (.iastore, 1) := by decide +kernel
theorem dX4_takeBranch_10 : decode cX4_takeBranch 10 = .ok (.aload_n 0, 1) := by decide +kernel
theorem dX4_takeBranch_11 : decode cX4_takeBranch 11 = .ok (.iconst 2, 1) := by decide +kernel
theorem dX4_takeBranch_12 : decode cX4_takeBranch 12 = .ok (.iload_n 1, 1) := by decide +kernel
theorem dX4_takeBranch_13 : decode cX4_takeBranch 13 = .ok (.imul, 1) := by decide +kernel
theorem dX4_takeBranch_14 : decode cX4_takeBranch 14 = .ok (.invokevirtual 94, 3) := by decide +kernel
theorem dX4_takeBranch_17 : decode cX4_takeBranch 17 = .ok (.ifCond .ne 5, 3) := by decide +kernel
theorem dX4_takeBranch_20 : decode cX4_takeBranch 20 = .ok (.iconst 0, 1) := by decide +kernel
theorem dX4_takeBranch_21 : decode cX4_takeBranch 21 = .ok (.ireturn, 1) := by decide +kernel
theorem dX4_takeBranch_22 : decode cX4_takeBranch 22 = .ok (.ldc 100, 2) := by decide +kernel
theorem dX4_takeBranch_24 : decode cX4_takeBranch 24 = .ok (.aload_n 0, 1) := by decide +kernel
theorem dX4_takeBranch_25 : decode cX4_takeBranch 25 = .ok (.invokevirtual 48, 3) := by decide +kernel
theorem dX4_takeBranch_28 : decode cX4_takeBranch 28 = .ok (.invokestatic 102, 3) := by decide +kernel
theorem dX4_takeBranch_31 : decode cX4_takeBranch 31 = .ok (.istore_n 2, 1) := by decide +kernel
theorem dX4_takeBranch_32 : decode cX4_takeBranch 32 = .ok (.iload_n 2, 1) := by decide +kernel
theorem dX4_takeBranch_33 : decode cX4_takeBranch 33 = .ok (.iconst (-1), 1) := by decide +kernel
theorem dX4_takeBranch_34 : decode cX4_takeBranch 34 = .ok (.if_icmp .ne 9, 3) := by decide +kernel
theorem dX4_takeBranch_37 : decode cX4_takeBranch 37 = .ok (.aload_n 0, 1) := by decide +kernel
theorem dX4_takeBranch_38 : decode cX4_takeBranch 38 = .ok (.iconst 1, 1) := by decide +kernel
theorem dX4_takeBranch_39 : decode cX4_takeBranch 39 = .ok (.invokevirtual 52, 3) := by decide +kernel
theorem dX4_takeBranch_42 : decode cX4_takeBranch 42 = .ok (.ireturn, 1) := by decide +kernel
theorem dX4_takeBranch_43 : decode cX4_takeBranch 43 = .ok (.aload_n 0, 1) := by decide +kernel
theorem dX4_takeBranch_44 : decode cX4_takeBranch 44 = .ok (.dup, 1) := by decide +kernel
theorem dX4_takeBranch_45 : decode cX4_takeBranch 45 = .ok (.getfield 36, 3) := by decide +kernel
theorem dX4_takeBranch_48 : decode cX4_takeBranch 48 = .ok (.iconst 1, 1) := by decide +kernel
theorem dX4_takeBranch_49 : decode cX4_takeBranch 49 = .ok (.iadd, 1) := by decide +kernel
theorem dX4_takeBranch_50 : decode cX4_takeBranch 50 = .ok (.putfield 36, 3) := by decide +kernel
theorem dX4_takeBranch_53 : decode cX4_takeBranch 53 = .ok (.aload_n 0, 1) := by decide +kernel
theorem dX4_takeBranch_54 : decode cX4_takeBranch 54 = .ok (.getfield 22, 3) := by decide +kernel
theorem dX4_takeBranch_57 : decode cX4_takeBranch 57 = .ok (.getfield 106, 3) := by decide +kernel
theorem dX4_takeBranch_60 : decode cX4_takeBranch 60 = .ok (.iload_n 1, 1) := by decide +kernel
theorem dX4_takeBranch_61 : decode cX4_takeBranch 61 = .ok (.bipush 10, 2) := by decide +kernel
theorem dX4_takeBranch_63 : decode cX4_takeBranch 63 = .ok (.iload_n 2, 1) := by decide +kernel
theorem dX4_takeBranch_64 : decode cX4_takeBranch 64 = .ok (.iadd, 1) := by decide +kernel
theorem dX4_takeBranch_65 : decode cX4_takeBranch 65 = .ok (.iastore, 1) := by decide +kernel
theorem dX4_takeBranch_66 : decode cX4_takeBranch 66 = .ok (.aload_n 0, 1) := by decide +kernel
theorem dX4_takeBranch_67 : decode cX4_takeBranch 67 = .ok (.iconst 2, 1) := by decide +kernel
theorem dX4_takeBranch_68 : decode cX4_takeBranch 68 = .ok (.iload_n 1, 1) := by decide +kernel
theorem dX4_takeBranch_69 : decode cX4_takeBranch 69 = .ok (.imul, 1) := by decide +kernel
theorem dX4_takeBranch_70 : decode cX4_takeBranch 70 = .ok (.iconst 1, 1) := by decide +kernel
theorem dX4_takeBranch_71 : decode cX4_takeBranch 71 = .ok (.iadd, 1) := by decide +kernel
theorem dX4_takeBranch_72 : decode cX4_takeBranch 72 = .ok (.invokevirtual 94, 3) := by decide +kernel
theorem dX4_takeBranch_75 : decode cX4_takeBranch 75 = .ok (.ifCond .eq 12, 3) := by decide +kernel
theorem dX4_takeBranch_78 : decode cX4_takeBranch 78 = .ok (.aload_n 0, 1) := by decide +kernel
theorem dX4_takeBranch_79 : decode cX4_takeBranch 79 = .ok (.bipush 123, 2) := by decide +kernel
theorem dX4_takeBranch_81 : decode cX4_takeBranch 81 = .ok (.invokevirtual 97, 3) := by decide +kernel
theorem dX4_takeBranch_84 : decode cX4_takeBranch 84 = .ok (.ifCond .ne 5, 3) := by decide +kernel
theorem dX4_takeBranch_87 : decode cX4_takeBranch 87 = .ok (.iconst 0, 1) := by decide +kernel
theorem dX4_takeBranch_88 : decode cX4_takeBranch 88 = .ok (.ireturn, 1) := by decide +kernel
theorem dX4_takeBranch_89 : decode cX4_takeBranch 89 = .ok (.aload_n 0, 1) := by decide +kernel
theorem dX4_takeBranch_90 : decode cX4_takeBranch 90 = .ok (.getfield 26, 3) := by decide +kernel
theorem dX4_takeBranch_93 : decode cX4_takeBranch 93 = .ok (.aload_n 0, 1) := by decide +kernel
theorem dX4_takeBranch_94 : decode cX4_takeBranch 94 = .ok (.getfield 33, 3) := by decide +kernel
theorem dX4_takeBranch_97 : decode cX4_takeBranch 97 = .ok (.iload_n 1, 1) := by decide +kernel
theorem dX4_takeBranch_98 : decode cX4_takeBranch 98 = .ok (.iastore, 1) := by decide +kernel
theorem dX4_takeBranch_99 : decode cX4_takeBranch 99 = .ok (.aload_n 0, 1) := by decide +kernel
theorem dX4_takeBranch_100 : decode cX4_takeBranch 100 = .ok (.getfield 29, 3) := by decide +kernel
theorem dX4_takeBranch_103 : decode cX4_takeBranch 103 = .ok (.aload_n 0, 1) := by decide +kernel
theorem dX4_takeBranch_104 : decode cX4_takeBranch 104 = .ok (.getfield 33, 3) := by decide +kernel
theorem dX4_takeBranch_107 : decode cX4_takeBranch 107 = .ok (.iconst 0, 1) := by decide +kernel
theorem dX4_takeBranch_108 : decode cX4_takeBranch 108 = .ok (.bastore, 1) := by decide +kernel
theorem dX4_takeBranch_109 : decode cX4_takeBranch 109 = .ok (.aload_n 0, 1) := by decide +kernel
theorem dX4_takeBranch_110 : decode cX4_takeBranch 110 = .ok (.dup, 1) := by decide +kernel
theorem dX4_takeBranch_111 : decode cX4_takeBranch 111 = .ok (.getfield 33, 3) := by decide +kernel
theorem dX4_takeBranch_114 : decode cX4_takeBranch 114 = .ok (.iconst 1, 1) := by decide +kernel
theorem dX4_takeBranch_115 : decode cX4_takeBranch 115 = .ok (.iadd, 1) := by decide +kernel
theorem dX4_takeBranch_116 : decode cX4_takeBranch 116 = .ok (.putfield 33, 3) := by decide +kernel
theorem dX4_takeBranch_119 : decode cX4_takeBranch 119 = .ok (.iconst 1, 1) := by decide +kernel
theorem dX4_takeBranch_120 : decode cX4_takeBranch 120 = .ok (.ireturn, 1) := by decide +kernel
theorem dX4_takeSetting_0 : decode cX4_takeSetting 0 = .ok (.aload_n 0, 1) := by decide +kernel
theorem dX4_takeSetting_1 : decode cX4_takeSetting 1 = .ok (.bipush 61, 2) := by decide +kernel
theorem dX4_takeSetting_3 : decode cX4_takeSetting 3 = .ok (.invokevirtual 97, 3) := by decide +kernel
theorem dX4_takeSetting_6 : decode cX4_takeSetting 6 = .ok (.ifCond .ne 5, 3) := by decide +kernel
theorem dX4_takeSetting_9 : decode cX4_takeSetting 9 = .ok (.iconst 0, 1) := by decide +kernel
theorem dX4_takeSetting_10 : decode cX4_takeSetting 10 = .ok (.ireturn, 1) := by decide +kernel
theorem dX4_takeSetting_11 : decode cX4_takeSetting 11 = .ok (.aload_n 0, 1) := by decide +kernel
theorem dX4_takeSetting_12 : decode cX4_takeSetting 12 = .ok (.invokevirtual 48, 3) := by decide +kernel
theorem dX4_takeSetting_15 : decode cX4_takeSetting 15 = .ok (.bipush 64, 2) := by decide +kernel
theorem dX4_takeSetting_17 : decode cX4_takeSetting 17 = .ok (.if_icmp .ne 48, 3) := by decide +kernel
theorem dX4_takeSetting_20 : decode cX4_takeSetting 20 = .ok (.aload_n 0, 1) := by decide +kernel
theorem dX4_takeSetting_21 : decode cX4_takeSetting 21 = .ok (.dup, 1) := by decide +kernel
theorem dX4_takeSetting_22 : decode cX4_takeSetting 22 = .ok (.getfield 36, 3) := by decide +kernel
theorem dX4_takeSetting_25 : decode cX4_takeSetting 25 = .ok (.iconst 1, 1) := by decide +kernel
theorem dX4_takeSetting_26 : decode cX4_takeSetting 26 = .ok (.iadd, 1) := by decide +kernel
theorem dX4_takeSetting_27 : decode cX4_takeSetting 27 = .ok (.putfield 36, 3) := by decide +kernel
theorem dX4_takeSetting_30 : decode cX4_takeSetting 30 = .ok (.aload_n 0, 1) := by decide +kernel
theorem dX4_takeSetting_31 : decode cX4_takeSetting 31 = .ok (.getfield 22, 3) := by decide +kernel
theorem dX4_takeSetting_34 : decode cX4_takeSetting 34 = .ok (.getfield 91, 3) := by decide +kernel
theorem dX4_takeSetting_37 : decode cX4_takeSetting 37 = .ok (.iload_n 1, 1) := by decide +kernel
theorem dX4_takeSetting_38 : decode cX4_takeSetting 38 = .ok (.iconst 2, 1) := by decide +kernel
theorem dX4_takeSetting_39 : decode cX4_takeSetting 39 = .ok (.iastore, 1) := by decide +kernel
theorem dX4_takeSetting_40 : decode cX4_takeSetting 40 = .ok (.aload_n 0, 1) := by decide +kernel
theorem dX4_takeSetting_41 : decode cX4_takeSetting 41 = .ok (.iconst 2, 1) := by decide +kernel
theorem dX4_takeSetting_42 : decode cX4_takeSetting 42 = .ok (.iload_n 1, 1) := by decide +kernel
theorem dX4_takeSetting_43 : decode cX4_takeSetting 43 = .ok (.imul, 1) := by decide +kernel
theorem dX4_takeSetting_44 : decode cX4_takeSetting 44 = .ok (.invokevirtual 94, 3) := by decide +kernel
theorem dX4_takeSetting_47 : decode cX4_takeSetting 47 = .ok (.ifCond .eq 16, 3) := by decide +kernel
theorem dX4_takeSetting_50 : decode cX4_takeSetting 50 = .ok (.aload_n 0, 1) := by decide +kernel
theorem dX4_takeSetting_51 : decode cX4_takeSetting 51 = .ok (.bipush 59, 2) := by decide +kernel
theorem dX4_takeSetting_53 : decode cX4_takeSetting 53 = .ok (.invokevirtual 97, 3) := by decide +kernel
theorem dX4_takeSetting_56 : decode cX4_takeSetting 56 = .ok (.ifCond .eq 7, 3) := by decide +kernel
theorem dX4_takeSetting_59 : decode cX4_takeSetting 59 = .ok (.iconst 1, 1) := by decide +kernel
theorem dX4_takeSetting_60 : decode cX4_takeSetting 60 = .ok (.goto 4, 3) := by decide +kernel
theorem dX4_takeSetting_63 : decode cX4_takeSetting 63 = .ok (.iconst 0, 1) := by decide +kernel
theorem dX4_takeSetting_64 : decode cX4_takeSetting 64 = .ok (.ireturn, 1) := by decide +kernel
theorem dX4_takeSetting_65 : decode cX4_takeSetting 65 = .ok (.aload_n 0, 1) := by decide +kernel
theorem dX4_takeSetting_66 : decode cX4_takeSetting 66 = .ok (.iconst 2, 1) := by decide +kernel
theorem dX4_takeSetting_67 : decode cX4_takeSetting 67 = .ok (.iload_n 1, 1) := by decide +kernel
theorem dX4_takeSetting_68 : decode cX4_takeSetting 68 = .ok (.imul, 1) := by decide +kernel
theorem dX4_takeSetting_69 : decode cX4_takeSetting 69 = .ok (.invokevirtual 94, 3) := by decide +kernel
theorem dX4_takeSetting_72 : decode cX4_takeSetting 72 = .ok (.ifCond .ne 5, 3) := by decide +kernel
theorem dX4_takeSetting_75 : decode cX4_takeSetting 75 = .ok (.iconst 0, 1) := by decide +kernel
theorem dX4_takeSetting_76 : decode cX4_takeSetting 76 = .ok (.ireturn, 1) := by decide +kernel
theorem dX4_takeSetting_77 : decode cX4_takeSetting 77 = .ok (.ldc 109, 2) := by decide +kernel
theorem dX4_takeSetting_79 : decode cX4_takeSetting 79 = .ok (.aload_n 0, 1) := by decide +kernel
theorem dX4_takeSetting_80 : decode cX4_takeSetting 80 = .ok (.invokevirtual 48, 3) := by decide +kernel
theorem dX4_takeSetting_83 : decode cX4_takeSetting 83 = .ok (.invokestatic 102, 3) := by decide +kernel
theorem dX4_takeSetting_86 : decode cX4_takeSetting 86 = .ok (.istore_n 2, 1) := by decide +kernel
theorem dX4_takeSetting_87 : decode cX4_takeSetting 87 = .ok (.iload_n 2, 1) := by decide +kernel
theorem dX4_takeSetting_88 : decode cX4_takeSetting 88 = .ok (.iconst (-1), 1) := by decide +kernel
theorem dX4_takeSetting_89 : decode cX4_takeSetting 89 = .ok (.if_icmp .ne 10, 3) := by decide +kernel
theorem dX4_takeSetting_92 : decode cX4_takeSetting 92 = .ok (.aload_n 0, 1) := by decide +kernel
theorem dX4_takeSetting_93 : decode cX4_takeSetting 93 = .ok (.bipush 59, 2) := by decide +kernel
theorem dX4_takeSetting_95 : decode cX4_takeSetting 95 = .ok (.invokevirtual 97, 3) := by decide +kernel
theorem dX4_takeSetting_98 : decode cX4_takeSetting 98 = .ok (.ireturn, 1) := by decide +kernel
theorem dX4_takeSetting_99 : decode cX4_takeSetting 99 = .ok (.aload_n 0, 1) := by decide +kernel
theorem dX4_takeSetting_100 : decode cX4_takeSetting 100 = .ok (.dup, 1) := by decide +kernel
theorem dX4_takeSetting_101 : decode cX4_takeSetting 101 = .ok (.getfield 36, 3) := by decide +kernel
theorem dX4_takeSetting_104 : decode cX4_takeSetting 104 = .ok (.iconst 1, 1) := by decide +kernel
theorem dX4_takeSetting_105 : decode cX4_takeSetting 105 = .ok (.iadd, 1) := by decide +kernel
theorem dX4_takeSetting_106 : decode cX4_takeSetting 106 = .ok (.putfield 36, 3) := by decide +kernel
theorem dX4_takeSetting_109 : decode cX4_takeSetting 109 = .ok (.aload_n 0, 1) := by decide +kernel
theorem dX4_takeSetting_110 : decode cX4_takeSetting 110 = .ok (.getfield 22, 3) := by decide +kernel
theorem dX4_takeSetting_113 : decode cX4_takeSetting 113 = .ok (.getfield 91, 3) := by decide +kernel
theorem dX4_takeSetting_116 : decode cX4_takeSetting 116 = .ok (.iload_n 1, 1) := by decide +kernel
theorem dX4_takeSetting_117 : decode cX4_takeSetting 117 = .ok (.iconst 1, 1) := by decide +kernel
theorem dX4_takeSetting_118 : decode cX4_takeSetting 118 = .ok (.iastore, 1) := by decide +kernel
theorem dX4_takeSetting_119 : decode cX4_takeSetting 119 = .ok (.aload_n 0, 1) := by decide +kernel
theorem dX4_takeSetting_120 : decode cX4_takeSetting 120 = .ok (.getfield 22, 3) := by decide +kernel
theorem dX4_takeSetting_123 : decode cX4_takeSetting 123 = .ok (.getfield 106, 3) := by decide +kernel
theorem dX4_takeSetting_126 : decode cX4_takeSetting 126 = .ok (.iload_n 1, 1) := by decide +kernel
theorem dX4_takeSetting_127 : decode cX4_takeSetting 127 = .ok (.iconst 2, 1) := by decide +kernel
theorem dX4_takeSetting_128 : decode cX4_takeSetting 128 = .ok (.iload_n 2, 1) := by decide +kernel
theorem dX4_takeSetting_129 : decode cX4_takeSetting 129 = .ok (.iadd, 1) := by decide +kernel
theorem dX4_takeSetting_130 : decode cX4_takeSetting 130 = .ok (.iastore, 1) := by decide +kernel
theorem dX4_takeSetting_131 : decode cX4_takeSetting 131 = .ok (.aload_n 0, 1) := by decide +kernel
theorem dX4_takeSetting_132 : decode cX4_takeSetting 132 = .ok (.iconst 2, 1) := by decide +kernel
theorem dX4_takeSetting_133 : decode cX4_takeSetting 133 = .ok (.iload_n 1, 1) := by decide +kernel
theorem dX4_takeSetting_134 : decode cX4_takeSetting 134 = .ok (.imul, 1) := by decide +kernel
theorem dX4_takeSetting_135 : decode cX4_takeSetting 135 = .ok (.iconst 1, 1) := by decide +kernel
theorem dX4_takeSetting_136 : decode cX4_takeSetting 136 = .ok (.iadd, 1) := by decide +kernel
theorem dX4_takeSetting_137 : decode cX4_takeSetting 137 = .ok (.invokevirtual 94, 3) := by decide +kernel
theorem dX4_takeSetting_140 : decode cX4_takeSetting 140 = .ok (.ifCond .eq 16, 3) := by decide +kernel
theorem dX4_takeSetting_143 : decode cX4_takeSetting 143 = .ok (.aload_n 0, 1) := by decide +kernel
theorem dX4_takeSetting_144 : decode cX4_takeSetting 144 = .ok (.bipush 59, 2) := by decide +kernel
theorem dX4_takeSetting_146 : decode cX4_takeSetting 146 = .ok (.invokevirtual 97, 3) := by decide +kernel
theorem dX4_takeSetting_149 : decode cX4_takeSetting 149 = .ok (.ifCond .eq 7, 3) := by decide +kernel
theorem dX4_takeSetting_152 : decode cX4_takeSetting 152 = .ok (.iconst 1, 1) := by decide +kernel
theorem dX4_takeSetting_153 : decode cX4_takeSetting 153 = .ok (.goto 4, 3) := by decide +kernel
theorem dX4_takeSetting_156 : decode cX4_takeSetting 156 = .ok (.iconst 0, 1) := by decide +kernel
theorem dX4_takeSetting_157 : decode cX4_takeSetting 157 = .ok (.ireturn, 1) := by decide +kernel
theorem dX4_takeValue_0 : decode cX4_takeValue 0 = .ok (.aload_n 0, 1) := by decide +kernel
theorem dX4_takeValue_1 : decode cX4_takeValue 1 = .ok (.invokevirtual 48, 3) := by decide +kernel
theorem dX4_takeValue_4 : decode cX4_takeValue 4 = .ok (.istore_n 2, 1) := by decide +kernel
theorem dX4_takeValue_5 : decode cX4_takeValue 5 = .ok (.iload_n 2, 1) := by decide +kernel
theorem dX4_takeValue_6 : decode cX4_takeValue 6 = .ok (.invokestatic 69, 3) := by decide +kernel
theorem dX4_takeValue_9 : decode cX4_takeValue 9 = .ok (.ifCond .eq 28, 3) := by decide +kernel
theorem dX4_takeValue_12 : decode cX4_takeValue 12 = .ok (.aload_n 0, 1) := by decide +kernel
theorem dX4_takeValue_13 : decode cX4_takeValue 13 = .ok (.dup, 1) := by decide +kernel
theorem dX4_takeValue_14 : decode cX4_takeValue 14 = .ok (.getfield 36, 3) := by decide +kernel
theorem dX4_takeValue_17 : decode cX4_takeValue 17 = .ok (.iconst 1, 1) := by decide +kernel
theorem dX4_takeValue_18 : decode cX4_takeValue 18 = .ok (.iadd, 1) := by decide +kernel
theorem dX4_takeValue_19 : decode cX4_takeValue 19 = .ok (.putfield 36, 3) := by decide +kernel
theorem dX4_takeValue_22 : decode cX4_takeValue 22 = .ok (.aload_n 0, 1) := by decide +kernel
theorem dX4_takeValue_23 : decode cX4_takeValue 23 = .ok (.getfield 22, 3) := by decide +kernel
theorem dX4_takeValue_26 : decode cX4_takeValue 26 = .ok (.iload_n 1, 1) := by decide +kernel
theorem dX4_takeValue_27 : decode cX4_takeValue 27 = .ok (.iconst 1, 1) := by decide +kernel
theorem dX4_takeValue_28 : decode cX4_takeValue 28 = .ok (.iload_n 2, 1) := by decide +kernel
theorem dX4_takeValue_29 : decode cX4_takeValue 29 = .ok (.bipush 97, 2) := by decide +kernel
theorem dX4_takeValue_31 : decode cX4_takeValue 31 = .ok (.isub, 1) := by decide +kernel
theorem dX4_takeValue_32 : decode cX4_takeValue 32 = .ok (.invokevirtual 111, 3) := by decide +kernel
theorem dX4_takeValue_35 : decode cX4_takeValue 35 = .ok (.iconst 1, 1) := by decide +kernel
theorem dX4_takeValue_36 : decode cX4_takeValue 36 = .ok (.ireturn, 1) := by decide +kernel
theorem dX4_takeValue_37 : decode cX4_takeValue 37 = .ok (.iload_n 2, 1) := by decide +kernel
theorem dX4_takeValue_38 : decode cX4_takeValue 38 = .ok (.bipush 45, 2) := by decide +kernel
theorem dX4_takeValue_40 : decode cX4_takeValue 40 = .ok (.if_icmp .ne 7, 3) := by decide +kernel
theorem dX4_takeValue_43 : decode cX4_takeValue 43 = .ok (.iconst 1, 1) := by decide +kernel
theorem dX4_takeValue_44 : decode cX4_takeValue 44 = .ok (.goto 4, 3) := by decide +kernel
theorem dX4_takeValue_47 : decode cX4_takeValue 47 = .ok (.iconst 0, 1) := by decide +kernel
theorem dX4_takeValue_48 : decode cX4_takeValue 48 = .ok (.istore_n 3, 1) := by decide +kernel
theorem dX4_takeValue_49 : decode cX4_takeValue 49 = .ok (.iload_n 3, 1) := by decide +kernel
theorem dX4_takeValue_50 : decode cX4_takeValue 50 = .ok (.ifCond .eq 18, 3) := by decide +kernel
theorem dX4_takeValue_53 : decode cX4_takeValue 53 = .ok (.aload_n 0, 1) := by decide +kernel
theorem dX4_takeValue_54 : decode cX4_takeValue 54 = .ok (.dup, 1) := by decide +kernel
theorem dX4_takeValue_55 : decode cX4_takeValue 55 = .ok (.getfield 36, 3) := by decide +kernel
theorem dX4_takeValue_58 : decode cX4_takeValue 58 = .ok (.iconst 1, 1) := by decide +kernel
theorem dX4_takeValue_59 : decode cX4_takeValue 59 = .ok (.iadd, 1) := by decide +kernel
theorem dX4_takeValue_60 : decode cX4_takeValue 60 = .ok (.putfield 36, 3) := by decide +kernel
theorem dX4_takeValue_63 : decode cX4_takeValue 63 = .ok (.aload_n 0, 1) := by decide +kernel
theorem dX4_takeValue_64 : decode cX4_takeValue 64 = .ok (.invokevirtual 48, 3) := by decide +kernel
theorem dX4_takeValue_67 : decode cX4_takeValue 67 = .ok (.istore_n 2, 1) := by decide +kernel
theorem dX4_takeValue_68 : decode cX4_takeValue 68 = .ok (.iload_n 2, 1) := by decide +kernel
theorem dX4_takeValue_69 : decode cX4_takeValue 69 = .ok (.invokestatic 115, 3) := by decide +kernel
theorem dX4_takeValue_72 : decode cX4_takeValue 72 = .ok (.ifCond .eq 12, 3) := by decide +kernel
theorem dX4_takeValue_75 : decode cX4_takeValue 75 = .ok (.aload_n 0, 1) := by decide +kernel
theorem dX4_takeValue_76 : decode cX4_takeValue 76 = .ok (.iload_n 1, 1) := by decide +kernel
theorem dX4_takeValue_77 : decode cX4_takeValue 77 = .ok (.iload_n 3, 1) := by decide +kernel
theorem dX4_takeValue_78 : decode cX4_takeValue 78 = .ok (.invokevirtual 118, 3) := by decide +kernel
theorem dX4_takeValue_81 : decode cX4_takeValue 81 = .ok (.goto 8, 3) := by decide +kernel
theorem dX4_takeValue_84 : decode cX4_takeValue 84 = .ok (.aload_n 0, 1) := by decide +kernel
theorem dX4_takeValue_85 : decode cX4_takeValue 85 = .ok (.iconst 1, 1) := by decide +kernel
theorem dX4_takeValue_86 : decode cX4_takeValue 86 = .ok (.invokevirtual 52, 3) := by decide +kernel
theorem dX4_takeValue_89 : decode cX4_takeValue 89 = .ok (.ireturn, 1) := by decide +kernel
theorem dX4_takeNumber_0 : decode cX4_takeNumber 0 = .ok (.aload_n 0, 1) := by decide +kernel
theorem dX4_takeNumber_1 : decode cX4_takeNumber 1 = .ok (.getfield 36, 3) := by decide +kernel
theorem dX4_takeNumber_4 : decode cX4_takeNumber 4 = .ok (.istore_n 3, 1) := by decide +kernel
theorem dX4_takeNumber_5 : decode cX4_takeNumber 5 = .ok (.lconst 0, 1) := by decide +kernel
theorem dX4_takeNumber_6 : decode cX4_takeNumber 6 = .ok (.lstore 4, 2) := by decide +kernel
theorem dX4_takeNumber_8 : decode cX4_takeNumber 8 = .ok (.aload_n 0, 1) := by decide +kernel
theorem dX4_takeNumber_9 : decode cX4_takeNumber 9 = .ok (.getfield 36, 3) := by decide +kernel
theorem dX4_takeNumber_12 : decode cX4_takeNumber 12 = .ok (.aload_n 0, 1) := by decide +kernel
theorem dX4_takeNumber_13 : decode cX4_takeNumber 13 = .ok (.getfield 15, 3) := by decide +kernel
theorem dX4_takeNumber_16 : decode cX4_takeNumber 16 = .ok (.if_icmp .ge 59, 3) := by decide +kernel
theorem dX4_takeNumber_19 : decode cX4_takeNumber 19 = .ok (.aload_n 0, 1) := by decide +kernel
theorem dX4_takeNumber_20 : decode cX4_takeNumber 20 = .ok (.getfield 9, 3) := by decide +kernel
theorem dX4_takeNumber_23 : decode cX4_takeNumber 23 = .ok (.aload_n 0, 1) := by decide +kernel
theorem dX4_takeNumber_24 : decode cX4_takeNumber 24 = .ok (.getfield 36, 3) := by decide +kernel
theorem dX4_takeNumber_27 : decode cX4_takeNumber 27 = .ok (.iaload, 1) := by decide +kernel
theorem dX4_takeNumber_28 : decode cX4_takeNumber 28 = .ok (.invokestatic 115, 3) := by decide +kernel
theorem dX4_takeNumber_31 : decode cX4_takeNumber 31 = .ok (.ifCond .eq 44, 3) := by decide +kernel
theorem dX4_takeNumber_34 : decode cX4_takeNumber 34 = .ok (.lload 4, 2) := by decide +kernel
theorem dX4_takeNumber_36 : decode cX4_takeNumber 36 = .ok (.ldc2_w 122, 3) := by decide +kernel
theorem dX4_takeNumber_39 : decode cX4_takeNumber 39 = .ok (.lmul, 1) := by decide +kernel
theorem dX4_takeNumber_40 : decode cX4_takeNumber 40 = .ok (.aload_n 0, 1) := by decide +kernel
theorem dX4_takeNumber_41 : decode cX4_takeNumber 41 = .ok (.getfield 9, 3) := by decide +kernel
theorem dX4_takeNumber_44 : decode cX4_takeNumber 44 = .ok (.aload_n 0, 1) := by decide +kernel
theorem dX4_takeNumber_45 : decode cX4_takeNumber 45 = .ok (.getfield 36, 3) := by decide +kernel
theorem dX4_takeNumber_48 : decode cX4_takeNumber 48 = .ok (.iaload, 1) := by decide +kernel
theorem dX4_takeNumber_49 : decode cX4_takeNumber 49 = .ok (.bipush 48, 2) := by decide +kernel
theorem dX4_takeNumber_51 : decode cX4_takeNumber 51 = .ok (.isub, 1) := by decide +kernel
theorem dX4_takeNumber_52 : decode cX4_takeNumber 52 = .ok (.i2l, 1) := by decide +kernel
theorem dX4_takeNumber_53 : decode cX4_takeNumber 53 = .ok (.ladd, 1) := by decide +kernel
theorem dX4_takeNumber_54 : decode cX4_takeNumber 54 = .ok (.ldc2_w 124, 3) := by decide +kernel
theorem dX4_takeNumber_57 : decode cX4_takeNumber 57 = .ok (.invokestatic 126, 3) := by decide +kernel
theorem dX4_takeNumber_60 : decode cX4_takeNumber 60 = .ok (.lstore 4, 2) := by decide +kernel
theorem dX4_takeNumber_62 : decode cX4_takeNumber 62 = .ok (.aload_n 0, 1) := by decide +kernel
theorem dX4_takeNumber_63 : decode cX4_takeNumber 63 = .ok (.dup, 1) := by decide +kernel
theorem dX4_takeNumber_64 : decode cX4_takeNumber 64 = .ok (.getfield 36, 3) := by decide +kernel
theorem dX4_takeNumber_67 : decode cX4_takeNumber 67 = .ok (.iconst 1, 1) := by decide +kernel
theorem dX4_takeNumber_68 : decode cX4_takeNumber 68 = .ok (.iadd, 1) := by decide +kernel
theorem dX4_takeNumber_69 : decode cX4_takeNumber 69 = .ok (.putfield 36, 3) := by decide +kernel
theorem dX4_takeNumber_72 : decode cX4_takeNumber 72 = .ok (.goto (-64), 3) := by decide +kernel
theorem dX4_takeNumber_75 : decode cX4_takeNumber 75 = .ok (.lload 4, 2) := by decide +kernel
theorem dX4_takeNumber_77 : decode cX4_takeNumber 77 = .ok (.ldc2_w 124, 3) := by decide +kernel
theorem dX4_takeNumber_80 : decode cX4_takeNumber 80 = .ok (.lcmp, 1) := by decide +kernel
theorem dX4_takeNumber_81 : decode cX4_takeNumber 81 = .ok (.ifCond .lt 14, 3) := by decide +kernel
theorem dX4_takeNumber_84 : decode cX4_takeNumber 84 = .ok (.aload_n 0, 1) := by decide +kernel
theorem dX4_takeNumber_85 : decode cX4_takeNumber 85 = .ok (.iload_n 3, 1) := by decide +kernel
theorem dX4_takeNumber_86 : decode cX4_takeNumber 86 = .ok (.putfield 36, 3) := by decide +kernel
theorem dX4_takeNumber_89 : decode cX4_takeNumber 89 = .ok (.aload_n 0, 1) := by decide +kernel
theorem dX4_takeNumber_90 : decode cX4_takeNumber 90 = .ok (.iconst 2, 1) := by decide +kernel
theorem dX4_takeNumber_91 : decode cX4_takeNumber 91 = .ok (.invokevirtual 52, 3) := by decide +kernel
theorem dX4_takeNumber_94 : decode cX4_takeNumber 94 = .ok (.ireturn, 1) := by decide +kernel
theorem dX4_takeNumber_95 : decode cX4_takeNumber 95 = .ok (.aload_n 0, 1) := by decide +kernel
theorem dX4_takeNumber_96 : decode cX4_takeNumber 96 = .ok (.getfield 22, 3) := by decide +kernel
theorem dX4_takeNumber_99 : decode cX4_takeNumber 99 = .ok (.iload_n 1, 1) := by decide +kernel
theorem dX4_takeNumber_100 : decode cX4_takeNumber 100 = .ok (.iconst 0, 1) := by decide +kernel
theorem dX4_takeNumber_101 : decode cX4_takeNumber 101 = .ok (.iload_n 2, 1) := by decide +kernel
theorem dX4_takeNumber_102 : decode cX4_takeNumber 102 = .ok (.ifCond .eq 9, 3) := by decide +kernel
theorem dX4_takeNumber_105 : decode cX4_takeNumber 105 = .ok (.lload 4, 2) := by decide +kernel
theorem dX4_takeNumber_107 : decode cX4_takeNumber 107 = .ok (.lneg, 1) := by decide +kernel
theorem dX4_takeNumber_108 : decode cX4_takeNumber 108 = .ok (.goto 5, 3) := by decide +kernel
theorem dX4_takeNumber_111 : decode cX4_takeNumber 111 = .ok (.lload 4, 2) := by decide +kernel
theorem dX4_takeNumber_113 : decode cX4_takeNumber 113 = .ok (.l2i, 1) := by decide +kernel
theorem dX4_takeNumber_114 : decode cX4_takeNumber 114 = .ok (.invokevirtual 111, 3) := by decide +kernel
theorem dX4_takeNumber_117 : decode cX4_takeNumber 117 = .ok (.iconst 1, 1) := by decide +kernel
theorem dX4_takeNumber_118 : decode cX4_takeNumber 118 = .ok (.ireturn, 1) := by decide +kernel
theorem dX4_isVariable_0 : decode cX4_isVariable 0 = .ok (.iload_n 0, 1) := by decide +kernel
theorem dX4_isVariable_1 : decode cX4_isVariable 1 = .ok (.bipush 97, 2) := by decide +kernel
theorem dX4_isVariable_3 : decode cX4_isVariable 3 = .ok (.if_icmp .lt 13, 3) := by decide +kernel
theorem dX4_isVariable_6 : decode cX4_isVariable 6 = .ok (.iload_n 0, 1) := by decide +kernel
theorem dX4_isVariable_7 : decode cX4_isVariable 7 = .ok (.bipush 113, 2) := by decide +kernel
theorem dX4_isVariable_9 : decode cX4_isVariable 9 = .ok (.if_icmp .ge 7, 3) := by decide +kernel
theorem dX4_isVariable_12 : decode cX4_isVariable 12 = .ok (.iconst 1, 1) := by decide +kernel
theorem dX4_isVariable_13 : decode cX4_isVariable 13 = .ok (.goto 4, 3) := by decide +kernel
theorem dX4_isVariable_16 : decode cX4_isVariable 16 = .ok (.iconst 0, 1) := by decide +kernel
theorem dX4_isVariable_17 : decode cX4_isVariable 17 = .ok (.ireturn, 1) := by decide +kernel
theorem dX4_isFigure_0 : decode cX4_isFigure 0 = .ok (.iload_n 0, 1) := by decide +kernel
theorem dX4_isFigure_1 : decode cX4_isFigure 1 = .ok (.bipush 48, 2) := by decide +kernel
theorem dX4_isFigure_3 : decode cX4_isFigure 3 = .ok (.if_icmp .lt 13, 3) := by decide +kernel
theorem dX4_isFigure_6 : decode cX4_isFigure 6 = .ok (.iload_n 0, 1) := by decide +kernel
theorem dX4_isFigure_7 : decode cX4_isFigure 7 = .ok (.bipush 57, 2) := by decide +kernel
theorem dX4_isFigure_9 : decode cX4_isFigure 9 = .ok (.if_icmp .gt 7, 3) := by decide +kernel
theorem dX4_isFigure_12 : decode cX4_isFigure 12 = .ok (.iconst 1, 1) := by decide +kernel
theorem dX4_isFigure_13 : decode cX4_isFigure 13 = .ok (.goto 4, 3) := by decide +kernel
theorem dX4_isFigure_16 : decode cX4_isFigure 16 = .ok (.iconst 0, 1) := by decide +kernel
theorem dX4_isFigure_17 : decode cX4_isFigure 17 = .ok (.ireturn, 1) := by decide +kernel
theorem dX4_placeIn_0 : decode cX4_placeIn 0 = .ok (.iconst 0, 1) := by decide +kernel
theorem dX4_placeIn_1 : decode cX4_placeIn 1 = .ok (.istore_n 2, 1) := by decide +kernel
theorem dX4_placeIn_2 : decode cX4_placeIn 2 = .ok (.iload_n 2, 1) := by decide +kernel
theorem dX4_placeIn_3 : decode cX4_placeIn 3 = .ok (.aload_n 0, 1) := by decide +kernel
theorem dX4_placeIn_4 : decode cX4_placeIn 4 = .ok (.invokevirtual 132, 3) := by decide +kernel
theorem dX4_placeIn_7 : decode cX4_placeIn 7 = .ok (.if_icmp .ge 20, 3) := by decide +kernel
theorem dX4_placeIn_10 : decode cX4_placeIn 10 = .ok (.aload_n 0, 1) := by decide +kernel
theorem dX4_placeIn_11 : decode cX4_placeIn 11 = .ok (.iload_n 2, 1) := by decide +kernel
theorem dX4_placeIn_12 : decode cX4_placeIn 12 = .ok (.invokevirtual 136, 3) := by decide +kernel
theorem dX4_placeIn_15 : decode cX4_placeIn 15 = .ok (.iload_n 1, 1) := by decide +kernel
theorem dX4_placeIn_16 : decode cX4_placeIn 16 = .ok (.if_icmp .ne 5, 3) := by decide +kernel
theorem dX4_placeIn_19 : decode cX4_placeIn 19 = .ok (.iload_n 2, 1) := by decide +kernel
theorem dX4_placeIn_20 : decode cX4_placeIn 20 = .ok (.ireturn, 1) := by decide +kernel
theorem dX4_placeIn_21 : decode cX4_placeIn 21 = .ok (.iinc 2 1, 3) := by decide +kernel
theorem dX4_placeIn_24 : decode cX4_placeIn 24 = .ok (.goto (-22), 3) := by decide +kernel
theorem dX4_placeIn_27 : decode cX4_placeIn 27 = .ok (.iconst (-1), 1) := by decide +kernel
theorem dX4_placeIn_28 : decode cX4_placeIn 28 = .ok (.ireturn, 1) := by decide +kernel
theorem dX5_init_0 : decode cX5_init 0 = .ok (.aload_n 0, 1) := by decide +kernel
theorem dX5_init_1 : decode cX5_init 1 = .ok (.invokespecial 3, 3) := by decide +kernel
theorem dX5_init_4 : decode cX5_init 4 = .ok (.aload_n 0, 1) := by decide +kernel
theorem dX5_init_5 : decode cX5_init 5 = .ok (.bipush 16, 2) := by decide +kernel
theorem dX5_init_7 : decode cX5_init 7 = .ok (.newarray .int, 2) := by decide +kernel
theorem dX5_init_9 : decode cX5_init 9 = .ok (.putfield 9, 3) := by decide +kernel
theorem dX5_init_12 : decode cX5_init 12 = .ok (.aload_n 0, 1) := by decide +kernel
theorem dX5_init_13 : decode cX5_init 13 = .ok (.bipush 32, 2) := by decide +kernel
theorem dX5_init_15 : decode cX5_init 15 = .ok (.newarray .int, 2) := by decide +kernel
theorem dX5_init_17 : decode cX5_init 17 = .ok (.putfield 13, 3) := by decide +kernel
theorem dX5_init_20 : decode cX5_init 20 = .ok (.aload_n 0, 1) := by decide +kernel
theorem dX5_init_21 : decode cX5_init 21 = .ok (.new 16, 3) := by decide +kernel
theorem dX5_init_24 : decode cX5_init 24 = .ok (.dup, 1) := by decide +kernel
theorem dX5_init_25 : decode cX5_init 25 = .ok (.invokespecial 18, 3) := by decide +kernel
theorem dX5_init_28 : decode cX5_init 28 = .ok (.putfield 19, 3) := by decide +kernel
theorem dX5_init_31 : decode cX5_init 31 = .ok (.aload_n 0, 1) := by decide +kernel
theorem dX5_init_32 : decode cX5_init 32 = .ok (.new 23, 3) := by decide +kernel
theorem dX5_init_35 : decode cX5_init 35 = .ok (.dup, 1) := by decide +kernel
theorem dX5_init_36 : decode cX5_init 36 = .ok (.invokespecial 25, 3) := by decide +kernel
theorem dX5_init_39 : decode cX5_init 39 = .ok (.putfield 26, 3) := by decide +kernel
theorem dX5_init_42 : decode cX5_init 42 = .ok (.aload_n 0, 1) := by decide +kernel
theorem dX5_init_43 : decode cX5_init 43 = .ok (.new 30, 3) := by decide +kernel
theorem dX5_init_46 : decode cX5_init 46 = .ok (.dup, 1) := by decide +kernel
theorem dX5_init_47 : decode cX5_init 47 = .ok (.invokespecial 32, 3) := by decide +kernel
theorem dX5_init_50 : decode cX5_init 50 = .ok (.putfield 33, 3) := by decide +kernel
theorem dX5_init_53 : decode cX5_init 53 = .ok (.aload_n 0, 1) := by decide +kernel
theorem dX5_init_54 : decode cX5_init 54 = .ok (.aload_n 0, 1) := by decide +kernel
theorem dX5_init_55 : decode cX5_init 55 = .ok (.getfield 33, 3) := by decide +kernel
theorem dX5_init_58 : decode cX5_init 58 = .ok (.getfield 37, 3) := by decide +kernel
theorem dX5_init_61 : decode cX5_init 61 = .ok (.putfield 41, 3) := by decide +kernel
theorem dX5_init_64 : decode cX5_init 64 = .ok (.aload_n 0, 1) := by decide +kernel
theorem dX5_init_65 : decode cX5_init 65 = .ok (.iconst 0, 1) := by decide +kernel
theorem dX5_init_66 : decode cX5_init 66 = .ok (.putfield 42, 3) := by decide +kernel
theorem dX5_init_69 : decode cX5_init 69 = .ok (.aload_n 0, 1) := by decide +kernel
theorem dX5_init_70 : decode cX5_init 70 = .ok (.new 46, 3) := by decide +kernel
theorem dX5_init_73 : decode cX5_init 73 = .ok (.dup, 1) := by decide +kernel
theorem dX5_init_74 : decode cX5_init 74 = .ok (.invokespecial 48, 3) := by decide +kernel
theorem dX5_init_77 : decode cX5_init 77 = .ok (.putfield 49, 3) := by decide +kernel
theorem dX5_init_80 : decode cX5_init 80 = .ok (.return_, 1) := by decide +kernel
theorem dX5_variable_0 : decode cX5_variable 0 = .ok (.iload_n 1, 1) := by decide +kernel
theorem dX5_variable_1 : decode cX5_variable 1 = .ok (.ifCond .lt 9, 3) := by decide +kernel
theorem dX5_variable_4 : decode cX5_variable 4 = .ok (.iload_n 1, 1) := by decide +kernel
theorem dX5_variable_5 : decode cX5_variable 5 = .ok (.bipush 16, 2) := by decide +kernel
theorem dX5_variable_7 : decode cX5_variable 7 = .ok (.if_icmp .lt 13, 3) := by decide +kernel
theorem dX5_variable_10 : decode cX5_variable 10 = .ok (.new 53, 3) := by decide +kernel
theorem dX5_variable_13 : decode cX5_variable 13 = .ok (.dup, 1) := by decide +kernel
theorem dX5_variable_14 : decode cX5_variable 14 = .ok (.ldc 55, 2) := by decide +kernel
theorem dX5_variable_16 : decode cX5_variable 16 = .ok (.invokespecial 57, 3) := by decide +kernel
theorem dX5_variable_19 : decode cX5_variable 19 = .ok (.athrow, 1) := by decide +kernel
theorem dX5_variable_20 : decode cX5_variable 20 = .ok (.aload_n 0, 1) := by decide +kernel
theorem dX5_variable_21 : decode cX5_variable 21 = .ok (.getfield 9, 3) := by decide +kernel
theorem dX5_variable_24 : decode cX5_variable 24 = .ok (.iload_n 1, 1) := by decide +kernel
theorem dX5_variable_25 : decode cX5_variable 25 = .ok (.iload_n 2, 1) := by decide +kernel
theorem dX5_variable_26 : decode cX5_variable 26 = .ok (.iastore, 1) := by decide +kernel
theorem dX5_variable_27 : decode cX5_variable 27 = .ok (.return_, 1) := by decide +kernel
theorem dX5_word_0 : decode cX5_word 0 = .ok (.iload_n 1, 1) := by decide +kernel
theorem dX5_word_1 : decode cX5_word 1 = .ok (.ifCond .lt 9, 3) := by decide +kernel
theorem dX5_word_4 : decode cX5_word 4 = .ok (.iload_n 1, 1) := by decide +kernel
theorem dX5_word_5 : decode cX5_word 5 = .ok (.bipush 32, 2) := by decide +kernel
theorem dX5_word_7 : decode cX5_word 7 = .ok (.if_icmp .lt 13, 3) := by decide +kernel
theorem dX5_word_10 : decode cX5_word 10 = .ok (.new 53, 3) := by decide +kernel
theorem dX5_word_13 : decode cX5_word 13 = .ok (.dup, 1) := by decide +kernel
theorem dX5_word_14 : decode cX5_word 14 = .ok (.ldc 60, 2) := by decide +kernel
theorem dX5_word_16 : decode cX5_word 16 = .ok (.invokespecial 57, 3) := by decide +kernel
theorem dX5_word_19 : decode cX5_word 19 = .ok (.athrow, 1) := by decide +kernel
theorem dX5_word_20 : decode cX5_word 20 = .ok (.aload_n 0, 1) := by decide +kernel
theorem dX5_word_21 : decode cX5_word 21 = .ok (.getfield 13, 3) := by decide +kernel
theorem dX5_word_24 : decode cX5_word 24 = .ok (.iload_n 1, 1) := by decide +kernel
theorem dX5_word_25 : decode cX5_word 25 = .ok (.iload_n 2, 1) := by decide +kernel
theorem dX5_word_26 : decode cX5_word 26 = .ok (.iastore, 1) := by decide +kernel
theorem dX5_word_27 : decode cX5_word 27 = .ok (.return_, 1) := by decide +kernel
theorem dX5_feed_0 : decode cX5_feed 0 = .ok (.iload_n 3, 1) := by decide +kernel
theorem dX5_feed_1 : decode cX5_feed 1 = .ok (.iconst 1, 1) := by decide +kernel
theorem dX5_feed_2 : decode cX5_feed 2 = .ok (.if_icmp .lt 9, 3) := by decide +kernel
theorem dX5_feed_5 : decode cX5_feed 5 = .ok (.iload_n 3, 1) := by decide +kernel
theorem dX5_feed_6 : decode cX5_feed 6 = .ok (.bipush 8, 2) := by decide +kernel
theorem dX5_feed_8 : decode cX5_feed 8 = .ok (.if_icmp .le 13, 3) := by decide +kernel
theorem dX5_feed_11 : decode cX5_feed 11 = .ok (.new 62, 3) := by decide +kernel
theorem dX5_feed_14 : decode cX5_feed 14 = .ok (.dup, 1) := by decide +kernel
theorem dX5_feed_15 : decode cX5_feed 15 = .ok (.ldc 64, 2) := by decide +kernel
theorem dX5_feed_17 : decode cX5_feed 17 = .ok (.invokespecial 66, 3) := by decide +kernel
theorem dX5_feed_20 : decode cX5_feed 20 = .ok (.athrow, 1) := by decide +kernel
theorem dX5_feed_21 : decode cX5_feed 21 = .ok (.aload_n 0, 1) := by decide +kernel
theorem dX5_feed_22 : decode cX5_feed 22 = .ok (.getfield 19, 3) := by decide +kernel
theorem dX5_feed_25 : decode cX5_feed 25 = .ok (.getfield 67, 3) := by decide +kernel
theorem dX5_feed_28 : decode cX5_feed 28 = .ok (.iload_n 3, 1) := by decide +kernel
theorem dX5_feed_29 : decode cX5_feed 29 = .ok (.iadd, 1) := by decide +kernel
theorem dX5_feed_30 : decode cX5_feed 30 = .ok (.sipush 600, 3) := by decide +kernel
theorem dX5_feed_33 : decode cX5_feed 33 = .ok (.if_icmp .le 13, 3) := by decide +kernel
theorem dX5_feed_36 : decode cX5_feed 36 = .ok (.new 71, 3) := by decide +kernel
theorem dX5_feed_39 : decode cX5_feed 39 = .ok (.dup, 1) := by decide +kernel
theorem dX5_feed_40 : decode cX5_feed 40 = .ok (.ldc 73, 2) := by decide +kernel
theorem dX5_feed_42 : decode cX5_feed 42 = .ok (.invokespecial 75, 3) := by decide +kernel
theorem dX5_feed_45 : decode cX5_feed 45 = .ok (.athrow, 1) := by decide +kernel
theorem dX5_feed_46 : decode cX5_feed 46 = .ok (.iload_n 3, 1) := by decide +kernel
theorem dX5_feed_47 : decode cX5_feed 47 = .ok (.iconst 1, 1) := by decide +kernel
theorem dX5_feed_48 : decode cX5_feed 48 = .ok (.isub, 1) := by decide +kernel
theorem dX5_feed_49 : decode cX5_feed 49 = .ok (.istore 4, 2) := by decide +kernel
theorem dX5_feed_51 : decode cX5_feed 51 = .ok (.iload 4, 2) := by decide +kernel
theorem dX5_feed_53 : decode cX5_feed 53 = .ok (.ifCond .lt 28, 3) := by decide +kernel
theorem dX5_feed_56 : decode cX5_feed 56 = .ok (.aload_n 0, 1) := by decide +kernel
theorem dX5_feed_57 : decode cX5_feed 57 = .ok (.getfield 19, 3) := by decide +kernel
theorem dX5_feed_60 : decode cX5_feed 60 = .ok (.lload_n 1, 1) := by decide +kernel
theorem dX5_feed_61 : decode cX5_feed 61 = .ok (.bipush 8, 2) := by decide +kernel
theorem dX5_feed_63 : decode cX5_feed 63 = .ok (.iload 4, 2) := by decide +kernel
theorem dX5_feed_65 : decode cX5_feed 65 = .ok (.imul, 1) := by decide +kernel
theorem dX5_feed_66 : decode cX5_feed 66 = .ok (.lushr, 1) := by decide +kernel
theorem dX5_feed_67 : decode cX5_feed 67 = .ok (.l2i, 1) := by decide +kernel
theorem dX5_feed_68 : decode cX5_feed 68 = .ok (.sipush 255, 3) := by decide +kernel
theorem dX5_feed_71 : decode cX5_feed 71 = .ok (.iand, 1) := by decide +kernel
theorem dX5_feed_72 : decode cX5_feed 72 = .ok (.invokevirtual 76, 3) := by decide +kernel
theorem dX5_feed_75 : decode cX5_feed 75 = .ok (.iinc 4 (-1), 3) := by decide +kernel
theorem dX5_feed_78 : decode cX5_feed 78 = .ok (.goto (-27), 3) := by decide +kernel
theorem dX5_feed_81 : decode cX5_feed 81 = .ok (.aload_n 0, 1) := by decide +kernel
theorem dX5_feed_82 : decode cX5_feed 82 = .ok (.getfield 19, 3) := by decide +kernel
theorem dX5_feed_85 : decode cX5_feed 85 = .ok (.getfield 67, 3) := by decide +kernel
theorem dX5_feed_88 : decode cX5_feed 88 = .ok (.ireturn, 1) := by decide +kernel
theorem dX5_read_0 : decode cX5_read 0 = .ok (.aload_n 0, 1) := by decide +kernel
theorem dX5_read_1 : decode cX5_read 1 = .ok (.getfield 19, 3) := by decide +kernel
theorem dX5_read_4 : decode cX5_read 4 = .ok (.invokevirtual 80, 3) := by decide +kernel
theorem dX5_read_7 : decode cX5_read 7 = .ok (.ifCond .ne 13, 3) := by decide +kernel
theorem dX5_read_10 : decode cX5_read 10 = .ok (.iconst (-1), 1) := by decide +kernel
theorem dX5_read_11 : decode cX5_read 11 = .ok (.aload_n 0, 1) := by decide +kernel
theorem dX5_read_12 : decode cX5_read 12 = .ok (.getfield 19, 3) := by decide +kernel
theorem dX5_read_15 : decode cX5_read 15 = .ok (.getfield 84, 3) := by decide +kernel
theorem dX5_read_18 : decode cX5_read 18 = .ok (.isub, 1) := by decide +kernel
theorem dX5_read_19 : decode cX5_read 19 = .ok (.ireturn, 1) := by decide +kernel
theorem dX5_read_20 : decode cX5_read 20 = .ok (.aload_n 0, 1) := by decide +kernel
theorem dX5_read_21 : decode cX5_read 21 = .ok (.aload_n 0, 1) := by decide +kernel
theorem dX5_read_22 : decode cX5_read 22 = .ok (.getfield 19, 3) := by decide +kernel
theorem dX5_read_25 : decode cX5_read 25 = .ok (.aload_n 0, 1) := by decide +kernel
theorem dX5_read_26 : decode cX5_read 26 = .ok (.getfield 26, 3) := by decide +kernel
theorem dX5_read_29 : decode cX5_read 29 = .ok (.invokevirtual 87, 3) := by decide +kernel
theorem dX5_read_32 : decode cX5_read 32 = .ok (.putfield 26, 3) := by decide +kernel
theorem dX5_read_35 : decode cX5_read 35 = .ok (.aload_n 0, 1) := by decide +kernel
theorem dX5_read_36 : decode cX5_read 36 = .ok (.iconst 0, 1) := by decide +kernel
theorem dX5_read_37 : decode cX5_read 37 = .ok (.putfield 42, 3) := by decide +kernel
theorem dX5_read_40 : decode cX5_read 40 = .ok (.aload_n 0, 1) := by decide +kernel
theorem dX5_read_41 : decode cX5_read 41 = .ok (.getfield 26, 3) := by decide +kernel
theorem dX5_read_44 : decode cX5_read 44 = .ok (.getfield 91, 3) := by decide +kernel
theorem dX5_read_47 : decode cX5_read 47 = .ok (.ireturn, 1) := by decide +kernel
theorem dX5_fault_0 : decode cX5_fault 0 = .ok (.aload_n 0, 1) := by decide +kernel
theorem dX5_fault_1 : decode cX5_fault 1 = .ok (.getfield 19, 3) := by decide +kernel
theorem dX5_fault_4 : decode cX5_fault 4 = .ok (.getfield 94, 3) := by decide +kernel
theorem dX5_fault_7 : decode cX5_fault 7 = .ok (.ireturn, 1) := by decide +kernel
theorem dX5_statement_0 : decode cX5_statement 0 = .ok (.iload_n 1, 1) := by decide +kernel
theorem dX5_statement_1 : decode cX5_statement 1 = .ok (.ifCond .lt 14, 3) := by decide +kernel
theorem dX5_statement_4 : decode cX5_statement 4 = .ok (.iload_n 1, 1) := by decide +kernel
theorem dX5_statement_5 : decode cX5_statement 5 = .ok (.aload_n 0, 1) := by decide +kernel
theorem dX5_statement_6 : decode cX5_statement 6 = .ok (.getfield 26, 3) := by decide +kernel
theorem dX5_statement_9 : decode cX5_statement 9 = .ok (.getfield 91, 3) := by decide +kernel
theorem dX5_statement_12 : decode cX5_statement 12 = .ok (.if_icmp .lt 13, 3) := by decide +kernel
theorem dX5_statement_15 : decode cX5_statement 15 = .ok (.new 53, 3) := by decide +kernel
theorem dX5_statement_18 : decode cX5_statement 18 = .ok (.dup, 1) := by decide +kernel
theorem dX5_statement_19 : decode cX5_statement 19 = .ok (.ldc 97, 2) := by decide +kernel
theorem dX5_statement_21 : decode cX5_statement 21 = .ok (.invokespecial 57, 3) := by decide +kernel
theorem dX5_statement_24 : decode cX5_statement 24 = .ok (.athrow, 1) := by decide +kernel
theorem dX5_statement_25 : decode cX5_statement 25 = .ok (.iload_n 2, 1) := by decide +kernel
theorem dX5_statement_26 : decode cX5_statement 26 = .ok (.tableswitch 95 0 3 #[30, 40, 50, 75], 30) := by decide +kernel
theorem dX5_statement_56 : decode cX5_statement 56 = .ok (.aload_n 0, 1) := by decide +kernel
theorem dX5_statement_57 : decode cX5_statement 57 = .ok (.getfield 26, 3) := by decide +kernel
theorem dX5_statement_60 : decode cX5_statement 60 = .ok (.getfield 99, 3) := by decide +kernel
theorem dX5_statement_63 : decode cX5_statement 63 = .ok (.iload_n 1, 1) := by decide +kernel
theorem dX5_statement_64 : decode cX5_statement 64 = .ok (.iaload, 1) := by decide +kernel
theorem dX5_statement_65 : decode cX5_statement 65 = .ok (.ireturn, 1) := by decide +kernel
theorem dX5_statement_66 : decode cX5_statement 66 = .ok (.aload_n 0, 1) := by decide +kernel
theorem dX5_statement_67 : decode cX5_statement 67 = .ok (.getfield 26, 3) := by decide +kernel
theorem dX5_statement_70 : decode cX5_statement 70 = .ok (.getfield 102, 3) := by decide +kernel
theorem dX5_statement_73 : decode cX5_statement 73 = .ok (.iload_n 1, 1) := by decide +kernel
theorem dX5_statement_74 : decode cX5_statement 74 = .ok (.iaload, 1) := by decide +kernel
theorem dX5_statement_75 : decode cX5_statement 75 = .ok (.ireturn, 1) := by decide +kernel
theorem dX5_statement_76 : decode cX5_statement 76 = .ok (.aload_n 0, 1) := by decide +kernel
theorem dX5_statement_77 : decode cX5_statement 77 = .ok (.getfield 42, 3) := by decide +kernel
theorem dX5_statement_80 : decode cX5_statement 80 = .ok (.ifCond .eq 19, 3) := by decide +kernel
theorem dX5_statement_83 : decode cX5_statement 83 = .ok (.aload_n 0, 1) := by decide +kernel
theorem dX5_statement_84 : decode cX5_statement 84 = .ok (.getfield 33, 3) := by decide +kernel
theorem dX5_statement_87 : decode cX5_statement 87 = .ok (.getfield 105, 3) := by decide +kernel
theorem dX5_statement_90 : decode cX5_statement 90 = .ok (.iload_n 1, 1) := by decide +kernel
theorem dX5_statement_91 : decode cX5_statement 91 = .ok (.baload, 1) := by decide +kernel
theorem dX5_statement_92 : decode cX5_statement 92 = .ok (.ifCond .eq 7, 3) := by decide +kernel
theorem dX5_statement_95 : decode cX5_statement 95 = .ok (.iconst 1, 1) := by decide +kernel
theorem dX5_statement_96 : decode cX5_statement 96 = .ok (.goto 4, 3) := by decide +kernel
theorem dX5_statement_99 : decode cX5_statement 99 = .ok (.iconst 0, 1) := by decide +kernel
theorem dX5_statement_100 : decode cX5_statement 100 = .ok (.ireturn, 1) := by decide +kernel
theorem dX5_statement_101 : decode cX5_statement 101 = .ok (.aload_n 0, 1) := by decide +kernel
theorem dX5_statement_102 : decode cX5_statement 102 = .ok (.getfield 42, 3) := by decide +kernel
theorem dX5_statement_105 : decode cX5_statement 105 = .ok (.ifCond .eq 14, 3) := by decide +kernel
theorem dX5_statement_108 : decode cX5_statement 108 = .ok (.aload_n 0, 1) := by decide +kernel
theorem dX5_statement_109 : decode cX5_statement 109 = .ok (.getfield 41, 3) := by decide +kernel
theorem dX5_statement_112 : decode cX5_statement 112 = .ok (.iload_n 1, 1) := by decide +kernel
theorem dX5_statement_113 : decode cX5_statement 113 = .ok (.invokevirtual 109, 3) := by decide +kernel
theorem dX5_statement_116 : decode cX5_statement 116 = .ok (.goto 4, 3) := by decide +kernel
theorem dX5_statement_119 : decode cX5_statement 119 = .ok (.iconst 0, 1) := by decide +kernel
theorem dX5_statement_120 : decode cX5_statement 120 = .ok (.ireturn, 1) := by decide +kernel
theorem dX5_statement_121 : decode cX5_statement 121 = .ok (.new 62, 3) := by decide +kernel
theorem dX5_statement_124 : decode cX5_statement 124 = .ok (.dup, 1) := by decide +kernel
theorem dX5_statement_125 : decode cX5_statement 125 = .ok (.ldc 115, 2) := by decide +kernel
theorem dX5_statement_127 : decode cX5_statement 127 = .ok (.invokespecial 66, 3) := by decide +kernel
theorem dX5_statement_130 : decode cX5_statement 130 = .ok (.athrow, 1) := by decide +kernel
theorem dX5_lower_0 : decode cX5_lower 0 = .ok (.iload_n 1, 1) := by decide +kernel
theorem dX5_lower_1 : decode cX5_lower 1 = .ok (.ifCond .lt 10, 3) := by decide +kernel
theorem dX5_lower_4 : decode cX5_lower 4 = .ok (.iload_n 1, 1) := by decide +kernel
theorem dX5_lower_5 : decode cX5_lower 5 = .ok (.sipush 400, 3) := by decide +kernel
theorem dX5_lower_8 : decode cX5_lower 8 = .ok (.if_icmp .le 13, 3) := by decide +kernel
theorem dX5_lower_11 : decode cX5_lower 11 = .ok (.new 62, 3) := by decide +kernel
theorem dX5_lower_14 : decode cX5_lower 14 = .ok (.dup, 1) := by decide +kernel
theorem dX5_lower_15 : decode cX5_lower 15 = .ok (.ldc 117, 2) := by decide +kernel
theorem dX5_lower_17 : decode cX5_lower 17 = .ok (.invokespecial 66, 3) := by decide +kernel
theorem dX5_lower_20 : decode cX5_lower 20 = .ok (.athrow, 1) := by decide +kernel
theorem dX5_lower_21 : decode cX5_lower 21 = .ok (.aload_n 0, 1) := by decide +kernel
theorem dX5_lower_22 : decode cX5_lower 22 = .ok (.getfield 33, 3) := by decide +kernel
theorem dX5_lower_25 : decode cX5_lower 25 = .ok (.aload_n 0, 1) := by decide +kernel
theorem dX5_lower_26 : decode cX5_lower 26 = .ok (.getfield 26, 3) := by decide +kernel
theorem dX5_lower_29 : decode cX5_lower 29 = .ok (.iload_n 1, 1) := by decide +kernel
theorem dX5_lower_30 : decode cX5_lower 30 = .ok (.invokevirtual 119, 3) := by decide +kernel
theorem dX5_lower_33 : decode cX5_lower 33 = .ok (.aload_n 0, 1) := by decide +kernel
theorem dX5_lower_34 : decode cX5_lower 34 = .ok (.iconst 1, 1) := by decide +kernel
theorem dX5_lower_35 : decode cX5_lower 35 = .ok (.putfield 42, 3) := by decide +kernel
theorem dX5_lower_38 : decode cX5_lower 38 = .ok (.aload_n 0, 1) := by decide +kernel
theorem dX5_lower_39 : decode cX5_lower 39 = .ok (.getfield 41, 3) := by decide +kernel
theorem dX5_lower_42 : decode cX5_lower 42 = .ok (.getfield 123, 3) := by decide +kernel
theorem dX5_lower_45 : decode cX5_lower 45 = .ok (.ireturn, 1) := by decide +kernel
theorem dX5_trim_0 : decode cX5_trim 0 = .ok (.aload_n 0, 1) := by decide +kernel
theorem dX5_trim_1 : decode cX5_trim 1 = .ok (.getfield 42, 3) := by decide +kernel
theorem dX5_trim_4 : decode cX5_trim 4 = .ok (.ifCond .eq 13, 3) := by decide +kernel
theorem dX5_trim_7 : decode cX5_trim 7 = .ok (.aload_n 0, 1) := by decide +kernel
theorem dX5_trim_8 : decode cX5_trim 8 = .ok (.getfield 41, 3) := by decide +kernel
theorem dX5_trim_11 : decode cX5_trim 11 = .ok (.invokevirtual 126, 3) := by decide +kernel
theorem dX5_trim_14 : decode cX5_trim 14 = .ok (.goto 4, 3) := by decide +kernel
theorem dX5_trim_17 : decode cX5_trim 17 = .ok (.iconst 0, 1) := by decide +kernel
theorem dX5_trim_18 : decode cX5_trim 18 = .ok (.ireturn, 1) := by decide +kernel
theorem dX5_step_0 : decode cX5_step 0 = .ok (.aload_n 0, 1) := by decide +kernel
theorem dX5_step_1 : decode cX5_step 1 = .ok (.getfield 42, 3) := by decide +kernel
theorem dX5_step_4 : decode cX5_step 4 = .ok (.ifCond .eq 18, 3) := by decide +kernel
theorem dX5_step_7 : decode cX5_step 7 = .ok (.iload_n 1, 1) := by decide +kernel
theorem dX5_step_8 : decode cX5_step 8 = .ok (.ifCond .lt 14, 3) := by decide +kernel
theorem dX5_step_11 : decode cX5_step 11 = .ok (.iload_n 1, 1) := by decide +kernel
theorem dX5_step_12 : decode cX5_step 12 = .ok (.aload_n 0, 1) := by decide +kernel
theorem dX5_step_13 : decode cX5_step 13 = .ok (.getfield 41, 3) := by decide +kernel
theorem dX5_step_16 : decode cX5_step 16 = .ok (.getfield 123, 3) := by decide +kernel
theorem dX5_step_19 : decode cX5_step 19 = .ok (.if_icmp .lt 13, 3) := by decide +kernel
theorem dX5_step_22 : decode cX5_step 22 = .ok (.new 53, 3) := by decide +kernel
theorem dX5_step_25 : decode cX5_step 25 = .ok (.dup, 1) := by decide +kernel
theorem dX5_step_26 : decode cX5_step 26 = .ok (.ldc 130, 2) := by decide +kernel
theorem dX5_step_28 : decode cX5_step 28 = .ok (.invokespecial 57, 3) := by decide +kernel
theorem dX5_step_31 : decode cX5_step 31 = .ok (.athrow, 1) := by decide +kernel
theorem dX5_step_32 : decode cX5_step 32 = .ok (.iload_n 2, 1) := by decide +kernel
theorem dX5_step_33 : decode cX5_step 33 = .ok (.ifCond .lt 9, 3) := by decide +kernel
theorem dX5_step_36 : decode cX5_step 36 = .ok (.iload_n 2, 1) := by decide +kernel
theorem dX5_step_37 : decode cX5_step 37 = .ok (.bipush 6, 2) := by decide +kernel
theorem dX5_step_39 : decode cX5_step 39 = .ok (.if_icmp .lt 13, 3) := by decide +kernel
theorem dX5_step_42 : decode cX5_step 42 = .ok (.new 62, 3) := by decide +kernel
theorem dX5_step_45 : decode cX5_step 45 = .ok (.dup, 1) := by decide +kernel
theorem dX5_step_46 : decode cX5_step 46 = .ok (.ldc 132, 2) := by decide +kernel
theorem dX5_step_48 : decode cX5_step 48 = .ok (.invokespecial 66, 3) := by decide +kernel
theorem dX5_step_51 : decode cX5_step 51 = .ok (.athrow, 1) := by decide +kernel
theorem dX5_step_52 : decode cX5_step 52 = .ok (.aload_n 0, 1) := by decide +kernel
theorem dX5_step_53 : decode cX5_step 53 = .ok (.getfield 41, 3) := by decide +kernel
theorem dX5_step_56 : decode cX5_step 56 = .ok (.getfield 134, 3) := by decide +kernel
theorem dX5_step_59 : decode cX5_step 59 = .ok (.iload_n 2, 1) := by decide +kernel
theorem dX5_step_60 : decode cX5_step 60 = .ok (.aaload, 1) := by decide +kernel
theorem dX5_step_61 : decode cX5_step 61 = .ok (.iload_n 1, 1) := by decide +kernel
theorem dX5_step_62 : decode cX5_step 62 = .ok (.iaload, 1) := by decide +kernel
theorem dX5_step_63 : decode cX5_step 63 = .ok (.ireturn, 1) := by decide +kernel
theorem dX5_tell_0 : decode cX5_tell 0 = .ok (.aload_n 0, 1) := by decide +kernel
theorem dX5_tell_1 : decode cX5_tell 1 = .ok (.getfield 49, 3) := by decide +kernel
theorem dX5_tell_4 : decode cX5_tell 4 = .ok (.aload_n 0, 1) := by decide +kernel
theorem dX5_tell_5 : decode cX5_tell 5 = .ok (.getfield 9, 3) := by decide +kernel
theorem dX5_tell_8 : decode cX5_tell 8 = .ok (.aload_n 0, 1) := by decide +kernel
theorem dX5_tell_9 : decode cX5_tell 9 = .ok (.getfield 13, 3) := by decide +kernel
theorem dX5_tell_12 : decode cX5_tell 12 = .ok (.invokevirtual 138, 3) := by decide +kernel
theorem dX5_tell_15 : decode cX5_tell 15 = .ok (.aload_n 0, 1) := by decide +kernel
theorem dX5_tell_16 : decode cX5_tell 16 = .ok (.getfield 49, 3) := by decide +kernel
theorem dX5_tell_19 : decode cX5_tell 19 = .ok (.aload_n 0, 1) := by decide +kernel
theorem dX5_tell_20 : decode cX5_tell 20 = .ok (.getfield 26, 3) := by decide +kernel
theorem dX5_tell_23 : decode cX5_tell 23 = .ok (.invokevirtual 142, 3) := by decide +kernel
theorem dX5_tell_26 : decode cX5_tell 26 = .ok (.aload_n 0, 1) := by decide +kernel
theorem dX5_tell_27 : decode cX5_tell 27 = .ok (.getfield 49, 3) := by decide +kernel
theorem dX5_tell_30 : decode cX5_tell 30 = .ok (.getfield 146, 3) := by decide +kernel
theorem dX5_tell_33 : decode cX5_tell 33 = .ok (.ireturn, 1) := by decide +kernel
theorem dX5_run_0 : decode cX5_run 0 = .ok (.aload_n 0, 1) := by decide +kernel
theorem dX5_run_1 : decode cX5_run 1 = .ok (.getfield 42, 3) := by decide +kernel
theorem dX5_run_4 : decode cX5_run 4 = .ok (.ifCond .ne 13, 3) := by decide +kernel
theorem dX5_run_7 : decode cX5_run 7 = .ok (.new 71, 3) := by decide +kernel
theorem dX5_run_10 : decode cX5_run 10 = .ok (.dup, 1) := by decide +kernel
theorem dX5_run_11 : decode cX5_run 11 = .ok (.ldc 149, 2) := by decide +kernel
theorem dX5_run_13 : decode cX5_run 13 = .ok (.invokespecial 75, 3) := by decide +kernel
theorem dX5_run_16 : decode cX5_run 16 = .ok (.athrow, 1) := by decide +kernel
theorem dX5_run_17 : decode cX5_run 17 = .ok (.aload_n 0, 1) := by decide +kernel
theorem dX5_run_18 : decode cX5_run 18 = .ok (.getfield 49, 3) := by decide +kernel
theorem dX5_run_21 : decode cX5_run 21 = .ok (.aload_n 0, 1) := by decide +kernel
theorem dX5_run_22 : decode cX5_run 22 = .ok (.getfield 9, 3) := by decide +kernel
theorem dX5_run_25 : decode cX5_run 25 = .ok (.aload_n 0, 1) := by decide +kernel
theorem dX5_run_26 : decode cX5_run 26 = .ok (.getfield 13, 3) := by decide +kernel
theorem dX5_run_29 : decode cX5_run 29 = .ok (.invokevirtual 138, 3) := by decide +kernel
theorem dX5_run_32 : decode cX5_run 32 = .ok (.aload_n 0, 1) := by decide +kernel
theorem dX5_run_33 : decode cX5_run 33 = .ok (.getfield 49, 3) := by decide +kernel
theorem dX5_run_36 : decode cX5_run 36 = .ok (.aload_n 0, 1) := by decide +kernel
theorem dX5_run_37 : decode cX5_run 37 = .ok (.getfield 41, 3) := by decide +kernel
theorem dX5_run_40 : decode cX5_run 40 = .ok (.invokevirtual 151, 3) := by decide +kernel
theorem dX5_run_43 : decode cX5_run 43 = .ok (.aload_n 0, 1) := by decide +kernel
theorem dX5_run_44 : decode cX5_run 44 = .ok (.getfield 49, 3) := by decide +kernel
theorem dX5_run_47 : decode cX5_run 47 = .ok (.getfield 146, 3) := by decide +kernel
theorem dX5_run_50 : decode cX5_run 50 = .ok (.ireturn, 1) := by decide +kernel
theorem dX5_left_0 : decode cX5_left 0 = .ok (.iload_n 1, 1) := by decide +kernel
theorem dX5_left_1 : decode cX5_left 1 = .ok (.ifCond .lt 9, 3) := by decide +kernel
theorem dX5_left_4 : decode cX5_left 4 = .ok (.iload_n 1, 1) := by decide +kernel
theorem dX5_left_5 : decode cX5_left 5 = .ok (.bipush 16, 2) := by decide +kernel
theorem dX5_left_7 : decode cX5_left 7 = .ok (.if_icmp .lt 13, 3) := by decide +kernel
theorem dX5_left_10 : decode cX5_left 10 = .ok (.new 53, 3) := by decide +kernel
theorem dX5_left_13 : decode cX5_left 13 = .ok (.dup, 1) := by decide +kernel
theorem dX5_left_14 : decode cX5_left 14 = .ok (.ldc 55, 2) := by decide +kernel
theorem dX5_left_16 : decode cX5_left 16 = .ok (.invokespecial 57, 3) := by decide +kernel
theorem dX5_left_19 : decode cX5_left 19 = .ok (.athrow, 1) := by decide +kernel
theorem dX5_left_20 : decode cX5_left 20 = .ok (.aload_n 0, 1) := by decide +kernel
theorem dX5_left_21 : decode cX5_left 21 = .ok (.getfield 49, 3) := by decide +kernel
theorem dX5_left_24 : decode cX5_left 24 = .ok (.getfield 155, 3) := by decide +kernel
theorem dX5_left_27 : decode cX5_left 27 = .ok (.iload_n 1, 1) := by decide +kernel
theorem dX5_left_28 : decode cX5_left 28 = .ok (.iaload, 1) := by decide +kernel
theorem dX5_left_29 : decode cX5_left 29 = .ok (.ireturn, 1) := by decide +kernel
theorem dX5_kept_0 : decode cX5_kept 0 = .ok (.iload_n 1, 1) := by decide +kernel
theorem dX5_kept_1 : decode cX5_kept 1 = .ok (.ifCond .lt 9, 3) := by decide +kernel
theorem dX5_kept_4 : decode cX5_kept 4 = .ok (.iload_n 1, 1) := by decide +kernel
theorem dX5_kept_5 : decode cX5_kept 5 = .ok (.bipush 32, 2) := by decide +kernel
theorem dX5_kept_7 : decode cX5_kept 7 = .ok (.if_icmp .lt 13, 3) := by decide +kernel
theorem dX5_kept_10 : decode cX5_kept 10 = .ok (.new 53, 3) := by decide +kernel
theorem dX5_kept_13 : decode cX5_kept 13 = .ok (.dup, 1) := by decide +kernel
theorem dX5_kept_14 : decode cX5_kept 14 = .ok (.ldc 60, 2) := by decide +kernel
theorem dX5_kept_16 : decode cX5_kept 16 = .ok (.invokespecial 57, 3) := by decide +kernel
theorem dX5_kept_19 : decode cX5_kept 19 = .ok (.athrow, 1) := by decide +kernel
theorem dX5_kept_20 : decode cX5_kept 20 = .ok (.aload_n 0, 1) := by decide +kernel
theorem dX5_kept_21 : decode cX5_kept 21 = .ok (.getfield 49, 3) := by decide +kernel
theorem dX5_kept_24 : decode cX5_kept 24 = .ok (.getfield 158, 3) := by decide +kernel
theorem dX5_kept_27 : decode cX5_kept 27 = .ok (.iload_n 1, 1) := by decide +kernel
theorem dX5_kept_28 : decode cX5_kept 28 = .ok (.iaload, 1) := by decide +kernel
theorem dX5_kept_29 : decode cX5_kept 29 = .ok (.ireturn, 1) := by decide +kernel
theorem dX5_output_0 : decode cX5_output 0 = .ok (.iload_n 1, 1) := by decide +kernel
theorem dX5_output_1 : decode cX5_output 1 = .ok (.ifCond .lt 14, 3) := by decide +kernel
theorem dX5_output_4 : decode cX5_output 4 = .ok (.iload_n 1, 1) := by decide +kernel
theorem dX5_output_5 : decode cX5_output 5 = .ok (.aload_n 0, 1) := by decide +kernel
theorem dX5_output_6 : decode cX5_output 6 = .ok (.getfield 49, 3) := by decide +kernel
theorem dX5_output_9 : decode cX5_output 9 = .ok (.getfield 161, 3) := by decide +kernel
theorem dX5_output_12 : decode cX5_output 12 = .ok (.if_icmp .lt 13, 3) := by decide +kernel
theorem dX5_output_15 : decode cX5_output 15 = .ok (.new 53, 3) := by decide +kernel
theorem dX5_output_18 : decode cX5_output 18 = .ok (.dup, 1) := by decide +kernel
theorem dX5_output_19 : decode cX5_output 19 = .ok (.ldc 164, 2) := by decide +kernel
theorem dX5_output_21 : decode cX5_output 21 = .ok (.invokespecial 57, 3) := by decide +kernel
theorem dX5_output_24 : decode cX5_output 24 = .ok (.athrow, 1) := by decide +kernel
theorem dX5_output_25 : decode cX5_output 25 = .ok (.aload_n 0, 1) := by decide +kernel
theorem dX5_output_26 : decode cX5_output 26 = .ok (.getfield 49, 3) := by decide +kernel
theorem dX5_output_29 : decode cX5_output 29 = .ok (.getfield 166, 3) := by decide +kernel
theorem dX5_output_32 : decode cX5_output 32 = .ok (.iload_n 1, 1) := by decide +kernel
theorem dX5_output_33 : decode cX5_output 33 = .ok (.iaload, 1) := by decide +kernel
theorem dX5_output_34 : decode cX5_output 34 = .ok (.ireturn, 1) := by decide +kernel
theorem dX5_count_0 : decode cX5_count 0 = .ok (.iload_n 1, 1) := by decide +kernel
theorem dX5_count_1 : decode cX5_count 1 = .ok (.tableswitch 168 0 8 #[51, 59, 78, 98, 117, 136, 144, 152, 160], 51) := by decide +kernel
theorem dX5_count_52 : decode cX5_count 52 = .ok (.aload_n 0, 1) := by decide +kernel
theorem dX5_count_53 : decode cX5_count 53 = .ok (.getfield 26, 3) := by decide +kernel
theorem dX5_count_56 : decode cX5_count 56 = .ok (.getfield 91, 3) := by decide +kernel
theorem dX5_count_59 : decode cX5_count 59 = .ok (.ireturn, 1) := by decide +kernel
theorem dX5_count_60 : decode cX5_count 60 = .ok (.aload_n 0, 1) := by decide +kernel
theorem dX5_count_61 : decode cX5_count 61 = .ok (.getfield 42, 3) := by decide +kernel
theorem dX5_count_64 : decode cX5_count 64 = .ok (.ifCond .eq 13, 3) := by decide +kernel
theorem dX5_count_67 : decode cX5_count 67 = .ok (.aload_n 0, 1) := by decide +kernel
theorem dX5_count_68 : decode cX5_count 68 = .ok (.getfield 41, 3) := by decide +kernel
theorem dX5_count_71 : decode cX5_count 71 = .ok (.getfield 123, 3) := by decide +kernel
theorem dX5_count_74 : decode cX5_count 74 = .ok (.goto 4, 3) := by decide +kernel
theorem dX5_count_77 : decode cX5_count 77 = .ok (.iconst 0, 1) := by decide +kernel
theorem dX5_count_78 : decode cX5_count 78 = .ok (.ireturn, 1) := by decide +kernel
theorem dX5_count_79 : decode cX5_count 79 = .ok (.aload_n 0, 1) := by decide +kernel
theorem dX5_count_80 : decode cX5_count 80 = .ok (.getfield 42, 3) := by decide +kernel
theorem dX5_count_83 : decode cX5_count 83 = .ok (.ifCond .eq 13, 3) := by decide +kernel
theorem dX5_count_86 : decode cX5_count 86 = .ok (.aload_n 0, 1) := by decide +kernel
theorem dX5_count_87 : decode cX5_count 87 = .ok (.getfield 41, 3) := by decide +kernel
theorem dX5_count_90 : decode cX5_count 90 = .ok (.getfield 169, 3) := by decide +kernel
theorem dX5_count_93 : decode cX5_count 93 = .ok (.goto 5, 3) := by decide +kernel
theorem dX5_count_96 : decode cX5_count 96 = .ok (.bipush 16, 2) := by decide +kernel
theorem dX5_count_98 : decode cX5_count 98 = .ok (.ireturn, 1) := by decide +kernel
theorem dX5_count_99 : decode cX5_count 99 = .ok (.aload_n 0, 1) := by decide +kernel
theorem dX5_count_100 : decode cX5_count 100 = .ok (.getfield 42, 3) := by decide +kernel
theorem dX5_count_103 : decode cX5_count 103 = .ok (.ifCond .eq 13, 3) := by decide +kernel
theorem dX5_count_106 : decode cX5_count 106 = .ok (.aload_n 0, 1) := by decide +kernel
theorem dX5_count_107 : decode cX5_count 107 = .ok (.getfield 41, 3) := by decide +kernel
theorem dX5_count_110 : decode cX5_count 110 = .ok (.invokevirtual 172, 3) := by decide +kernel
theorem dX5_count_113 : decode cX5_count 113 = .ok (.goto 4, 3) := by decide +kernel
theorem dX5_count_116 : decode cX5_count 116 = .ok (.iconst 0, 1) := by decide +kernel
theorem dX5_count_117 : decode cX5_count 117 = .ok (.ireturn, 1) := by decide +kernel
theorem dX5_count_118 : decode cX5_count 118 = .ok (.aload_n 0, 1) := by decide +kernel
theorem dX5_count_119 : decode cX5_count 119 = .ok (.getfield 42, 3) := by decide +kernel
theorem dX5_count_122 : decode cX5_count 122 = .ok (.ifCond .eq 13, 3) := by decide +kernel
theorem dX5_count_125 : decode cX5_count 125 = .ok (.aload_n 0, 1) := by decide +kernel
theorem dX5_count_126 : decode cX5_count 126 = .ok (.getfield 33, 3) := by decide +kernel
theorem dX5_count_129 : decode cX5_count 129 = .ok (.invokevirtual 175, 3) := by decide +kernel
theorem dX5_count_132 : decode cX5_count 132 = .ok (.goto 4, 3) := by decide +kernel
theorem dX5_count_135 : decode cX5_count 135 = .ok (.iconst 0, 1) := by decide +kernel
theorem dX5_count_136 : decode cX5_count 136 = .ok (.ireturn, 1) := by decide +kernel
theorem dX5_count_137 : decode cX5_count 137 = .ok (.aload_n 0, 1) := by decide +kernel
theorem dX5_count_138 : decode cX5_count 138 = .ok (.getfield 49, 3) := by decide +kernel
theorem dX5_count_141 : decode cX5_count 141 = .ok (.getfield 161, 3) := by decide +kernel
theorem dX5_count_144 : decode cX5_count 144 = .ok (.ireturn, 1) := by decide +kernel
theorem dX5_count_145 : decode cX5_count 145 = .ok (.aload_n 0, 1) := by decide +kernel
theorem dX5_count_146 : decode cX5_count 146 = .ok (.getfield 19, 3) := by decide +kernel
theorem dX5_count_149 : decode cX5_count 149 = .ok (.getfield 67, 3) := by decide +kernel
theorem dX5_count_152 : decode cX5_count 152 = .ok (.ireturn, 1) := by decide +kernel
theorem dX5_count_153 : decode cX5_count 153 = .ok (.aload_n 0, 1) := by decide +kernel
theorem dX5_count_154 : decode cX5_count 154 = .ok (.getfield 49, 3) := by decide +kernel
theorem dX5_count_157 : decode cX5_count 157 = .ok (.getfield 178, 3) := by decide +kernel
theorem dX5_count_160 : decode cX5_count 160 = .ok (.ireturn, 1) := by decide +kernel
theorem dX5_count_161 : decode cX5_count 161 = .ok (.aload_n 0, 1) := by decide +kernel
theorem dX5_count_162 : decode cX5_count 162 = .ok (.getfield 49, 3) := by decide +kernel
theorem dX5_count_165 : decode cX5_count 165 = .ok (.getfield 181, 3) := by decide +kernel
theorem dX5_count_168 : decode cX5_count 168 = .ok (.ireturn, 1) := by decide +kernel
theorem dX5_count_169 : decode cX5_count 169 = .ok (.new 62, 3) := by decide +kernel
theorem dX5_count_172 : decode cX5_count 172 = .ok (.dup, 1) := by decide +kernel
theorem dX5_count_173 : decode cX5_count 173 = .ok (.ldc 184, 2) := by decide +kernel
theorem dX5_count_175 : decode cX5_count 175 = .ok (.invokespecial 66, 3) := by decide +kernel
theorem dX5_count_178 : decode cX5_count 178 = .ok (.athrow, 1) := by decide +kernel
theorem dX5_isWord_0 : decode cX5_isWord 0 = .ok (.iload_n 0, 1) := by decide +kernel
theorem dX5_isWord_1 : decode cX5_isWord 1 = .ok (.ifCond .lt 13, 3) := by decide +kernel
theorem dX5_isWord_4 : decode cX5_isWord 4 = .ok (.iload_n 0, 1) := by decide +kernel
theorem dX5_isWord_5 : decode cX5_isWord 5 = .ok (.bipush 32, 2) := by decide +kernel
theorem dX5_isWord_7 : decode cX5_isWord 7 = .ok (.if_icmp .ge 7, 3) := by decide +kernel
theorem dX5_isWord_10 : decode cX5_isWord 10 = .ok (.iconst 1, 1) := by decide +kernel
theorem dX5_isWord_11 : decode cX5_isWord 11 = .ok (.goto 4, 3) := by decide +kernel
theorem dX5_isWord_14 : decode cX5_isWord 14 = .ok (.iconst 0, 1) := by decide +kernel
theorem dX5_isWord_15 : decode cX5_isWord 15 = .ok (.ireturn, 1) := by decide +kernel
theorem dX5_divides_0 : decode cX5_divides 0 = .ok (.iload_n 0, 1) := by decide +kernel
theorem dX5_divides_1 : decode cX5_divides 1 = .ok (.iconst 5, 1) := by decide +kernel
theorem dX5_divides_2 : decode cX5_divides 2 = .ok (.if_icmp .eq 9, 3) := by decide +kernel
theorem dX5_divides_5 : decode cX5_divides 5 = .ok (.iload_n 0, 1) := by decide +kernel
theorem dX5_divides_6 : decode cX5_divides 6 = .ok (.bipush 6, 2) := by decide +kernel
theorem dX5_divides_8 : decode cX5_divides 8 = .ok (.if_icmp .ne 7, 3) := by decide +kernel
theorem dX5_divides_11 : decode cX5_divides 11 = .ok (.iconst 1, 1) := by decide +kernel
theorem dX5_divides_12 : decode cX5_divides 12 = .ok (.goto 4, 3) := by decide +kernel
theorem dX5_divides_15 : decode cX5_divides 15 = .ok (.iconst 0, 1) := by decide +kernel
theorem dX5_divides_16 : decode cX5_divides 16 = .ok (.ireturn, 1) := by decide +kernel
theorem dX5_resultOf_0 : decode cX5_resultOf 0 = .ok (.iload_n 0, 1) := by decide +kernel
theorem dX5_resultOf_1 : decode cX5_resultOf 1 = .ok (.tableswitch 140 2 12 #[59, 63, 67, 71, 83, 95, 99, 103, 107, 118, 129], 59) := by decide +kernel
theorem dX5_resultOf_60 : decode cX5_resultOf 60 = .ok (.iload_n 1, 1) := by decide +kernel
theorem dX5_resultOf_61 : decode cX5_resultOf 61 = .ok (.iload_n 2, 1) := by decide +kernel
theorem dX5_resultOf_62 : decode cX5_resultOf 62 = .ok (.iadd, 1) := by decide +kernel
theorem dX5_resultOf_63 : decode cX5_resultOf 63 = .ok (.ireturn, 1) := by decide +kernel
theorem dX5_resultOf_64 : decode cX5_resultOf 64 = .ok (.iload_n 1, 1) := by decide +kernel
theorem dX5_resultOf_65 : decode cX5_resultOf 65 = .ok (.iload_n 2, 1) := by decide +kernel
theorem dX5_resultOf_66 : decode cX5_resultOf 66 = .ok (.isub, 1) := by decide +kernel
theorem dX5_resultOf_67 : decode cX5_resultOf 67 = .ok (.ireturn, 1) := by decide +kernel
theorem dX5_resultOf_68 : decode cX5_resultOf 68 = .ok (.iload_n 1, 1) := by decide +kernel
theorem dX5_resultOf_69 : decode cX5_resultOf 69 = .ok (.iload_n 2, 1) := by decide +kernel
theorem dX5_resultOf_70 : decode cX5_resultOf 70 = .ok (.imul, 1) := by decide +kernel
theorem dX5_resultOf_71 : decode cX5_resultOf 71 = .ok (.ireturn, 1) := by decide +kernel
theorem dX5_resultOf_72 : decode cX5_resultOf 72 = .ok (.iload_n 2, 1) := by decide +kernel
theorem dX5_resultOf_73 : decode cX5_resultOf 73 = .ok (.ifCond .ne 7, 3) := by decide +kernel
theorem dX5_resultOf_76 : decode cX5_resultOf 76 = .ok (.iconst 0, 1) := by decide +kernel
theorem dX5_resultOf_77 : decode cX5_resultOf 77 = .ok (.goto 6, 3) := by decide +kernel
theorem dX5_resultOf_80 : decode cX5_resultOf 80 = .ok (.iload_n 1, 1) := by decide +kernel
theorem dX5_resultOf_81 : decode cX5_resultOf 81 = .ok (.iload_n 2, 1) := by decide +kernel
theorem dX5_resultOf_82 : decode cX5_resultOf 82 = .ok (.idiv, 1) := by decide +kernel
theorem dX5_resultOf_83 : decode cX5_resultOf 83 = .ok (.ireturn, 1) := by decide +kernel
theorem dX5_resultOf_84 : decode cX5_resultOf 84 = .ok (.iload_n 2, 1) := by decide +kernel
theorem dX5_resultOf_85 : decode cX5_resultOf 85 = .ok (.ifCond .ne 7, 3) := by decide +kernel
theorem dX5_resultOf_88 : decode cX5_resultOf 88 = .ok (.iconst 0, 1) := by decide +kernel
theorem dX5_resultOf_89 : decode cX5_resultOf 89 = .ok (.goto 6, 3) := by decide +kernel
theorem dX5_resultOf_92 : decode cX5_resultOf 92 = .ok (.iload_n 1, 1) := by decide +kernel
theorem dX5_resultOf_93 : decode cX5_resultOf 93 = .ok (.iload_n 2, 1) := by decide +kernel
theorem dX5_resultOf_94 : decode cX5_resultOf 94 = .ok (.irem, 1) := by decide +kernel
theorem dX5_resultOf_95 : decode cX5_resultOf 95 = .ok (.ireturn, 1) := by decide +kernel
theorem dX5_resultOf_96 : decode cX5_resultOf 96 = .ok (.iload_n 1, 1) := by decide +kernel
theorem dX5_resultOf_97 : decode cX5_resultOf 97 = .ok (.iload_n 2, 1) := by decide +kernel
theorem dX5_resultOf_98 : decode cX5_resultOf 98 = .ok (.iand, 1) := by decide +kernel
theorem dX5_resultOf_99 : decode cX5_resultOf 99 = .ok (.ireturn, 1) := by decide +kernel
theorem dX5_resultOf_100 : decode cX5_resultOf 100 = .ok (.iload_n 1, 1) := by decide +kernel
theorem dX5_resultOf_101 : decode cX5_resultOf 101 = .ok (.iload_n 2, 1) := by decide +kernel
theorem dX5_resultOf_102 : decode cX5_resultOf 102 = .ok (.ior, 1) := by decide +kernel
theorem dX5_resultOf_103 : decode cX5_resultOf 103 = .ok (.ireturn, 1) := by decide +kernel
theorem dX5_resultOf_104 : decode cX5_resultOf 104 = .ok (.iload_n 1, 1) := by decide +kernel
theorem dX5_resultOf_105 : decode cX5_resultOf 105 = .ok (.iload_n 2, 1) := by decide +kernel
theorem dX5_resultOf_106 : decode cX5_resultOf 106 = .ok (.ixor, 1) := by decide +kernel
theorem dX5_resultOf_107 : decode cX5_resultOf 107 = .ok (.ireturn, 1) := by decide +kernel
theorem dX5_resultOf_108 : decode cX5_resultOf 108 = .ok (.iload_n 1, 1) := by decide +kernel
theorem dX5_resultOf_109 : decode cX5_resultOf 109 = .ok (.iload_n 2, 1) := by decide +kernel
theorem dX5_resultOf_110 : decode cX5_resultOf 110 = .ok (.if_icmp .ne 7, 3) := by decide +kernel
theorem dX5_resultOf_113 : decode cX5_resultOf 113 = .ok (.iconst 1, 1) := by decide +kernel
theorem dX5_resultOf_114 : decode cX5_resultOf 114 = .ok (.goto 4, 3) := by decide +kernel
theorem dX5_resultOf_117 : decode cX5_resultOf 117 = .ok (.iconst 0, 1) := by decide +kernel
theorem dX5_resultOf_118 : decode cX5_resultOf 118 = .ok (.ireturn, 1) := by decide +kernel
theorem dX5_resultOf_119 : decode cX5_resultOf 119 = .ok (.iload_n 1, 1) := by decide +kernel
theorem dX5_resultOf_120 : decode cX5_resultOf 120 = .ok (.iload_n 2, 1) := by decide +kernel
theorem dX5_resultOf_121 : decode cX5_resultOf 121 = .ok (.if_icmp .eq 7, 3) := by decide +kernel
theorem dX5_resultOf_124 : decode cX5_resultOf 124 = .ok (.iconst 1, 1) := by decide +kernel
theorem dX5_resultOf_125 : decode cX5_resultOf 125 = .ok (.goto 4, 3) := by decide +kernel
theorem dX5_resultOf_128 : decode cX5_resultOf 128 = .ok (.iconst 0, 1) := by decide +kernel
theorem dX5_resultOf_129 : decode cX5_resultOf 129 = .ok (.ireturn, 1) := by decide +kernel
theorem dX5_resultOf_130 : decode cX5_resultOf 130 = .ok (.iload_n 1, 1) := by decide +kernel
theorem dX5_resultOf_131 : decode cX5_resultOf 131 = .ok (.iload_n 2, 1) := by decide +kernel
theorem dX5_resultOf_132 : decode cX5_resultOf 132 = .ok (.if_icmp .ge 7, 3) := by decide +kernel
theorem dX5_resultOf_135 : decode cX5_resultOf 135 = .ok (.iconst 1, 1) := by decide +kernel
theorem dX5_resultOf_136 : decode cX5_resultOf 136 = .ok (.goto 4, 3) := by decide +kernel
theorem dX5_resultOf_139 : decode cX5_resultOf 139 = .ok (.iconst 0, 1) := by decide +kernel
theorem dX5_resultOf_140 : decode cX5_resultOf 140 = .ok (.ireturn, 1) := by decide +kernel
theorem dX5_resultOf_141 : decode cX5_resultOf 141 = .ok (.iconst 0, 1) := by decide +kernel
theorem dX5_resultOf_142 : decode cX5_resultOf 142 = .ok (.ireturn, 1) := by decide +kernel
theorem dX6_init_0 : decode cX6_init 0 = .ok (.aload_n 0, 1) := by decide +kernel
theorem dX6_init_1 : decode cX6_init 1 = .ok (.invokespecial 1, 3) := by decide +kernel
theorem dX6_init_4 : decode cX6_init 4 = .ok (.aload_n 0, 1) := by decide +kernel
theorem dX6_init_5 : decode cX6_init 5 = .ok (.bipush 16, 2) := by decide +kernel
theorem dX6_init_7 : decode cX6_init 7 = .ok (.newarray .int, 2) := by decide +kernel
theorem dX6_init_9 : decode cX6_init 9 = .ok (.putfield 7, 3) := by decide +kernel
theorem dX6_init_12 : decode cX6_init 12 = .ok (.aload_n 0, 1) := by decide +kernel
theorem dX6_init_13 : decode cX6_init 13 = .ok (.bipush 32, 2) := by decide +kernel
theorem dX6_init_15 : decode cX6_init 15 = .ok (.newarray .int, 2) := by decide +kernel
theorem dX6_init_17 : decode cX6_init 17 = .ok (.putfield 13, 3) := by decide +kernel
theorem dX6_init_20 : decode cX6_init 20 = .ok (.aload_n 0, 1) := by decide +kernel
theorem dX6_init_21 : decode cX6_init 21 = .ok (.sipush 600, 3) := by decide +kernel
theorem dX6_init_24 : decode cX6_init 24 = .ok (.newarray .int, 2) := by decide +kernel
theorem dX6_init_26 : decode cX6_init 26 = .ok (.putfield 16, 3) := by decide +kernel
theorem dX6_init_29 : decode cX6_init 29 = .ok (.aload_n 0, 1) := by decide +kernel
theorem dX6_init_30 : decode cX6_init 30 = .ok (.sipush 540, 3) := by decide +kernel
theorem dX6_init_33 : decode cX6_init 33 = .ok (.newarray .int, 2) := by decide +kernel
theorem dX6_init_35 : decode cX6_init 35 = .ok (.putfield 19, 3) := by decide +kernel
theorem dX6_init_38 : decode cX6_init 38 = .ok (.aload_n 0, 1) := by decide +kernel
theorem dX6_init_39 : decode cX6_init 39 = .ok (.sipush 540, 3) := by decide +kernel
theorem dX6_init_42 : decode cX6_init 42 = .ok (.newarray .int, 2) := by decide +kernel
theorem dX6_init_44 : decode cX6_init 44 = .ok (.putfield 22, 3) := by decide +kernel
theorem dX6_init_47 : decode cX6_init 47 = .ok (.aload_n 0, 1) := by decide +kernel
theorem dX6_init_48 : decode cX6_init 48 = .ok (.bipush 60, 2) := by decide +kernel
theorem dX6_init_50 : decode cX6_init 50 = .ok (.newarray .int, 2) := by decide +kernel
theorem dX6_init_52 : decode cX6_init 52 = .ok (.putfield 25, 3) := by decide +kernel
theorem dX6_init_55 : decode cX6_init 55 = .ok (.aload_n 0, 1) := by decide +kernel
theorem dX6_init_56 : decode cX6_init 56 = .ok (.bipush 60, 2) := by decide +kernel
theorem dX6_init_58 : decode cX6_init 58 = .ok (.newarray .int, 2) := by decide +kernel
theorem dX6_init_60 : decode cX6_init 60 = .ok (.putfield 28, 3) := by decide +kernel
theorem dX6_init_63 : decode cX6_init 63 = .ok (.aload_n 0, 1) := by decide +kernel
theorem dX6_init_64 : decode cX6_init 64 = .ok (.bipush 60, 2) := by decide +kernel
theorem dX6_init_66 : decode cX6_init 66 = .ok (.newarray .int, 2) := by decide +kernel
theorem dX6_init_68 : decode cX6_init 68 = .ok (.putfield 31, 3) := by decide +kernel
theorem dX6_init_71 : decode cX6_init 71 = .ok (.aload_n 0, 1) := by decide +kernel
theorem dX6_init_72 : decode cX6_init 72 = .ok (.bipush 60, 2) := by decide +kernel
theorem dX6_init_74 : decode cX6_init 74 = .ok (.newarray .int, 2) := by decide +kernel
theorem dX6_init_76 : decode cX6_init 76 = .ok (.putfield 34, 3) := by decide +kernel
theorem dX6_init_79 : decode cX6_init 79 = .ok (.aload_n 0, 1) := by decide +kernel
theorem dX6_init_80 : decode cX6_init 80 = .ok (.bipush 7, 2) := by decide +kernel
theorem dX6_init_82 : decode cX6_init 82 = .ok (.newarray .int, 2) := by decide +kernel
theorem dX6_init_84 : decode cX6_init 84 = .ok (.putfield 37, 3) := by decide +kernel
theorem dX6_init_87 : decode cX6_init 87 = .ok (.aload_n 0, 1) := by decide +kernel
theorem dX6_init_88 : decode cX6_init 88 = .ok (.bipush 7, 2) := by decide +kernel
theorem dX6_init_90 : decode cX6_init 90 = .ok (.newarray .boolean, 2) := by decide +kernel
theorem dX6_init_92 : decode cX6_init 92 = .ok (.putfield 40, 3) := by decide +kernel
theorem dX6_init_95 : decode cX6_init 95 = .ok (.aload_n 0, 1) := by decide +kernel
theorem dX6_init_96 : decode cX6_init 96 = .ok (.sipush 24000, 3) := by decide +kernel
theorem dX6_init_99 : decode cX6_init 99 = .ok (.newarray .int, 2) := by decide +kernel
theorem dX6_init_101 : decode cX6_init 101 = .ok (.putfield 44, 3) := by decide +kernel
theorem dX6_init_104 : decode cX6_init 104 = .ok (.aload_n 0, 1) := by decide +kernel
theorem dX6_init_105 : decode cX6_init 105 = .ok (.bipush 16, 2) := by decide +kernel
theorem dX6_init_107 : decode cX6_init 107 = .ok (.putfield 47, 3) := by decide +kernel
theorem dX6_init_110 : decode cX6_init 110 = .ok (.aload_n 0, 1) := by decide +kernel
theorem dX6_init_111 : decode cX6_init 111 = .ok (.bipush 60, 2) := by decide +kernel
theorem dX6_init_113 : decode cX6_init 113 = .ok (.newarray .boolean, 2) := by decide +kernel
theorem dX6_init_115 : decode cX6_init 115 = .ok (.putfield 51, 3) := by decide +kernel
theorem dX6_init_118 : decode cX6_init 118 = .ok (.aload_n 0, 1) := by decide +kernel
theorem dX6_init_119 : decode cX6_init 119 = .ok (.bipush 16, 2) := by decide +kernel
theorem dX6_init_121 : decode cX6_init 121 = .ok (.newarray .int, 2) := by decide +kernel
theorem dX6_init_123 : decode cX6_init 123 = .ok (.putfield 54, 3) := by decide +kernel
theorem dX6_init_126 : decode cX6_init 126 = .ok (.aload_n 0, 1) := by decide +kernel
theorem dX6_init_127 : decode cX6_init 127 = .ok (.bipush 8, 2) := by decide +kernel
theorem dX6_init_129 : decode cX6_init 129 = .ok (.newarray .int, 2) := by decide +kernel
theorem dX6_init_131 : decode cX6_init 131 = .ok (.putfield 57, 3) := by decide +kernel
theorem dX6_init_134 : decode cX6_init 134 = .ok (.aload_n 0, 1) := by decide +kernel
theorem dX6_init_135 : decode cX6_init 135 = .ok (.bipush 8, 2) := by decide +kernel
theorem dX6_init_137 : decode cX6_init 137 = .ok (.newarray .boolean, 2) := by decide +kernel
theorem dX6_init_139 : decode cX6_init 139 = .ok (.putfield 60, 3) := by decide +kernel
theorem dX6_init_142 : decode cX6_init 142 = .ok (.aload_n 0, 1) := by decide +kernel
theorem dX6_init_143 : decode cX6_init 143 = .ok (.bipush 8, 2) := by decide +kernel
theorem dX6_init_145 : decode cX6_init 145 = .ok (.newarray .boolean, 2) := by decide +kernel
theorem dX6_init_147 : decode cX6_init 147 = .ok (.putfield 63, 3) := by decide +kernel
theorem dX6_init_150 : decode cX6_init 150 = .ok (.aload_n 0, 1) := by decide +kernel
theorem dX6_init_151 : decode cX6_init 151 = .ok (.bipush 8, 2) := by decide +kernel
theorem dX6_init_153 : decode cX6_init 153 = .ok (.newarray .int, 2) := by decide +kernel
theorem dX6_init_155 : decode cX6_init 155 = .ok (.putfield 66, 3) := by decide +kernel
theorem dX6_init_158 : decode cX6_init 158 = .ok (.aload_n 0, 1) := by decide +kernel
theorem dX6_init_159 : decode cX6_init 159 = .ok (.bipush 8, 2) := by decide +kernel
theorem dX6_init_161 : decode cX6_init 161 = .ok (.newarray .int, 2) := by decide +kernel
theorem dX6_init_163 : decode cX6_init 163 = .ok (.putfield 69, 3) := by decide +kernel
theorem dX6_init_166 : decode cX6_init 166 = .ok (.aload_n 0, 1) := by decide +kernel
theorem dX6_init_167 : decode cX6_init 167 = .ok (.bipush 8, 2) := by decide +kernel
theorem dX6_init_169 : decode cX6_init 169 = .ok (.newarray .int, 2) := by decide +kernel
theorem dX6_init_171 : decode cX6_init 171 = .ok (.putfield 72, 3) := by decide +kernel
theorem dX6_init_174 : decode cX6_init 174 = .ok (.aload_n 0, 1) := by decide +kernel
theorem dX6_init_175 : decode cX6_init 175 = .ok (.sipush 128, 3) := by decide +kernel
theorem dX6_init_178 : decode cX6_init 178 = .ok (.newarray .int, 2) := by decide +kernel
theorem dX6_init_180 : decode cX6_init 180 = .ok (.putfield 75, 3) := by decide +kernel
theorem dX6_init_183 : decode cX6_init 183 = .ok (.aload_n 0, 1) := by decide +kernel
theorem dX6_init_184 : decode cX6_init 184 = .ok (.sipush 128, 3) := by decide +kernel
theorem dX6_init_187 : decode cX6_init 187 = .ok (.newarray .int, 2) := by decide +kernel
theorem dX6_init_189 : decode cX6_init 189 = .ok (.putfield 78, 3) := by decide +kernel
theorem dX6_init_192 : decode cX6_init 192 = .ok (.aload_n 0, 1) := by decide +kernel
theorem dX6_init_193 : decode cX6_init 193 = .ok (.sipush 4000, 3) := by decide +kernel
theorem dX6_init_196 : decode cX6_init 196 = .ok (.newarray .boolean, 2) := by decide +kernel
theorem dX6_init_198 : decode cX6_init 198 = .ok (.putfield 81, 3) := by decide +kernel
theorem dX6_init_201 : decode cX6_init 201 = .ok (.aload_n 0, 1) := by decide +kernel
theorem dX6_init_202 : decode cX6_init 202 = .ok (.bipush 16, 2) := by decide +kernel
theorem dX6_init_204 : decode cX6_init 204 = .ok (.newarray .int, 2) := by decide +kernel
theorem dX6_init_206 : decode cX6_init 206 = .ok (.putfield 84, 3) := by decide +kernel
theorem dX6_init_209 : decode cX6_init 209 = .ok (.aload_n 0, 1) := by decide +kernel
theorem dX6_init_210 : decode cX6_init 210 = .ok (.bipush 32, 2) := by decide +kernel
theorem dX6_init_212 : decode cX6_init 212 = .ok (.newarray .int, 2) := by decide +kernel
theorem dX6_init_214 : decode cX6_init 214 = .ok (.putfield 87, 3) := by decide +kernel
theorem dX6_init_217 : decode cX6_init 217 = .ok (.aload_n 0, 1) := by decide +kernel
theorem dX6_init_218 : decode cX6_init 218 = .ok (.bipush 60, 2) := by decide +kernel
theorem dX6_init_220 : decode cX6_init 220 = .ok (.newarray .int, 2) := by decide +kernel
theorem dX6_init_222 : decode cX6_init 222 = .ok (.putfield 90, 3) := by decide +kernel
theorem dX6_init_225 : decode cX6_init 225 = .ok (.aload_n 0, 1) := by decide +kernel
theorem dX6_init_226 : decode cX6_init 226 = .ok (.iconst (-1), 1) := by decide +kernel
theorem dX6_init_227 : decode cX6_init 227 = .ok (.putfield 93, 3) := by decide +kernel
theorem dX6_init_230 : decode cX6_init 230 = .ok (.aload_n 0, 1) := by decide +kernel
theorem dX6_init_231 : decode cX6_init 231 = .ok (.sipush 4100, 3) := by decide +kernel
theorem dX6_init_234 : decode cX6_init 234 = .ok (.newarray .int, 2) := by decide +kernel
theorem dX6_init_236 : decode cX6_init 236 = .ok (.putfield 96, 3) := by decide +kernel
theorem dX6_init_239 : decode cX6_init 239 = .ok (.aload_n 0, 1) := by decide +kernel
theorem dX6_init_240 : decode cX6_init 240 = .ok (.bipush 60, 2) := by decide +kernel
theorem dX6_init_242 : decode cX6_init 242 = .ok (.newarray .boolean, 2) := by decide +kernel
theorem dX6_init_244 : decode cX6_init 244 = .ok (.putfield 99, 3) := by decide +kernel
theorem dX6_init_247 : decode cX6_init 247 = .ok (.return_, 1) := by decide +kernel
theorem dX6_thrown_0 : decode cX6_thrown 0 = .ok (.aload_n 0, 1) := by decide +kernel
theorem dX6_thrown_1 : decode cX6_thrown 1 = .ok (.getfield 102, 3) := by decide +kernel
theorem dX6_thrown_4 : decode cX6_thrown 4 = .ok (.ireturn, 1) := by decide +kernel
theorem dX6_isIn_0 : decode cX6_isIn 0 = .ok (.lload_n 0, 1) := by decide +kernel
theorem dX6_isIn_1 : decode cX6_isIn 1 = .ok (.lload_n 2, 1) := by decide +kernel
theorem dX6_isIn_2 : decode cX6_isIn 2 = .ok (.lcmp, 1) := by decide +kernel
theorem dX6_isIn_3 : decode cX6_isIn 3 = .ok (.ifCond .lt 14, 3) := by decide +kernel
theorem dX6_isIn_6 : decode cX6_isIn 6 = .ok (.lload_n 0, 1) := by decide +kernel
theorem dX6_isIn_7 : decode cX6_isIn 7 = .ok (.lload 4, 2) := by decide +kernel
theorem dX6_isIn_9 : decode cX6_isIn 9 = .ok (.lcmp, 1) := by decide +kernel
theorem dX6_isIn_10 : decode cX6_isIn 10 = .ok (.ifCond .gt 7, 3) := by decide +kernel
theorem dX6_isIn_13 : decode cX6_isIn 13 = .ok (.iconst 1, 1) := by decide +kernel
theorem dX6_isIn_14 : decode cX6_isIn 14 = .ok (.goto 4, 3) := by decide +kernel
theorem dX6_isIn_17 : decode cX6_isIn 17 = .ok (.iconst 0, 1) := by decide +kernel
theorem dX6_isIn_18 : decode cX6_isIn 18 = .ok (.ireturn, 1) := by decide +kernel
theorem dX6_may_0 : decode cX6_may 0 = .ok (.aload_n 0, 1) := by decide +kernel
theorem dX6_may_1 : decode cX6_may 1 = .ok (.iload_n 1, 1) := by decide +kernel
theorem dX6_may_2 : decode cX6_may 2 = .ok (.ifCond .ne 7, 3) := by decide +kernel
theorem dX6_may_5 : decode cX6_may 5 = .ok (.iconst 1, 1) := by decide +kernel
theorem dX6_may_6 : decode cX6_may 6 = .ok (.goto 12, 3) := by decide +kernel
theorem dX6_may_9 : decode cX6_may 9 = .ok (.iload_n 2, 1) := by decide +kernel
theorem dX6_may_10 : decode cX6_may 10 = .ok (.ifCond .ne 7, 3) := by decide +kernel
theorem dX6_may_13 : decode cX6_may 13 = .ok (.iconst 2, 1) := by decide +kernel
theorem dX6_may_14 : decode cX6_may 14 = .ok (.goto 4, 3) := by decide +kernel
theorem dX6_may_17 : decode cX6_may 17 = .ok (.iconst 0, 1) := by decide +kernel
theorem dX6_may_18 : decode cX6_may 18 = .ok (.putfield 102, 3) := by decide +kernel
theorem dX6_may_21 : decode cX6_may 21 = .ok (.aload_n 0, 1) := by decide +kernel
theorem dX6_may_22 : decode cX6_may 22 = .ok (.getfield 102, 3) := by decide +kernel
theorem dX6_may_25 : decode cX6_may 25 = .ok (.ifCond .ne 7, 3) := by decide +kernel
theorem dX6_may_28 : decode cX6_may 28 = .ok (.iconst 1, 1) := by decide +kernel
theorem dX6_may_29 : decode cX6_may 29 = .ok (.goto 4, 3) := by decide +kernel
theorem dX6_may_32 : decode cX6_may 32 = .ok (.iconst 0, 1) := by decide +kernel
theorem dX6_may_33 : decode cX6_may 33 = .ok (.ireturn, 1) := by decide +kernel
theorem dX6_variable_0 : decode cX6_variable 0 = .ok (.aload_n 0, 1) := by decide +kernel
theorem dX6_variable_1 : decode cX6_variable 1 = .ok (.iload_n 1, 1) := by decide +kernel
theorem dX6_variable_2 : decode cX6_variable 2 = .ok (.i2l, 1) := by decide +kernel
theorem dX6_variable_3 : decode cX6_variable 3 = .ok (.lconst 0, 1) := by decide +kernel
theorem dX6_variable_4 : decode cX6_variable 4 = .ok (.ldc2_w 105, 3) := by decide +kernel
theorem dX6_variable_7 : decode cX6_variable 7 = .ok (.invokestatic 107, 3) := by decide +kernel
theorem dX6_variable_10 : decode cX6_variable 10 = .ok (.iconst 1, 1) := by decide +kernel
theorem dX6_variable_11 : decode cX6_variable 11 = .ok (.invokevirtual 111, 3) := by decide +kernel
theorem dX6_variable_14 : decode cX6_variable 14 = .ok (.ifCond .eq 10, 3) := by decide +kernel
theorem dX6_variable_17 : decode cX6_variable 17 = .ok (.aload_n 0, 1) := by decide +kernel
theorem dX6_variable_18 : decode cX6_variable 18 = .ok (.getfield 7, 3) := by decide +kernel
theorem dX6_variable_21 : decode cX6_variable 21 = .ok (.iload_n 1, 1) := by decide +kernel
theorem dX6_variable_22 : decode cX6_variable 22 = .ok (.iload_n 2, 1) := by decide +kernel
theorem dX6_variable_23 : decode cX6_variable 23 = .ok (.iastore, 1) := by decide +kernel
theorem dX6_variable_24 : decode cX6_variable 24 = .ok (.return_, 1) := by decide +kernel
theorem dX6_word_0 : decode cX6_word 0 = .ok (.aload_n 0, 1) := by decide +kernel
theorem dX6_word_1 : decode cX6_word 1 = .ok (.iload_n 1, 1) := by decide +kernel
theorem dX6_word_2 : decode cX6_word 2 = .ok (.i2l, 1) := by decide +kernel
theorem dX6_word_3 : decode cX6_word 3 = .ok (.lconst 0, 1) := by decide +kernel
theorem dX6_word_4 : decode cX6_word 4 = .ok (.ldc2_w 115, 3) := by decide +kernel
theorem dX6_word_7 : decode cX6_word 7 = .ok (.invokestatic 107, 3) := by decide +kernel
theorem dX6_word_10 : decode cX6_word 10 = .ok (.iconst 1, 1) := by decide +kernel
theorem dX6_word_11 : decode cX6_word 11 = .ok (.invokevirtual 111, 3) := by decide +kernel
theorem dX6_word_14 : decode cX6_word 14 = .ok (.ifCond .eq 10, 3) := by decide +kernel
theorem dX6_word_17 : decode cX6_word 17 = .ok (.aload_n 0, 1) := by decide +kernel
theorem dX6_word_18 : decode cX6_word 18 = .ok (.getfield 13, 3) := by decide +kernel
theorem dX6_word_21 : decode cX6_word 21 = .ok (.iload_n 1, 1) := by decide +kernel
theorem dX6_word_22 : decode cX6_word 22 = .ok (.iload_n 2, 1) := by decide +kernel
theorem dX6_word_23 : decode cX6_word 23 = .ok (.iastore, 1) := by decide +kernel
theorem dX6_word_24 : decode cX6_word 24 = .ok (.return_, 1) := by decide +kernel
theorem dX6_feed_0 : decode cX6_feed 0 = .ok (.aload_n 0, 1) := by decide +kernel
theorem dX6_feed_1 : decode cX6_feed 1 = .ok (.iload_n 3, 1) := by decide +kernel
theorem dX6_feed_2 : decode cX6_feed 2 = .ok (.i2l, 1) := by decide +kernel
theorem dX6_feed_3 : decode cX6_feed 3 = .ok (.lconst 1, 1) := by decide +kernel
theorem dX6_feed_4 : decode cX6_feed 4 = .ok (.ldc2_w 117, 3) := by decide +kernel
theorem dX6_feed_7 : decode cX6_feed 7 = .ok (.invokestatic 107, 3) := by decide +kernel
theorem dX6_feed_10 : decode cX6_feed 10 = .ok (.aload_n 0, 1) := by decide +kernel
theorem dX6_feed_11 : decode cX6_feed 11 = .ok (.getfield 119, 3) := by decide +kernel
theorem dX6_feed_14 : decode cX6_feed 14 = .ok (.iload_n 3, 1) := by decide +kernel
theorem dX6_feed_15 : decode cX6_feed 15 = .ok (.iadd, 1) := by decide +kernel
theorem dX6_feed_16 : decode cX6_feed 16 = .ok (.sipush 600, 3) := by decide +kernel
theorem dX6_feed_19 : decode cX6_feed 19 = .ok (.if_icmp .gt 7, 3) := by decide +kernel
theorem dX6_feed_22 : decode cX6_feed 22 = .ok (.iconst 1, 1) := by decide +kernel
theorem dX6_feed_23 : decode cX6_feed 23 = .ok (.goto 4, 3) := by decide +kernel
theorem dX6_feed_26 : decode cX6_feed 26 = .ok (.iconst 0, 1) := by decide +kernel
theorem dX6_feed_27 : decode cX6_feed 27 = .ok (.invokevirtual 111, 3) := by decide +kernel
theorem dX6_feed_30 : decode cX6_feed 30 = .ok (.ifCond .ne 5, 3) := by decide +kernel
theorem dX6_feed_33 : decode cX6_feed 33 = .ok (.iconst 0, 1) := by decide +kernel
theorem dX6_feed_34 : decode cX6_feed 34 = .ok (.ireturn, 1) := by decide +kernel
theorem dX6_feed_35 : decode cX6_feed 35 = .ok (.iload_n 3, 1) := by decide +kernel
theorem dX6_feed_36 : decode cX6_feed 36 = .ok (.iconst 1, 1) := by decide +kernel
theorem dX6_feed_37 : decode cX6_feed 37 = .ok (.isub, 1) := by decide +kernel
theorem dX6_feed_38 : decode cX6_feed 38 = .ok (.istore 4, 2) := by decide +kernel
theorem dX6_feed_40 : decode cX6_feed 40 = .ok (.iload 4, 2) := by decide +kernel
theorem dX6_feed_42 : decode cX6_feed 42 = .ok (.ifCond .lt 40, 3) := by decide +kernel
theorem dX6_feed_45 : decode cX6_feed 45 = .ok (.aload_n 0, 1) := by decide +kernel
theorem dX6_feed_46 : decode cX6_feed 46 = .ok (.getfield 16, 3) := by decide +kernel
theorem dX6_feed_49 : decode cX6_feed 49 = .ok (.aload_n 0, 1) := by decide +kernel
theorem dX6_feed_50 : decode cX6_feed 50 = .ok (.getfield 119, 3) := by decide +kernel
theorem dX6_feed_53 : decode cX6_feed 53 = .ok (.lload_n 1, 1) := by decide +kernel
theorem dX6_feed_54 : decode cX6_feed 54 = .ok (.bipush 8, 2) := by decide +kernel
theorem dX6_feed_56 : decode cX6_feed 56 = .ok (.iload 4, 2) := by decide +kernel
theorem dX6_feed_58 : decode cX6_feed 58 = .ok (.imul, 1) := by decide +kernel
theorem dX6_feed_59 : decode cX6_feed 59 = .ok (.lshr, 1) := by decide +kernel
theorem dX6_feed_60 : decode cX6_feed 60 = .ok (.ldc2_w 122, 3) := by decide +kernel
theorem dX6_feed_63 : decode cX6_feed 63 = .ok (.land, 1) := by decide +kernel
theorem dX6_feed_64 : decode cX6_feed 64 = .ok (.l2i, 1) := by decide +kernel
theorem dX6_feed_65 : decode cX6_feed 65 = .ok (.iastore, 1) := by decide +kernel
theorem dX6_feed_66 : decode cX6_feed 66 = .ok (.aload_n 0, 1) := by decide +kernel
theorem dX6_feed_67 : decode cX6_feed 67 = .ok (.dup, 1) := by decide +kernel
theorem dX6_feed_68 : decode cX6_feed 68 = .ok (.getfield 119, 3) := by decide +kernel
theorem dX6_feed_71 : decode cX6_feed 71 = .ok (.iconst 1, 1) := by decide +kernel
theorem dX6_feed_72 : decode cX6_feed 72 = .ok (.iadd, 1) := by decide +kernel
theorem dX6_feed_73 : decode cX6_feed 73 = .ok (.putfield 119, 3) := by decide +kernel
theorem dX6_feed_76 : decode cX6_feed 76 = .ok (.iinc 4 (-1), 3) := by decide +kernel
theorem dX6_feed_79 : decode cX6_feed 79 = .ok (.goto (-39), 3) := by decide +kernel
theorem dX6_feed_82 : decode cX6_feed 82 = .ok (.aload_n 0, 1) := by decide +kernel
theorem dX6_feed_83 : decode cX6_feed 83 = .ok (.getfield 119, 3) := by decide +kernel
theorem dX6_feed_86 : decode cX6_feed 86 = .ok (.ireturn, 1) := by decide +kernel
theorem dX6_fail_0 : decode cX6_fail 0 = .ok (.aload_n 0, 1) := by decide +kernel
theorem dX6_fail_1 : decode cX6_fail 1 = .ok (.getfield 124, 3) := by decide +kernel
theorem dX6_fail_4 : decode cX6_fail 4 = .ok (.ifCond .ne 13, 3) := by decide +kernel
theorem dX6_fail_7 : decode cX6_fail 7 = .ok (.aload_n 0, 1) := by decide +kernel
theorem dX6_fail_8 : decode cX6_fail 8 = .ok (.iload_n 1, 1) := by decide +kernel
theorem dX6_fail_9 : decode cX6_fail 9 = .ok (.putfield 124, 3) := by decide +kernel
theorem dX6_fail_12 : decode cX6_fail 12 = .ok (.aload_n 0, 1) := by decide +kernel
theorem dX6_fail_13 : decode cX6_fail 13 = .ok (.iload_n 2, 1) := by decide +kernel
theorem dX6_fail_14 : decode cX6_fail 14 = .ok (.putfield 127, 3) := by decide +kernel
theorem dX6_fail_17 : decode cX6_fail 17 = .ok (.return_, 1) := by decide +kernel
theorem dX6_next_0 : decode cX6_next 0 = .ok (.aload_n 0, 1) := by decide +kernel
theorem dX6_next_1 : decode cX6_next 1 = .ok (.getfield 130, 3) := by decide +kernel
theorem dX6_next_4 : decode cX6_next 4 = .ok (.aload_n 0, 1) := by decide +kernel
theorem dX6_next_5 : decode cX6_next 5 = .ok (.getfield 119, 3) := by decide +kernel
theorem dX6_next_8 : decode cX6_next 8 = .ok (.if_icmp .ge 44, 3) := by decide +kernel
theorem dX6_next_11 : decode cX6_next 11 = .ok (.aload_n 0, 1) := by decide +kernel
theorem dX6_next_12 : decode cX6_next 12 = .ok (.getfield 16, 3) := by decide +kernel
theorem dX6_next_15 : decode cX6_next 15 = .ok (.aload_n 0, 1) := by decide +kernel
theorem dX6_next_16 : decode cX6_next 16 = .ok (.getfield 130, 3) := by decide +kernel
theorem dX6_next_19 : decode cX6_next 19 = .ok (.iaload, 1) := by decide +kernel
theorem dX6_next_20 : decode cX6_next 20 = .ok (.bipush 32, 2) := by decide +kernel
theorem dX6_next_22 : decode cX6_next 22 = .ok (.if_icmp .eq 17, 3) := by decide +kernel
theorem dX6_next_25 : decode cX6_next 25 = .ok (.aload_n 0, 1) := by decide +kernel
theorem dX6_next_26 : decode cX6_next 26 = .ok (.getfield 16, 3) := by decide +kernel
theorem dX6_next_29 : decode cX6_next 29 = .ok (.aload_n 0, 1) := by decide +kernel
theorem dX6_next_30 : decode cX6_next 30 = .ok (.getfield 130, 3) := by decide +kernel
theorem dX6_next_33 : decode cX6_next 33 = .ok (.iaload, 1) := by decide +kernel
theorem dX6_next_34 : decode cX6_next 34 = .ok (.bipush 10, 2) := by decide +kernel
theorem dX6_next_36 : decode cX6_next 36 = .ok (.if_icmp .ne 16, 3) := by decide +kernel
theorem dX6_next_39 : decode cX6_next 39 = .ok (.aload_n 0, 1) := by decide +kernel
theorem dX6_next_40 : decode cX6_next 40 = .ok (.dup, 1) := by decide +kernel
theorem dX6_next_41 : decode cX6_next 41 = .ok (.getfield 130, 3) := by decide +kernel
theorem dX6_next_44 : decode cX6_next 44 = .ok (.iconst 1, 1) := by decide +kernel
theorem dX6_next_45 : decode cX6_next 45 = .ok (.iadd, 1) := by decide +kernel
theorem dX6_next_46 : decode cX6_next 46 = .ok (.putfield 130, 3) := by decide +kernel
theorem dX6_next_49 : decode cX6_next 49 = .ok (.goto (-49), 3) := by decide +kernel
theorem dX6_next_52 : decode cX6_next 52 = .ok (.aload_n 0, 1) := by decide +kernel
theorem dX6_next_53 : decode cX6_next 53 = .ok (.getfield 130, 3) := by decide +kernel
theorem dX6_next_56 : decode cX6_next 56 = .ok (.aload_n 0, 1) := by decide +kernel
theorem dX6_next_57 : decode cX6_next 57 = .ok (.getfield 119, 3) := by decide +kernel
theorem dX6_next_60 : decode cX6_next 60 = .ok (.if_icmp .ge 15, 3) := by decide +kernel
theorem dX6_next_63 : decode cX6_next 63 = .ok (.aload_n 0, 1) := by decide +kernel
theorem dX6_next_64 : decode cX6_next 64 = .ok (.getfield 16, 3) := by decide +kernel
theorem dX6_next_67 : decode cX6_next 67 = .ok (.aload_n 0, 1) := by decide +kernel
theorem dX6_next_68 : decode cX6_next 68 = .ok (.getfield 130, 3) := by decide +kernel
theorem dX6_next_71 : decode cX6_next 71 = .ok (.iaload, 1) := by decide +kernel
theorem dX6_next_72 : decode cX6_next 72 = .ok (.goto 4, 3) := by decide +kernel
theorem dX6_next_75 : decode cX6_next 75 = .ok (.iconst (-1), 1) := by decide +kernel
theorem dX6_next_76 : decode cX6_next 76 = .ok (.ireturn, 1) := by decide +kernel
theorem dX6_take_0 : decode cX6_take 0 = .ok (.aload_n 0, 1) := by decide +kernel
theorem dX6_take_1 : decode cX6_take 1 = .ok (.getfield 124, 3) := by decide +kernel
theorem dX6_take_4 : decode cX6_take 4 = .ok (.ifCond .le 4, 3) := by decide +kernel
theorem dX6_take_7 : decode cX6_take 7 = .ok (.return_, 1) := by decide +kernel
theorem dX6_take_8 : decode cX6_take 8 = .ok (.aload_n 0, 1) := by decide +kernel
theorem dX6_take_9 : decode cX6_take 9 = .ok (.invokevirtual 133, 3) := by decide +kernel
theorem dX6_take_12 : decode cX6_take 12 = .ok (.iload_n 1, 1) := by decide +kernel
theorem dX6_take_13 : decode cX6_take 13 = .ok (.if_icmp .eq 13, 3) := by decide +kernel
theorem dX6_take_16 : decode cX6_take 16 = .ok (.aload_n 0, 1) := by decide +kernel
theorem dX6_take_17 : decode cX6_take 17 = .ok (.iconst 1, 1) := by decide +kernel
theorem dX6_take_18 : decode cX6_take 18 = .ok (.aload_n 0, 1) := by decide +kernel
theorem dX6_take_19 : decode cX6_take 19 = .ok (.getfield 130, 3) := by decide +kernel
theorem dX6_take_22 : decode cX6_take 22 = .ok (.invokevirtual 137, 3) := by decide +kernel
theorem dX6_take_25 : decode cX6_take 25 = .ok (.return_, 1) := by decide +kernel
theorem dX6_take_26 : decode cX6_take 26 = .ok (.aload_n 0, 1) := by decide +kernel
theorem dX6_take_27 : decode cX6_take 27 = .ok (.dup, 1) := by decide +kernel
theorem dX6_take_28 : decode cX6_take 28 = .ok (.getfield 130, 3) := by decide +kernel
theorem dX6_take_31 : decode cX6_take 31 = .ok (.iconst 1, 1) := by decide +kernel
theorem dX6_take_32 : decode cX6_take 32 = .ok (.iadd, 1) := by decide +kernel
theorem dX6_take_33 : decode cX6_take 33 = .ok (.putfield 130, 3) := by decide +kernel
theorem dX6_take_36 : decode cX6_take 36 = .ok (.return_, 1) := by decide +kernel
theorem dX6_isVariable_0 : decode cX6_isVariable 0 = .ok (.iload_n 0, 1) := by decide +kernel
theorem dX6_isVariable_1 : decode cX6_isVariable 1 = .ok (.bipush 97, 2) := by decide +kernel
theorem dX6_isVariable_3 : decode cX6_isVariable 3 = .ok (.if_icmp .lt 13, 3) := by decide +kernel
theorem dX6_isVariable_6 : decode cX6_isVariable 6 = .ok (.iload_n 0, 1) := by decide +kernel
theorem dX6_isVariable_7 : decode cX6_isVariable 7 = .ok (.bipush 112, 2) := by decide +kernel
theorem dX6_isVariable_9 : decode cX6_isVariable 9 = .ok (.if_icmp .gt 7, 3) := by decide +kernel
theorem dX6_isVariable_12 : decode cX6_isVariable 12 = .ok (.iconst 1, 1) := by decide +kernel
theorem dX6_isVariable_13 : decode cX6_isVariable 13 = .ok (.goto 4, 3) := by decide +kernel
theorem dX6_isVariable_16 : decode cX6_isVariable 16 = .ok (.iconst 0, 1) := by decide +kernel
theorem dX6_isVariable_17 : decode cX6_isVariable 17 = .ok (.ireturn, 1) := by decide +kernel
theorem dX6_isFigure_0 : decode cX6_isFigure 0 = .ok (.iload_n 0, 1) := by decide +kernel
theorem dX6_isFigure_1 : decode cX6_isFigure 1 = .ok (.bipush 48, 2) := by decide +kernel
theorem dX6_isFigure_3 : decode cX6_isFigure 3 = .ok (.if_icmp .lt 13, 3) := by decide +kernel
theorem dX6_isFigure_6 : decode cX6_isFigure 6 = .ok (.iload_n 0, 1) := by decide +kernel
theorem dX6_isFigure_7 : decode cX6_isFigure 7 = .ok (.bipush 57, 2) := by decide +kernel
theorem dX6_isFigure_9 : decode cX6_isFigure 9 = .ok (.if_icmp .gt 7, 3) := by decide +kernel
theorem dX6_isFigure_12 : decode cX6_isFigure 12 = .ok (.iconst 1, 1) := by decide +kernel
theorem dX6_isFigure_13 : decode cX6_isFigure 13 = .ok (.goto 4, 3) := by decide +kernel
theorem dX6_isFigure_16 : decode cX6_isFigure 16 = .ok (.iconst 0, 1) := by decide +kernel
theorem dX6_isFigure_17 : decode cX6_isFigure 17 = .ok (.ireturn, 1) := by decide +kernel
theorem dX6_readNumber_0 : decode cX6_readNumber 0 = .ok (.aload_n 0, 1) := by decide +kernel
theorem dX6_readNumber_1 : decode cX6_readNumber 1 = .ok (.getfield 130, 3) := by decide +kernel
theorem dX6_readNumber_4 : decode cX6_readNumber 4 = .ok (.istore 4, 2) := by decide +kernel
theorem dX6_readNumber_6 : decode cX6_readNumber 6 = .ok (.lconst 0, 1) := by decide +kernel
theorem dX6_readNumber_7 : decode cX6_readNumber 7 = .ok (.lstore 5, 2) := by decide +kernel
theorem dX6_readNumber_9 : decode cX6_readNumber 9 = .ok (.aload_n 0, 1) := by decide +kernel
theorem dX6_readNumber_10 : decode cX6_readNumber 10 = .ok (.getfield 130, 3) := by decide +kernel
theorem dX6_readNumber_13 : decode cX6_readNumber 13 = .ok (.aload_n 0, 1) := by decide +kernel
theorem dX6_readNumber_14 : decode cX6_readNumber 14 = .ok (.getfield 119, 3) := by decide +kernel
theorem dX6_readNumber_17 : decode cX6_readNumber 17 = .ok (.if_icmp .ge 68, 3) := by decide +kernel
theorem dX6_readNumber_20 : decode cX6_readNumber 20 = .ok (.aload_n 0, 1) := by decide +kernel
theorem dX6_readNumber_21 : decode cX6_readNumber 21 = .ok (.getfield 16, 3) := by decide +kernel
theorem dX6_readNumber_24 : decode cX6_readNumber 24 = .ok (.aload_n 0, 1) := by decide +kernel
theorem dX6_readNumber_25 : decode cX6_readNumber 25 = .ok (.getfield 130, 3) := by decide +kernel
theorem dX6_readNumber_28 : decode cX6_readNumber 28 = .ok (.iaload, 1) := by decide +kernel
theorem dX6_readNumber_29 : decode cX6_readNumber 29 = .ok (.invokestatic 141, 3) := by decide +kernel
theorem dX6_readNumber_32 : decode cX6_readNumber 32 = .ok (.ifCond .eq 53, 3) := by decide +kernel
theorem dX6_readNumber_35 : decode cX6_readNumber 35 = .ok (.lload 5, 2) := by decide +kernel
theorem dX6_readNumber_37 : decode cX6_readNumber 37 = .ok (.ldc2_w 145, 3) := by decide +kernel
theorem dX6_readNumber_40 : decode cX6_readNumber 40 = .ok (.lcmp, 1) := by decide +kernel
theorem dX6_readNumber_41 : decode cX6_readNumber 41 = .ok (.ifCond .le 8, 3) := by decide +kernel
theorem dX6_readNumber_44 : decode cX6_readNumber 44 = .ok (.lload 5, 2) := by decide +kernel
theorem dX6_readNumber_46 : decode cX6_readNumber 46 = .ok (.goto 24, 3) := by decide +kernel
theorem dX6_readNumber_49 : decode cX6_readNumber 49 = .ok (.ldc2_w 147, 3) := by decide +kernel
theorem dX6_readNumber_52 : decode cX6_readNumber 52 = .ok (.lload 5, 2) := by decide +kernel
theorem dX6_readNumber_54 : decode cX6_readNumber 54 = .ok (.lmul, 1) := by decide +kernel
theorem dX6_readNumber_55 : decode cX6_readNumber 55 = .ok (.aload_n 0, 1) := by decide +kernel
theorem dX6_readNumber_56 : decode cX6_readNumber 56 = .ok (.getfield 16, 3) := by decide +kernel
theorem dX6_readNumber_59 : decode cX6_readNumber 59 = .ok (.aload_n 0, 1) := by decide +kernel
theorem dX6_readNumber_60 : decode cX6_readNumber 60 = .ok (.getfield 130, 3) := by decide +kernel
theorem dX6_readNumber_63 : decode cX6_readNumber 63 = .ok (.iaload, 1) := by decide +kernel
theorem dX6_readNumber_64 : decode cX6_readNumber 64 = .ok (.i2l, 1) := by decide +kernel
theorem dX6_readNumber_65 : decode cX6_readNumber 65 = .ok (.ladd, 1) := by decide +kernel
theorem dX6_readNumber_66 : decode cX6_readNumber 66 = .ok (.ldc2_w 149, 3) := by decide +kernel
theorem dX6_readNumber_69 : decode cX6_readNumber 69 = .ok (.lsub, 1) := by decide +kernel
theorem dX6_readNumber_70 : decode cX6_readNumber 70 = .ok (.lstore 5, 2) := by decide +kernel
theorem dX6_readNumber_72 : decode cX6_readNumber 72 = .ok (.aload_n 0, 1) := by decide +kernel
theorem dX6_readNumber_73 : decode cX6_readNumber 73 = .ok (.dup, 1) := by decide +kernel
theorem dX6_readNumber_74 : decode cX6_readNumber 74 = .ok (.getfield 130, 3) := by decide +kernel
theorem dX6_readNumber_77 : decode cX6_readNumber 77 = .ok (.iconst 1, 1) := by decide +kernel
theorem dX6_readNumber_78 : decode cX6_readNumber 78 = .ok (.iadd, 1) := by decide +kernel
theorem dX6_readNumber_79 : decode cX6_readNumber 79 = .ok (.putfield 130, 3) := by decide +kernel
theorem dX6_readNumber_82 : decode cX6_readNumber 82 = .ok (.goto (-73), 3) := by decide +kernel
theorem dX6_readNumber_85 : decode cX6_readNumber 85 = .ok (.aload_n 0, 1) := by decide +kernel
theorem dX6_readNumber_86 : decode cX6_readNumber 86 = .ok (.getfield 130, 3) := by decide +kernel
theorem dX6_readNumber_89 : decode cX6_readNumber 89 = .ok (.iload 4, 2) := by decide +kernel
theorem dX6_readNumber_91 : decode cX6_readNumber 91 = .ok (.if_icmp .ne 15, 3) := by decide +kernel
theorem dX6_readNumber_94 : decode cX6_readNumber 94 = .ok (.aload_n 0, 1) := by decide +kernel
theorem dX6_readNumber_95 : decode cX6_readNumber 95 = .ok (.iconst 1, 1) := by decide +kernel
theorem dX6_readNumber_96 : decode cX6_readNumber 96 = .ok (.aload_n 0, 1) := by decide +kernel
theorem dX6_readNumber_97 : decode cX6_readNumber 97 = .ok (.getfield 130, 3) := by decide +kernel
theorem dX6_readNumber_100 : decode cX6_readNumber 100 = .ok (.invokevirtual 137, 3) := by decide +kernel
theorem dX6_readNumber_103 : decode cX6_readNumber 103 = .ok (.goto 19, 3) := by decide +kernel
theorem dX6_readNumber_106 : decode cX6_readNumber 106 = .ok (.lload 5, 2) := by decide +kernel
theorem dX6_readNumber_108 : decode cX6_readNumber 108 = .ok (.ldc2_w 151, 3) := by decide +kernel
theorem dX6_readNumber_111 : decode cX6_readNumber 111 = .ok (.lcmp, 1) := by decide +kernel
theorem dX6_readNumber_112 : decode cX6_readNumber 112 = .ok (.ifCond .le 10, 3) := by decide +kernel
theorem dX6_readNumber_115 : decode cX6_readNumber 115 = .ok (.aload_n 0, 1) := by decide +kernel
theorem dX6_readNumber_116 : decode cX6_readNumber 116 = .ok (.iconst 2, 1) := by decide +kernel
theorem dX6_readNumber_117 : decode cX6_readNumber 117 = .ok (.iload 4, 2) := by decide +kernel
theorem dX6_readNumber_119 : decode cX6_readNumber 119 = .ok (.invokevirtual 137, 3) := by decide +kernel
theorem dX6_readNumber_122 : decode cX6_readNumber 122 = .ok (.aload_n 0, 1) := by decide +kernel
theorem dX6_readNumber_123 : decode cX6_readNumber 123 = .ok (.getfield 19, 3) := by decide +kernel
theorem dX6_readNumber_126 : decode cX6_readNumber 126 = .ok (.bipush 9, 2) := by decide +kernel
theorem dX6_readNumber_128 : decode cX6_readNumber 128 = .ok (.iload_n 1, 1) := by decide +kernel
theorem dX6_readNumber_129 : decode cX6_readNumber 129 = .ok (.imul, 1) := by decide +kernel
theorem dX6_readNumber_130 : decode cX6_readNumber 130 = .ok (.iload_n 2, 1) := by decide +kernel
theorem dX6_readNumber_131 : decode cX6_readNumber 131 = .ok (.iadd, 1) := by decide +kernel
theorem dX6_readNumber_132 : decode cX6_readNumber 132 = .ok (.iconst 0, 1) := by decide +kernel
theorem dX6_readNumber_133 : decode cX6_readNumber 133 = .ok (.iastore, 1) := by decide +kernel
theorem dX6_readNumber_134 : decode cX6_readNumber 134 = .ok (.aload_n 0, 1) := by decide +kernel
theorem dX6_readNumber_135 : decode cX6_readNumber 135 = .ok (.getfield 19, 3) := by decide +kernel
theorem dX6_readNumber_138 : decode cX6_readNumber 138 = .ok (.bipush 9, 2) := by decide +kernel
theorem dX6_readNumber_140 : decode cX6_readNumber 140 = .ok (.iload_n 1, 1) := by decide +kernel
theorem dX6_readNumber_141 : decode cX6_readNumber 141 = .ok (.imul, 1) := by decide +kernel
theorem dX6_readNumber_142 : decode cX6_readNumber 142 = .ok (.iload_n 2, 1) := by decide +kernel
theorem dX6_readNumber_143 : decode cX6_readNumber 143 = .ok (.iadd, 1) := by decide +kernel
theorem dX6_readNumber_144 : decode cX6_readNumber 144 = .ok (.iconst 1, 1) := by decide +kernel
theorem dX6_readNumber_145 : decode cX6_readNumber 145 = .ok (.iadd, 1) := by decide +kernel
theorem dX6_readNumber_146 : decode cX6_readNumber 146 = .ok (.iload_n 3, 1) := by decide +kernel
theorem dX6_readNumber_147 : decode cX6_readNumber 147 = .ok (.ifCond .eq 9, 3) := by decide +kernel
theorem dX6_readNumber_150 : decode cX6_readNumber 150 = .ok (.lload 5, 2) := by decide +kernel
theorem dX6_readNumber_152 : decode cX6_readNumber 152 = .ok (.lneg, 1) := by decide +kernel
theorem dX6_readNumber_153 : decode cX6_readNumber 153 = .ok (.goto 5, 3) := by decide +kernel
theorem dX6_readNumber_156 : decode cX6_readNumber 156 = .ok (.lload 5, 2) := by decide +kernel
