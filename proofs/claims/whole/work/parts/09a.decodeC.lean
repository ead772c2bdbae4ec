theorem d_H_init_0 : decode b_H_init 0 = .ok (.aload_n 0, 1) := by decide +kernel
theorem d_H_init_1 : decode b_H_init 1 = .ok (.invokespecial 3, 3) := by decide +kernel
theorem d_H_init_4 : decode b_H_init 4 = .ok (.aload_n 0, 1) := by decide +kernel
theorem d_H_init_5 : decode b_H_init 5 = .ok (.bipush 6, 2) := by decide +kernel
theorem d_H_init_7 : decode b_H_init 7 = .ok (.anewarray 9, 3) := by decide +kernel
theorem d_H_init_10 : decode b_H_init 10 = .ok (.putfield 11, 3) := by decide +kernel
theorem d_H_init_13 : decode b_H_init 13 = .ok (.aload_n 0, 1) := by decide +kernel
theorem d_H_init_14 : decode b_H_init 14 = .ok (.new 15, 3) := by decide +kernel
theorem d_H_init_17 : decode b_H_init 17 = .ok (.dup, 1) := by decide +kernel
theorem d_H_init_18 : decode b_H_init 18 = .ok (.bipush 20, 2) := by decide +kernel
theorem d_H_init_20 : decode b_H_init 20 = .ok (.invokespecial 17, 3) := by decide +kernel
theorem d_H_init_23 : decode b_H_init 23 = .ok (.putfield 20, 3) := by decide +kernel
theorem d_H_init_26 : decode b_H_init 26 = .ok (.aload_n 0, 1) := by decide +kernel
theorem d_H_init_27 : decode b_H_init 27 = .ok (.new 24, 3) := by decide +kernel
theorem d_H_init_30 : decode b_H_init 30 = .ok (.dup, 1) := by decide +kernel
theorem d_H_init_31 : decode b_H_init 31 = .ok (.invokespecial 26, 3) := by decide +kernel
theorem d_H_init_34 : decode b_H_init 34 = .ok (.putfield 27, 3) := by decide +kernel
theorem d_H_init_37 : decode b_H_init 37 = .ok (.aload_n 0, 1) := by decide +kernel
theorem d_H_init_38 : decode b_H_init 38 = .ok (.new 15, 3) := by decide +kernel
theorem d_H_init_41 : decode b_H_init 41 = .ok (.dup, 1) := by decide +kernel
theorem d_H_init_42 : decode b_H_init 42 = .ok (.bipush 84, 2) := by decide +kernel
theorem d_H_init_44 : decode b_H_init 44 = .ok (.invokespecial 17, 3) := by decide +kernel
theorem d_H_init_47 : decode b_H_init 47 = .ok (.putfield 31, 3) := by decide +kernel
theorem d_H_init_50 : decode b_H_init 50 = .ok (.aload_n 0, 1) := by decide +kernel
theorem d_H_init_51 : decode b_H_init 51 = .ok (.iconst 0, 1) := by decide +kernel
theorem d_H_init_52 : decode b_H_init 52 = .ok (.putfield 34, 3) := by decide +kernel
theorem d_H_init_55 : decode b_H_init 55 = .ok (.aload_n 0, 1) := by decide +kernel
theorem d_H_init_56 : decode b_H_init 56 = .ok (.iconst 0, 1) := by decide +kernel
theorem d_H_init_57 : decode b_H_init 57 = .ok (.putfield 38, 3) := by decide +kernel
theorem d_H_init_60 : decode b_H_init 60 = .ok (.aload_n 0, 1) := by decide +kernel
theorem d_H_init_61 : decode b_H_init 61 = .ok (.iconst 0, 1) := by decide +kernel
theorem d_H_init_62 : decode b_H_init 62 = .ok (.putfield 41, 3) := by decide +kernel
theorem d_H_init_65 : decode b_H_init 65 = .ok (.aload_n 0, 1) := by decide +kernel
theorem d_H_init_66 : decode b_H_init 66 = .ok (.iconst 0, 1) := by decide +kernel
theorem d_H_init_67 : decode b_H_init 67 = .ok (.putfield 44, 3) := by decide +kernel
theorem d_H_init_70 : decode b_H_init 70 = .ok (.return_, 1) := by decide +kernel
theorem d_H_create_0 : decode b_H_create 0 = .ok (.iload_n 1, 1) := by decide +kernel
theorem d_H_create_1 : decode b_H_create 1 = .ok (.invokestatic 47, 3) := by decide +kernel
theorem d_H_create_4 : decode b_H_create 4 = .ok (.ifCond .ne 6, 3) := by decide +kernel
theorem d_H_create_7 : decode b_H_create 7 = .ok (.bipush (-2), 2) := by decide +kernel
theorem d_H_create_9 : decode b_H_create 9 = .ok (.ireturn, 1) := by decide +kernel
theorem d_H_create_10 : decode b_H_create 10 = .ok (.iload_n 2, 1) := by decide +kernel
theorem d_H_create_11 : decode b_H_create 11 = .ok (.ifCond .lt 8, 3) := by decide +kernel
theorem d_H_create_14 : decode b_H_create 14 = .ok (.iload_n 2, 1) := by decide +kernel
theorem d_H_create_15 : decode b_H_create 15 = .ok (.iconst 3, 1) := by decide +kernel
theorem d_H_create_16 : decode b_H_create 16 = .ok (.if_icmp .le 6, 3) := by decide +kernel
theorem d_H_create_19 : decode b_H_create 19 = .ok (.bipush (-4), 2) := by decide +kernel
theorem d_H_create_21 : decode b_H_create 21 = .ok (.ireturn, 1) := by decide +kernel
theorem d_H_create_22 : decode b_H_create 22 = .ok (.iconst 1, 1) := by decide +kernel
theorem d_H_create_23 : decode b_H_create 23 = .ok (.iload_n 2, 1) := by decide +kernel
theorem d_H_create_24 : decode b_H_create 24 = .ok (.iadd, 1) := by decide +kernel
theorem d_H_create_25 : decode b_H_create 25 = .ok (.istore 4, 2) := by decide +kernel
theorem d_H_create_27 : decode b_H_create 27 = .ok (.aload_n 0, 1) := by decide +kernel
theorem d_H_create_28 : decode b_H_create 28 = .ok (.iload 4, 2) := by decide +kernel
theorem d_H_create_30 : decode b_H_create 30 = .ok (.invokevirtual 51, 3) := by decide +kernel
theorem d_H_create_33 : decode b_H_create 33 = .ok (.ifCond .ne 8, 3) := by decide +kernel
theorem d_H_create_36 : decode b_H_create 36 = .ok (.aload_n 0, 1) := by decide +kernel
theorem d_H_create_37 : decode b_H_create 37 = .ok (.invokevirtual 54, 3) := by decide +kernel
theorem d_H_create_40 : decode b_H_create 40 = .ok (.pop, 1) := by decide +kernel
theorem d_H_create_41 : decode b_H_create 41 = .ok (.aload_n 0, 1) := by decide +kernel
theorem d_H_create_42 : decode b_H_create 42 = .ok (.iload 4, 2) := by decide +kernel
theorem d_H_create_44 : decode b_H_create 44 = .ok (.invokevirtual 51, 3) := by decide +kernel
theorem d_H_create_47 : decode b_H_create 47 = .ok (.ifCond .ne 8, 3) := by decide +kernel
theorem d_H_create_50 : decode b_H_create 50 = .ok (.aload_n 0, 1) := by decide +kernel
theorem d_H_create_51 : decode b_H_create 51 = .ok (.invokevirtual 58, 3) := by decide +kernel
theorem d_H_create_54 : decode b_H_create 54 = .ok (.pop, 1) := by decide +kernel
theorem d_H_create_55 : decode b_H_create 55 = .ok (.aload_n 0, 1) := by decide +kernel
theorem d_H_create_56 : decode b_H_create 56 = .ok (.iload 4, 2) := by decide +kernel
theorem d_H_create_58 : decode b_H_create 58 = .ok (.invokevirtual 51, 3) := by decide +kernel
theorem d_H_create_61 : decode b_H_create 61 = .ok (.ifCond .ne 6, 3) := by decide +kernel
theorem d_H_create_64 : decode b_H_create 64 = .ok (.bipush (-5), 2) := by decide +kernel
theorem d_H_create_66 : decode b_H_create 66 = .ok (.ireturn, 1) := by decide +kernel
theorem d_H_create_67 : decode b_H_create 67 = .ok (.new 9, 3) := by decide +kernel
theorem d_H_create_70 : decode b_H_create 70 = .ok (.dup, 1) := by decide +kernel
theorem d_H_create_71 : decode b_H_create 71 = .ok (.iload_n 3, 1) := by decide +kernel
theorem d_H_create_72 : decode b_H_create 72 = .ok (.iload_n 2, 1) := by decide +kernel
theorem d_H_create_73 : decode b_H_create 73 = .ok (.invokespecial 61, 3) := by decide +kernel
theorem d_H_create_76 : decode b_H_create 76 = .ok (.astore 5, 2) := by decide +kernel
theorem d_H_create_78 : decode b_H_create 78 = .ok (.aload_n 0, 1) := by decide +kernel
theorem d_H_create_79 : decode b_H_create 79 = .ok (.getfield 20, 3) := by decide +kernel
theorem d_H_create_82 : decode b_H_create 82 = .ok (.aload 5, 2) := by decide +kernel
theorem d_H_create_84 : decode b_H_create 84 = .ok (.invokevirtual 64, 3) := by decide +kernel
theorem d_H_create_87 : decode b_H_create 87 = .ok (.pop, 1) := by decide +kernel
theorem d_H_create_88 : decode b_H_create 88 = .ok (.aload_n 0, 1) := by decide +kernel
theorem d_H_create_89 : decode b_H_create 89 = .ok (.getfield 11, 3) := by decide +kernel
theorem d_H_create_92 : decode b_H_create 92 = .ok (.iload_n 1, 1) := by decide +kernel
theorem d_H_create_93 : decode b_H_create 93 = .ok (.aload 5, 2) := by decide +kernel
theorem d_H_create_95 : decode b_H_create 95 = .ok (.aastore, 1) := by decide +kernel
theorem d_H_create_96 : decode b_H_create 96 = .ok (.iconst 0, 1) := by decide +kernel
theorem d_H_create_97 : decode b_H_create 97 = .ok (.ireturn, 1) := by decide +kernel
theorem d_H_clear_0 : decode b_H_clear 0 = .ok (.iload_n 1, 1) := by decide +kernel
theorem d_H_clear_1 : decode b_H_clear 1 = .ok (.invokestatic 47, 3) := by decide +kernel
theorem d_H_clear_4 : decode b_H_clear 4 = .ok (.ifCond .ne 5, 3) := by decide +kernel
theorem d_H_clear_7 : decode b_H_clear 7 = .ok (.iconst 0, 1) := by decide +kernel
theorem d_H_clear_8 : decode b_H_clear 8 = .ok (.ireturn, 1) := by decide +kernel
theorem d_H_clear_9 : decode b_H_clear 9 = .ok (.aload_n 0, 1) := by decide +kernel
theorem d_H_clear_10 : decode b_H_clear 10 = .ok (.getfield 11, 3) := by decide +kernel
theorem d_H_clear_13 : decode b_H_clear 13 = .ok (.iload_n 1, 1) := by decide +kernel
theorem d_H_clear_14 : decode b_H_clear 14 = .ok (.aconst_null, 1) := by decide +kernel
theorem d_H_clear_15 : decode b_H_clear 15 = .ok (.aastore, 1) := by decide +kernel
theorem d_H_clear_16 : decode b_H_clear 16 = .ok (.iconst 1, 1) := by decide +kernel
theorem d_H_clear_17 : decode b_H_clear 17 = .ok (.ireturn, 1) := by decide +kernel
theorem d_H_copy_0 : decode b_H_copy 0 = .ok (.iload_n 1, 1) := by decide +kernel
theorem d_H_copy_1 : decode b_H_copy 1 = .ok (.invokestatic 47, 3) := by decide +kernel
theorem d_H_copy_4 : decode b_H_copy 4 = .ok (.ifCond .eq 10, 3) := by decide +kernel
theorem d_H_copy_7 : decode b_H_copy 7 = .ok (.iload_n 2, 1) := by decide +kernel
theorem d_H_copy_8 : decode b_H_copy 8 = .ok (.invokestatic 47, 3) := by decide +kernel
theorem d_H_copy_11 : decode b_H_copy 11 = .ok (.ifCond .ne 5, 3) := by decide +kernel
theorem d_H_copy_14 : decode b_H_copy 14 = .ok (.iconst 0, 1) := by decide +kernel
theorem d_H_copy_15 : decode b_H_copy 15 = .ok (.ireturn, 1) := by decide +kernel
theorem d_H_copy_16 : decode b_H_copy 16 = .ok (.aload_n 0, 1) := by decide +kernel
theorem d_H_copy_17 : decode b_H_copy 17 = .ok (.getfield 11, 3) := by decide +kernel
theorem d_H_copy_20 : decode b_H_copy 20 = .ok (.iload_n 1, 1) := by decide +kernel
theorem d_H_copy_21 : decode b_H_copy 21 = .ok (.aload_n 0, 1) := by decide +kernel
theorem d_H_copy_22 : decode b_H_copy 22 = .ok (.getfield 11, 3) := by decide +kernel
theorem d_H_copy_25 : decode b_H_copy 25 = .ok (.iload_n 2, 1) := by decide +kernel
theorem d_H_copy_26 : decode b_H_copy 26 = .ok (.aaload, 1) := by decide +kernel
theorem d_H_copy_27 : decode b_H_copy 27 = .ok (.aastore, 1) := by decide +kernel
theorem d_H_copy_28 : decode b_H_copy 28 = .ok (.iconst 1, 1) := by decide +kernel
theorem d_H_copy_29 : decode b_H_copy 29 = .ok (.ireturn, 1) := by decide +kernel
theorem d_H_load_0 : decode b_H_load 0 = .ok (.iload_n 1, 1) := by decide +kernel
theorem d_H_load_1 : decode b_H_load 1 = .ok (.invokestatic 47, 3) := by decide +kernel
theorem d_H_load_4 : decode b_H_load 4 = .ok (.ifCond .eq 10, 3) := by decide +kernel
theorem d_H_load_7 : decode b_H_load 7 = .ok (.iload_n 2, 1) := by decide +kernel
theorem d_H_load_8 : decode b_H_load 8 = .ok (.invokestatic 47, 3) := by decide +kernel
theorem d_H_load_11 : decode b_H_load 11 = .ok (.ifCond .ne 6, 3) := by decide +kernel
theorem d_H_load_14 : decode b_H_load 14 = .ok (.bipush (-2), 2) := by decide +kernel
theorem d_H_load_16 : decode b_H_load 16 = .ok (.ireturn, 1) := by decide +kernel
theorem d_H_load_17 : decode b_H_load 17 = .ok (.aload_n 0, 1) := by decide +kernel
theorem d_H_load_18 : decode b_H_load 18 = .ok (.getfield 11, 3) := by decide +kernel
theorem d_H_load_21 : decode b_H_load 21 = .ok (.iload_n 2, 1) := by decide +kernel
theorem d_H_load_22 : decode b_H_load 22 = .ok (.aaload, 1) := by decide +kernel
theorem d_H_load_23 : decode b_H_load 23 = .ok (.astore 4, 2) := by decide +kernel
theorem d_H_load_25 : decode b_H_load 25 = .ok (.aload 4, 2) := by decide +kernel
theorem d_H_load_27 : decode b_H_load 27 = .ok (.ifnonnull 6, 3) := by decide +kernel
theorem d_H_load_30 : decode b_H_load 30 = .ok (.bipush (-3), 2) := by decide +kernel
theorem d_H_load_32 : decode b_H_load 32 = .ok (.ireturn, 1) := by decide +kernel
theorem d_H_load_33 : decode b_H_load 33 = .ok (.aload 4, 2) := by decide +kernel
theorem d_H_load_35 : decode b_H_load 35 = .ok (.iload_n 3, 1) := by decide +kernel
theorem d_H_load_36 : decode b_H_load 36 = .ok (.invokevirtual 68, 3) := by decide +kernel
theorem d_H_load_39 : decode b_H_load 39 = .ok (.ifCond .ne 6, 3) := by decide +kernel
theorem d_H_load_42 : decode b_H_load 42 = .ok (.bipush (-4), 2) := by decide +kernel
theorem d_H_load_44 : decode b_H_load 44 = .ok (.ireturn, 1) := by decide +kernel
theorem d_H_load_45 : decode b_H_load 45 = .ok (.aload_n 0, 1) := by decide +kernel
theorem d_H_load_46 : decode b_H_load 46 = .ok (.getfield 11, 3) := by decide +kernel
theorem d_H_load_49 : decode b_H_load 49 = .ok (.iload_n 1, 1) := by decide +kernel
theorem d_H_load_50 : decode b_H_load 50 = .ok (.aload 4, 2) := by decide +kernel
theorem d_H_load_52 : decode b_H_load 52 = .ok (.getfield 71, 3) := by decide +kernel
theorem d_H_load_55 : decode b_H_load 55 = .ok (.iload_n 3, 1) := by decide +kernel
theorem d_H_load_56 : decode b_H_load 56 = .ok (.aaload, 1) := by decide +kernel
theorem d_H_load_57 : decode b_H_load 57 = .ok (.aastore, 1) := by decide +kernel
theorem d_H_load_58 : decode b_H_load 58 = .ok (.iconst 0, 1) := by decide +kernel
theorem d_H_load_59 : decode b_H_load 59 = .ok (.ireturn, 1) := by decide +kernel
theorem d_H_store_0 : decode b_H_store 0 = .ok (.iload_n 1, 1) := by decide +kernel
theorem d_H_store_1 : decode b_H_store 1 = .ok (.invokestatic 47, 3) := by decide +kernel
theorem d_H_store_4 : decode b_H_store 4 = .ok (.ifCond .eq 10, 3) := by decide +kernel
theorem d_H_store_7 : decode b_H_store 7 = .ok (.iload_n 3, 1) := by decide +kernel
theorem d_H_store_8 : decode b_H_store 8 = .ok (.invokestatic 47, 3) := by decide +kernel
theorem d_H_store_11 : decode b_H_store 11 = .ok (.ifCond .ne 6, 3) := by decide +kernel
theorem d_H_store_14 : decode b_H_store 14 = .ok (.bipush (-2), 2) := by decide +kernel
theorem d_H_store_16 : decode b_H_store 16 = .ok (.ireturn, 1) := by decide +kernel
theorem d_H_store_17 : decode b_H_store 17 = .ok (.aload_n 0, 1) := by decide +kernel
theorem d_H_store_18 : decode b_H_store 18 = .ok (.getfield 11, 3) := by decide +kernel
theorem d_H_store_21 : decode b_H_store 21 = .ok (.iload_n 1, 1) := by decide +kernel
theorem d_H_store_22 : decode b_H_store 22 = .ok (.aaload, 1) := by decide +kernel
theorem d_H_store_23 : decode b_H_store 23 = .ok (.astore 4, 2) := by decide +kernel
theorem d_H_store_25 : decode b_H_store 25 = .ok (.aload 4, 2) := by decide +kernel
theorem d_H_store_27 : decode b_H_store 27 = .ok (.ifnonnull 6, 3) := by decide +kernel
theorem d_H_store_30 : decode b_H_store 30 = .ok (.bipush (-3), 2) := by decide +kernel
theorem d_H_store_32 : decode b_H_store 32 = .ok (.ireturn, 1) := by decide +kernel
theorem d_H_store_33 : decode b_H_store 33 = .ok (.aload 4, 2) := by decide +kernel
theorem d_H_store_35 : decode b_H_store 35 = .ok (.iload_n 2, 1) := by decide +kernel
theorem d_H_store_36 : decode b_H_store 36 = .ok (.invokevirtual 68, 3) := by decide +kernel
theorem d_H_store_39 : decode b_H_store 39 = .ok (.ifCond .ne 6, 3) := by decide +kernel
theorem d_H_store_42 : decode b_H_store 42 = .ok (.bipush (-4), 2) := by decide +kernel
theorem d_H_store_44 : decode b_H_store 44 = .ok (.ireturn, 1) := by decide +kernel
theorem d_H_store_45 : decode b_H_store 45 = .ok (.aload 4, 2) := by decide +kernel
theorem d_H_store_47 : decode b_H_store 47 = .ok (.getfield 71, 3) := by decide +kernel
theorem d_H_store_50 : decode b_H_store 50 = .ok (.iload_n 2, 1) := by decide +kernel
theorem d_H_store_51 : decode b_H_store 51 = .ok (.aload_n 0, 1) := by decide +kernel
theorem d_H_store_52 : decode b_H_store 52 = .ok (.getfield 11, 3) := by decide +kernel
theorem d_H_store_55 : decode b_H_store 55 = .ok (.iload_n 3, 1) := by decide +kernel
theorem d_H_store_56 : decode b_H_store 56 = .ok (.aaload, 1) := by decide +kernel
theorem d_H_store_57 : decode b_H_store 57 = .ok (.aastore, 1) := by decide +kernel
theorem d_H_store_58 : decode b_H_store 58 = .ok (.aload 4, 2) := by decide +kernel
theorem d_H_store_60 : decode b_H_store 60 = .ok (.invokevirtual 74, 3) := by decide +kernel
theorem d_H_store_63 : decode b_H_store 63 = .ok (.ifCond .eq 24, 3) := by decide +kernel
theorem d_H_store_66 : decode b_H_store 66 = .ok (.aload_n 0, 1) := by decide +kernel
theorem d_H_store_67 : decode b_H_store 67 = .ok (.dup, 1) := by decide +kernel
theorem d_H_store_68 : decode b_H_store 68 = .ok (.getfield 34, 3) := by decide +kernel
theorem d_H_store_71 : decode b_H_store 71 = .ok (.aload 4, 2) := by decide +kernel
theorem d_H_store_73 : decode b_H_store 73 = .ok (.getfield 78, 3) := by decide +kernel
theorem d_H_store_76 : decode b_H_store 76 = .ok (.iconst 1, 1) := by decide +kernel
theorem d_H_store_77 : decode b_H_store 77 = .ok (.iadd, 1) := by decide +kernel
theorem d_H_store_78 : decode b_H_store 78 = .ok (.iload_n 2, 1) := by decide +kernel
theorem d_H_store_79 : decode b_H_store 79 = .ok (.iadd, 1) := by decide +kernel
theorem d_H_store_80 : decode b_H_store 80 = .ok (.invokestatic 81, 3) := by decide +kernel
theorem d_H_store_83 : decode b_H_store 83 = .ok (.ior, 1) := by decide +kernel
theorem d_H_store_84 : decode b_H_store 84 = .ok (.putfield 34, 3) := by decide +kernel
theorem d_H_store_87 : decode b_H_store 87 = .ok (.iconst 0, 1) := by decide +kernel
theorem d_H_store_88 : decode b_H_store 88 = .ok (.ireturn, 1) := by decide +kernel
theorem d_H_payload_0 : decode b_H_payload 0 = .ok (.aload_n 0, 1) := by decide +kernel
theorem d_H_payload_1 : decode b_H_payload 1 = .ok (.iload_n 1, 1) := by decide +kernel
theorem d_H_payload_2 : decode b_H_payload 2 = .ok (.invokevirtual 85, 3) := by decide +kernel
theorem d_H_payload_5 : decode b_H_payload 5 = .ok (.astore_n 2, 1) := by decide +kernel
theorem d_H_payload_6 : decode b_H_payload 6 = .ok (.aload_n 2, 1) := by decide +kernel
theorem d_H_payload_7 : decode b_H_payload 7 = .ok (.ifnonnull 7, 3) := by decide +kernel
theorem d_H_payload_10 : decode b_H_payload 10 = .ok (.iconst 0, 1) := by decide +kernel
theorem d_H_payload_11 : decode b_H_payload 11 = .ok (.goto 7, 3) := by decide +kernel
theorem d_H_payload_14 : decode b_H_payload 14 = .ok (.aload_n 2, 1) := by decide +kernel
theorem d_H_payload_15 : decode b_H_payload 15 = .ok (.getfield 89, 3) := by decide +kernel
theorem d_H_payload_18 : decode b_H_payload 18 = .ok (.ireturn, 1) := by decide +kernel
theorem d_H_same_0 : decode b_H_same 0 = .ok (.iload_n 1, 1) := by decide +kernel
theorem d_H_same_1 : decode b_H_same 1 = .ok (.invokestatic 47, 3) := by decide +kernel
theorem d_H_same_4 : decode b_H_same 4 = .ok (.ifCond .eq 29, 3) := by decide +kernel
theorem d_H_same_7 : decode b_H_same 7 = .ok (.iload_n 2, 1) := by decide +kernel
theorem d_H_same_8 : decode b_H_same 8 = .ok (.invokestatic 47, 3) := by decide +kernel
theorem d_H_same_11 : decode b_H_same 11 = .ok (.ifCond .eq 22, 3) := by decide +kernel
theorem d_H_same_14 : decode b_H_same 14 = .ok (.aload_n 0, 1) := by decide +kernel
theorem d_H_same_15 : decode b_H_same 15 = .ok (.getfield 11, 3) := by decide +kernel
theorem d_H_same_18 : decode b_H_same 18 = .ok (.iload_n 1, 1) := by decide +kernel
theorem d_H_same_19 : decode b_H_same 19 = .ok (.aaload, 1) := by decide +kernel
theorem d_H_same_20 : decode b_H_same 20 = .ok (.aload_n 0, 1) := by decide +kernel
theorem d_H_same_21 : decode b_H_same 21 = .ok (.getfield 11, 3) := by decide +kernel
theorem d_H_same_24 : decode b_H_same 24 = .ok (.iload_n 2, 1) := by decide +kernel
theorem d_H_same_25 : decode b_H_same 25 = .ok (.aaload, 1) := by decide +kernel
theorem d_H_same_26 : decode b_H_same 26 = .ok (.if_acmp .ne 7, 3) := by decide +kernel
theorem d_H_same_29 : decode b_H_same 29 = .ok (.iconst 1, 1) := by decide +kernel
theorem d_H_same_30 : decode b_H_same 30 = .ok (.goto 4, 3) := by decide +kernel
theorem d_H_same_33 : decode b_H_same 33 = .ok (.iconst 0, 1) := by decide +kernel
theorem d_H_same_34 : decode b_H_same 34 = .ok (.ireturn, 1) := by decide +kernel
theorem d_H_address_0 : decode b_H_address 0 = .ok (.iload_n 1, 1) := by decide +kernel
theorem d_H_address_1 : decode b_H_address 1 = .ok (.invokestatic 47, 3) := by decide +kernel
theorem d_H_address_4 : decode b_H_address 4 = .ok (.ifCond .ne 6, 3) := by decide +kernel
theorem d_H_address_7 : decode b_H_address 7 = .ok (.bipush (-2), 2) := by decide +kernel
theorem d_H_address_9 : decode b_H_address 9 = .ok (.ireturn, 1) := by decide +kernel
theorem d_H_address_10 : decode b_H_address 10 = .ok (.aload_n 0, 1) := by decide +kernel
theorem d_H_address_11 : decode b_H_address 11 = .ok (.getfield 11, 3) := by decide +kernel
theorem d_H_address_14 : decode b_H_address 14 = .ok (.iload_n 1, 1) := by decide +kernel
theorem d_H_address_15 : decode b_H_address 15 = .ok (.aaload, 1) := by decide +kernel
theorem d_H_address_16 : decode b_H_address 16 = .ok (.astore_n 2, 1) := by decide +kernel
theorem d_H_address_17 : decode b_H_address 17 = .ok (.aload_n 2, 1) := by decide +kernel
theorem d_H_address_18 : decode b_H_address 18 = .ok (.ifnonnull 6, 3) := by decide +kernel
theorem d_H_address_21 : decode b_H_address 21 = .ok (.bipush (-3), 2) := by decide +kernel
theorem d_H_address_23 : decode b_H_address 23 = .ok (.ireturn, 1) := by decide +kernel
theorem d_H_address_24 : decode b_H_address 24 = .ok (.aload_n 2, 1) := by decide +kernel
theorem d_H_address_25 : decode b_H_address 25 = .ok (.invokevirtual 74, 3) := by decide +kernel
theorem d_H_address_28 : decode b_H_address 28 = .ok (.ifCond .eq 10, 3) := by decide +kernel
theorem d_H_address_31 : decode b_H_address 31 = .ok (.aload_n 2, 1) := by decide +kernel
theorem d_H_address_32 : decode b_H_address 32 = .ok (.getfield 78, 3) := by decide +kernel
theorem d_H_address_35 : decode b_H_address 35 = .ok (.goto 4, 3) := by decide +kernel
theorem d_H_address_38 : decode b_H_address 38 = .ok (.iconst (-1), 1) := by decide +kernel
theorem d_H_address_39 : decode b_H_address 39 = .ok (.ireturn, 1) := by decide +kernel
theorem d_H_age_0 : decode b_H_age 0 = .ok (.iload_n 1, 1) := by decide +kernel
theorem d_H_age_1 : decode b_H_age 1 = .ok (.invokestatic 47, 3) := by decide +kernel
theorem d_H_age_4 : decode b_H_age 4 = .ok (.ifCond .ne 6, 3) := by decide +kernel
theorem d_H_age_7 : decode b_H_age 7 = .ok (.bipush (-2), 2) := by decide +kernel
theorem d_H_age_9 : decode b_H_age 9 = .ok (.ireturn, 1) := by decide +kernel
theorem d_H_age_10 : decode b_H_age 10 = .ok (.aload_n 0, 1) := by decide +kernel
theorem d_H_age_11 : decode b_H_age 11 = .ok (.getfield 11, 3) := by decide +kernel
theorem d_H_age_14 : decode b_H_age 14 = .ok (.iload_n 1, 1) := by decide +kernel
theorem d_H_age_15 : decode b_H_age 15 = .ok (.aaload, 1) := by decide +kernel
theorem d_H_age_16 : decode b_H_age 16 = .ok (.astore_n 2, 1) := by decide +kernel
theorem d_H_age_17 : decode b_H_age 17 = .ok (.aload_n 2, 1) := by decide +kernel
theorem d_H_age_18 : decode b_H_age 18 = .ok (.ifnonnull 6, 3) := by decide +kernel
theorem d_H_age_21 : decode b_H_age 21 = .ok (.bipush (-3), 2) := by decide +kernel
theorem d_H_age_23 : decode b_H_age 23 = .ok (.ireturn, 1) := by decide +kernel
theorem d_H_age_24 : decode b_H_age 24 = .ok (.aload_n 2, 1) := by decide +kernel
theorem d_H_age_25 : decode b_H_age 25 = .ok (.invokevirtual 92, 3) := by decide +kernel
theorem d_H_age_28 : decode b_H_age 28 = .ok (.ifCond .eq 10, 3) := by decide +kernel
theorem d_H_age_31 : decode b_H_age 31 = .ok (.aload_n 2, 1) := by decide +kernel
theorem d_H_age_32 : decode b_H_age 32 = .ok (.getfield 95, 3) := by decide +kernel
theorem d_H_age_35 : decode b_H_age 35 = .ok (.goto 4, 3) := by decide +kernel
theorem d_H_age_38 : decode b_H_age 38 = .ok (.iconst (-1), 1) := by decide +kernel
theorem d_H_age_39 : decode b_H_age 39 = .ok (.ireturn, 1) := by decide +kernel
theorem d_H_collect_0 : decode b_H_collect 0 = .ok (.iload_n 1, 1) := by decide +kernel
theorem d_H_collect_1 : decode b_H_collect 1 = .ok (.ifCond .eq 10, 3) := by decide +kernel
theorem d_H_collect_4 : decode b_H_collect 4 = .ok (.aload_n 0, 1) := by decide +kernel
theorem d_H_collect_5 : decode b_H_collect 5 = .ok (.invokevirtual 58, 3) := by decide +kernel
theorem d_H_collect_8 : decode b_H_collect 8 = .ok (.goto 7, 3) := by decide +kernel
theorem d_H_collect_11 : decode b_H_collect 11 = .ok (.aload_n 0, 1) := by decide +kernel
theorem d_H_collect_12 : decode b_H_collect 12 = .ok (.invokevirtual 54, 3) := by decide +kernel
theorem d_H_collect_15 : decode b_H_collect 15 = .ok (.ireturn, 1) := by decide +kernel
theorem d_H_begin_0 : decode b_H_begin 0 = .ok (.aload_n 0, 1) := by decide +kernel
theorem d_H_begin_1 : decode b_H_begin 1 = .ok (.getfield 41, 3) := by decide +kernel
theorem d_H_begin_4 : decode b_H_begin 4 = .ok (.ifCond .eq 6, 3) := by decide +kernel
theorem d_H_begin_7 : decode b_H_begin 7 = .ok (.bipush (-6), 2) := by decide +kernel
theorem d_H_begin_9 : decode b_H_begin 9 = .ok (.ireturn, 1) := by decide +kernel
theorem d_H_begin_10 : decode b_H_begin 10 = .ok (.aload_n 0, 1) := by decide +kernel
theorem d_H_begin_11 : decode b_H_begin 11 = .ok (.iconst 1, 1) := by decide +kernel
theorem d_H_begin_12 : decode b_H_begin 12 = .ok (.putfield 41, 3) := by decide +kernel
theorem d_H_begin_15 : decode b_H_begin 15 = .ok (.aload_n 0, 1) := by decide +kernel
theorem d_H_begin_16 : decode b_H_begin 16 = .ok (.iconst 0, 1) := by decide +kernel
theorem d_H_begin_17 : decode b_H_begin 17 = .ok (.putfield 38, 3) := by decide +kernel
theorem d_H_begin_20 : decode b_H_begin 20 = .ok (.aload_n 0, 1) := by decide +kernel
theorem d_H_begin_21 : decode b_H_begin 21 = .ok (.invokevirtual 98, 3) := by decide +kernel
theorem d_H_begin_24 : decode b_H_begin 24 = .ok (.ireturn, 1) := by decide +kernel
theorem d_H_mark_0 : decode b_H_mark 0 = .ok (.aload_n 0, 1) := by decide +kernel
theorem d_H_mark_1 : decode b_H_mark 1 = .ok (.getfield 41, 3) := by decide +kernel
theorem d_H_mark_4 : decode b_H_mark 4 = .ok (.iconst 1, 1) := by decide +kernel
theorem d_H_mark_5 : decode b_H_mark 5 = .ok (.if_icmp .eq 6, 3) := by decide +kernel
theorem d_H_mark_8 : decode b_H_mark 8 = .ok (.bipush (-6), 2) := by decide +kernel
theorem d_H_mark_10 : decode b_H_mark 10 = .ok (.ireturn, 1) := by decide +kernel
theorem d_H_mark_11 : decode b_H_mark 11 = .ok (.aload_n 0, 1) := by decide +kernel
theorem d_H_mark_12 : decode b_H_mark 12 = .ok (.getfield 27, 3) := by decide +kernel
theorem d_H_mark_15 : decode b_H_mark 15 = .ok (.invokevirtual 101, 3) := by decide +kernel
theorem d_H_mark_18 : decode b_H_mark 18 = .ok (.astore_n 1, 1) := by decide +kernel
theorem d_H_mark_19 : decode b_H_mark 19 = .ok (.aload_n 1, 1) := by decide +kernel
theorem d_H_mark_20 : decode b_H_mark 20 = .ok (.ifnonnull 5, 3) := by decide +kernel
theorem d_H_mark_23 : decode b_H_mark 23 = .ok (.iconst (-1), 1) := by decide +kernel
theorem d_H_mark_24 : decode b_H_mark 24 = .ok (.ireturn, 1) := by decide +kernel
theorem d_H_mark_25 : decode b_H_mark 25 = .ok (.aload_n 1, 1) := by decide +kernel
theorem d_H_mark_26 : decode b_H_mark 26 = .ok (.invokestatic 105, 3) := by decide +kernel
theorem d_H_mark_29 : decode b_H_mark 29 = .ok (.pop, 1) := by decide +kernel
theorem d_H_mark_30 : decode b_H_mark 30 = .ok (.aload_n 1, 1) := by decide +kernel
theorem d_H_mark_31 : decode b_H_mark 31 = .ok (.getfield 78, 3) := by decide +kernel
theorem d_H_mark_34 : decode b_H_mark 34 = .ok (.ireturn, 1) := by decide +kernel
theorem d_H_preclean_0 : decode b_H_preclean 0 = .ok (.aload_n 0, 1) := by decide +kernel
theorem d_H_preclean_1 : decode b_H_preclean 1 = .ok (.getfield 41, 3) := by decide +kernel
theorem d_H_preclean_4 : decode b_H_preclean 4 = .ok (.iconst 1, 1) := by decide +kernel
theorem d_H_preclean_5 : decode b_H_preclean 5 = .ok (.if_icmp .eq 6, 3) := by decide +kernel
theorem d_H_preclean_8 : decode b_H_preclean 8 = .ok (.bipush (-6), 2) := by decide +kernel
theorem d_H_preclean_10 : decode b_H_preclean 10 = .ok (.ireturn, 1) := by decide +kernel
theorem d_H_preclean_11 : decode b_H_preclean 11 = .ok (.iconst 0, 1) := by decide +kernel
theorem d_H_preclean_12 : decode b_H_preclean 12 = .ok (.istore_n 1, 1) := by decide +kernel
theorem d_H_preclean_13 : decode b_H_preclean 13 = .ok (.iload_n 1, 1) := by decide +kernel
theorem d_H_preclean_14 : decode b_H_preclean 14 = .ok (.bipush 8, 2) := by decide +kernel
theorem d_H_preclean_16 : decode b_H_preclean 16 = .ok (.if_icmp .ge 44, 3) := by decide +kernel
theorem d_H_preclean_19 : decode b_H_preclean 19 = .ok (.iconst 1, 1) := by decide +kernel
theorem d_H_preclean_20 : decode b_H_preclean 20 = .ok (.iload_n 1, 1) := by decide +kernel
theorem d_H_preclean_21 : decode b_H_preclean 21 = .ok (.ishl, 1) := by decide +kernel
theorem d_H_preclean_22 : decode b_H_preclean 22 = .ok (.istore_n 2, 1) := by decide +kernel
theorem d_H_preclean_23 : decode b_H_preclean 23 = .ok (.aload_n 0, 1) := by decide +kernel
theorem d_H_preclean_24 : decode b_H_preclean 24 = .ok (.getfield 38, 3) := by decide +kernel
theorem d_H_preclean_27 : decode b_H_preclean 27 = .ok (.iload_n 2, 1) := by decide +kernel
theorem d_H_preclean_28 : decode b_H_preclean 28 = .ok (.iand, 1) := by decide +kernel
theorem d_H_preclean_29 : decode b_H_preclean 29 = .ok (.ifCond .eq 25, 3) := by decide +kernel
theorem d_H_preclean_32 : decode b_H_preclean 32 = .ok (.aload_n 0, 1) := by decide +kernel
theorem d_H_preclean_33 : decode b_H_preclean 33 = .ok (.dup, 1) := by decide +kernel
theorem d_H_preclean_34 : decode b_H_preclean 34 = .ok (.getfield 38, 3) := by decide +kernel
theorem d_H_preclean_37 : decode b_H_preclean 37 = .ok (.iload_n 2, 1) := by decide +kernel
theorem d_H_preclean_38 : decode b_H_preclean 38 = .ok (.iconst (-1), 1) := by decide +kernel
theorem d_H_preclean_39 : decode b_H_preclean 39 = .ok (.ixor, 1) := by decide +kernel
theorem d_H_preclean_40 : decode b_H_preclean 40 = .ok (.iand, 1) := by decide +kernel
theorem d_H_preclean_41 : decode b_H_preclean 41 = .ok (.putfield 38, 3) := by decide +kernel
theorem d_H_preclean_44 : decode b_H_preclean 44 = .ok (.aload_n 0, 1) := by decide +kernel
theorem d_H_preclean_45 : decode b_H_preclean 45 = .ok (.getfield 27, 3) := by decide +kernel
theorem d_H_preclean_48 : decode b_H_preclean 48 = .ok (.iload_n 2, 1) := by decide +kernel
theorem d_H_preclean_49 : decode b_H_preclean 49 = .ok (.invokevirtual 109, 3) := by decide +kernel
theorem d_H_preclean_52 : decode b_H_preclean 52 = .ok (.iload_n 1, 1) := by decide +kernel
theorem d_H_preclean_53 : decode b_H_preclean 53 = .ok (.ireturn, 1) := by decide +kernel
theorem d_H_preclean_54 : decode b_H_preclean 54 = .ok (.iinc 1 1, 3) := by decide +kernel
theorem d_H_preclean_57 : decode b_H_preclean 57 = .ok (.goto (-44), 3) := by decide +kernel
theorem d_H_preclean_60 : decode b_H_preclean 60 = .ok (.iconst (-1), 1) := by decide +kernel
theorem d_H_preclean_61 : decode b_H_preclean 61 = .ok (.ireturn, 1) := by decide +kernel
theorem d_H_remark_0 : decode b_H_remark 0 = .ok (.aload_n 0, 1) := by decide +kernel
theorem d_H_remark_1 : decode b_H_remark 1 = .ok (.getfield 41, 3) := by decide +kernel
theorem d_H_remark_4 : decode b_H_remark 4 = .ok (.iconst 1, 1) := by decide +kernel
theorem d_H_remark_5 : decode b_H_remark 5 = .ok (.if_icmp .eq 6, 3) := by decide +kernel
theorem d_H_remark_8 : decode b_H_remark 8 = .ok (.bipush (-6), 2) := by decide +kernel
theorem d_H_remark_10 : decode b_H_remark 10 = .ok (.ireturn, 1) := by decide +kernel
theorem d_H_remark_11 : decode b_H_remark 11 = .ok (.aload_n 0, 1) := by decide +kernel
theorem d_H_remark_12 : decode b_H_remark 12 = .ok (.getfield 27, 3) := by decide +kernel
theorem d_H_remark_15 : decode b_H_remark 15 = .ok (.aload_n 0, 1) := by decide +kernel
theorem d_H_remark_16 : decode b_H_remark 16 = .ok (.getfield 34, 3) := by decide +kernel
theorem d_H_remark_19 : decode b_H_remark 19 = .ok (.aload_n 0, 1) := by decide +kernel
theorem d_H_remark_20 : decode b_H_remark 20 = .ok (.getfield 38, 3) := by decide +kernel
theorem d_H_remark_23 : decode b_H_remark 23 = .ok (.ior, 1) := by decide +kernel
theorem d_H_remark_24 : decode b_H_remark 24 = .ok (.invokevirtual 109, 3) := by decide +kernel
theorem d_H_remark_27 : decode b_H_remark 27 = .ok (.aload_n 0, 1) := by decide +kernel
theorem d_H_remark_28 : decode b_H_remark 28 = .ok (.invokevirtual 98, 3) := by decide +kernel
theorem d_H_remark_31 : decode b_H_remark 31 = .ok (.aload_n 0, 1) := by decide +kernel
theorem d_H_remark_32 : decode b_H_remark 32 = .ok (.invokevirtual 112, 3) := by decide +kernel
theorem d_H_remark_35 : decode b_H_remark 35 = .ok (.iadd, 1) := by decide +kernel
theorem d_H_remark_36 : decode b_H_remark 36 = .ok (.aload_n 0, 1) := by decide +kernel
theorem d_H_remark_37 : decode b_H_remark 37 = .ok (.invokevirtual 115, 3) := by decide +kernel
theorem d_H_remark_40 : decode b_H_remark 40 = .ok (.iadd, 1) := by decide +kernel
theorem d_H_remark_41 : decode b_H_remark 41 = .ok (.istore_n 1, 1) := by decide +kernel
theorem d_H_remark_42 : decode b_H_remark 42 = .ok (.aload_n 0, 1) := by decide +kernel
theorem d_H_remark_43 : decode b_H_remark 43 = .ok (.iconst 0, 1) := by decide +kernel
theorem d_H_remark_44 : decode b_H_remark 44 = .ok (.putfield 38, 3) := by decide +kernel
theorem d_H_remark_47 : decode b_H_remark 47 = .ok (.aload_n 0, 1) := by decide +kernel
theorem d_H_remark_48 : decode b_H_remark 48 = .ok (.iconst 2, 1) := by decide +kernel
theorem d_H_remark_49 : decode b_H_remark 49 = .ok (.putfield 41, 3) := by decide +kernel
theorem d_H_remark_52 : decode b_H_remark 52 = .ok (.aload_n 0, 1) := by decide +kernel
theorem d_H_remark_53 : decode b_H_remark 53 = .ok (.iconst 0, 1) := by decide +kernel
theorem d_H_remark_54 : decode b_H_remark 54 = .ok (.putfield 44, 3) := by decide +kernel
theorem d_H_remark_57 : decode b_H_remark 57 = .ok (.iload_n 1, 1) := by decide +kernel
theorem d_H_remark_58 : decode b_H_remark 58 = .ok (.ireturn, 1) := by decide +kernel
theorem d_H_sweep_0 : decode b_H_sweep 0 = .ok (.aload_n 0, 1) := by decide +kernel
theorem d_H_sweep_1 : decode b_H_sweep 1 = .ok (.getfield 41, 3) := by decide +kernel
theorem d_H_sweep_4 : decode b_H_sweep 4 = .ok (.iconst 2, 1) := by decide +kernel
theorem d_H_sweep_5 : decode b_H_sweep 5 = .ok (.if_icmp .eq 6, 3) := by decide +kernel
theorem d_H_sweep_8 : decode b_H_sweep 8 = .ok (.bipush (-6), 2) := by decide +kernel
theorem d_H_sweep_10 : decode b_H_sweep 10 = .ok (.ireturn, 1) := by decide +kernel
theorem d_H_sweep_11 : decode b_H_sweep 11 = .ok (.aload_n 0, 1) := by decide +kernel
theorem d_H_sweep_12 : decode b_H_sweep 12 = .ok (.getfield 27, 3) := by decide +kernel
theorem d_H_sweep_15 : decode b_H_sweep 15 = .ok (.aload_n 0, 1) := by decide +kernel
theorem d_H_sweep_16 : decode b_H_sweep 16 = .ok (.getfield 44, 3) := by decide +kernel
theorem d_H_sweep_19 : decode b_H_sweep 19 = .ok (.invokevirtual 118, 3) := by decide +kernel
theorem d_H_sweep_22 : decode b_H_sweep 22 = .ok (.astore_n 1, 1) := by decide +kernel
theorem d_H_sweep_23 : decode b_H_sweep 23 = .ok (.aload_n 1, 1) := by decide +kernel
theorem d_H_sweep_24 : decode b_H_sweep 24 = .ok (.ifnonnull 19, 3) := by decide +kernel
theorem d_H_sweep_27 : decode b_H_sweep 27 = .ok (.aload_n 0, 1) := by decide +kernel
theorem d_H_sweep_28 : decode b_H_sweep 28 = .ok (.iconst 0, 1) := by decide +kernel
theorem d_H_sweep_29 : decode b_H_sweep 29 = .ok (.putfield 41, 3) := by decide +kernel
theorem d_H_sweep_32 : decode b_H_sweep 32 = .ok (.aload_n 0, 1) := by decide +kernel
theorem d_H_sweep_33 : decode b_H_sweep 33 = .ok (.getfield 27, 3) := by decide +kernel
theorem d_H_sweep_36 : decode b_H_sweep 36 = .ok (.invokevirtual 121, 3) := by decide +kernel
theorem d_H_sweep_39 : decode b_H_sweep 39 = .ok (.sipush 128, 3) := by decide +kernel
theorem d_H_sweep_42 : decode b_H_sweep 42 = .ok (.ireturn, 1) := by decide +kernel
theorem d_H_sweep_43 : decode b_H_sweep 43 = .ok (.aload_n 1, 1) := by decide +kernel
theorem d_H_sweep_44 : decode b_H_sweep 44 = .ok (.getfield 78, 3) := by decide +kernel
theorem d_H_sweep_47 : decode b_H_sweep 47 = .ok (.istore_n 2, 1) := by decide +kernel
theorem d_H_sweep_48 : decode b_H_sweep 48 = .ok (.aload_n 0, 1) := by decide +kernel
theorem d_H_sweep_49 : decode b_H_sweep 49 = .ok (.iload_n 2, 1) := by decide +kernel
theorem d_H_sweep_50 : decode b_H_sweep 50 = .ok (.aload_n 1, 1) := by decide +kernel
theorem d_H_sweep_51 : decode b_H_sweep 51 = .ok (.invokevirtual 124, 3) := by decide +kernel
theorem d_H_sweep_54 : decode b_H_sweep 54 = .ok (.iadd, 1) := by decide +kernel
theorem d_H_sweep_55 : decode b_H_sweep 55 = .ok (.putfield 44, 3) := by decide +kernel
theorem d_H_sweep_58 : decode b_H_sweep 58 = .ok (.aload_n 1, 1) := by decide +kernel
theorem d_H_sweep_59 : decode b_H_sweep 59 = .ok (.getfield 127, 3) := by decide +kernel
theorem d_H_sweep_62 : decode b_H_sweep 62 = .ok (.ifCond .eq 8, 3) := by decide +kernel
theorem d_H_sweep_65 : decode b_H_sweep 65 = .ok (.bipush 64, 2) := by decide +kernel
theorem d_H_sweep_67 : decode b_H_sweep 67 = .ok (.iload_n 2, 1) := by decide +kernel
theorem d_H_sweep_68 : decode b_H_sweep 68 = .ok (.iadd, 1) := by decide +kernel
theorem d_H_sweep_69 : decode b_H_sweep 69 = .ok (.ireturn, 1) := by decide +kernel
theorem d_H_sweep_70 : decode b_H_sweep 70 = .ok (.aload_n 0, 1) := by decide +kernel
theorem d_H_sweep_71 : decode b_H_sweep 71 = .ok (.getfield 27, 3) := by decide +kernel
theorem d_H_sweep_74 : decode b_H_sweep 74 = .ok (.aload_n 1, 1) := by decide +kernel
theorem d_H_sweep_75 : decode b_H_sweep 75 = .ok (.invokevirtual 131, 3) := by decide +kernel
theorem d_H_sweep_78 : decode b_H_sweep 78 = .ok (.aload_n 1, 1) := by decide +kernel
theorem d_H_sweep_79 : decode b_H_sweep 79 = .ok (.invokevirtual 135, 3) := by decide +kernel
theorem d_H_sweep_82 : decode b_H_sweep 82 = .ok (.iload_n 2, 1) := by decide +kernel
theorem d_H_sweep_83 : decode b_H_sweep 83 = .ok (.ireturn, 1) := by decide +kernel
theorem d_H_phase_0 : decode b_H_phase 0 = .ok (.aload_n 0, 1) := by decide +kernel
theorem d_H_phase_1 : decode b_H_phase 1 = .ok (.getfield 41, 3) := by decide +kernel
theorem d_H_phase_4 : decode b_H_phase 4 = .ok (.ireturn, 1) := by decide +kernel
theorem d_H_oldCells_0 : decode b_H_oldCells 0 = .ok (.aload_n 0, 1) := by decide +kernel
theorem d_H_oldCells_1 : decode b_H_oldCells 1 = .ok (.getfield 27, 3) := by decide +kernel
theorem d_H_oldCells_4 : decode b_H_oldCells 4 = .ok (.invokevirtual 138, 3) := by decide +kernel
theorem d_H_oldCells_7 : decode b_H_oldCells 7 = .ok (.ireturn, 1) := by decide +kernel
theorem d_H_youngCells_0 : decode b_H_youngCells 0 = .ok (.aload_n 0, 1) := by decide +kernel
theorem d_H_youngCells_1 : decode b_H_youngCells 1 = .ok (.getfield 20, 3) := by decide +kernel
theorem d_H_youngCells_4 : decode b_H_youngCells 4 = .ok (.invokevirtual 141, 3) := by decide +kernel
theorem d_H_youngCells_7 : decode b_H_youngCells 7 = .ok (.ireturn, 1) := by decide +kernel
theorem d_H_cards_0 : decode b_H_cards 0 = .ok (.aload_n 0, 1) := by decide +kernel
theorem d_H_cards_1 : decode b_H_cards 1 = .ok (.getfield 34, 3) := by decide +kernel
theorem d_H_cards_4 : decode b_H_cards 4 = .ok (.aload_n 0, 1) := by decide +kernel
theorem d_H_cards_5 : decode b_H_cards 5 = .ok (.getfield 38, 3) := by decide +kernel
theorem d_H_cards_8 : decode b_H_cards 8 = .ok (.bipush 8, 2) := by decide +kernel
theorem d_H_cards_10 : decode b_H_cards 10 = .ok (.ishl, 1) := by decide +kernel
theorem d_H_cards_11 : decode b_H_cards 11 = .ok (.ior, 1) := by decide +kernel
theorem d_H_cards_12 : decode b_H_cards 12 = .ok (.ireturn, 1) := by decide +kernel
theorem d_H_marked_0 : decode b_H_marked 0 = .ok (.iconst 0, 1) := by decide +kernel
theorem d_H_marked_1 : decode b_H_marked 1 = .ok (.istore_n 1, 1) := by decide +kernel
theorem d_H_marked_2 : decode b_H_marked 2 = .ok (.iconst 0, 1) := by decide +kernel
theorem d_H_marked_3 : decode b_H_marked 3 = .ok (.istore_n 2, 1) := by decide +kernel
theorem d_H_marked_4 : decode b_H_marked 4 = .ok (.iload_n 2, 1) := by decide +kernel
theorem d_H_marked_5 : decode b_H_marked 5 = .ok (.bipush 64, 2) := by decide +kernel
theorem d_H_marked_7 : decode b_H_marked 7 = .ok (.if_icmp .ge 46, 3) := by decide +kernel
theorem d_H_marked_10 : decode b_H_marked 10 = .ok (.aload_n 0, 1) := by decide +kernel
theorem d_H_marked_11 : decode b_H_marked 11 = .ok (.getfield 27, 3) := by decide +kernel
theorem d_H_marked_14 : decode b_H_marked 14 = .ok (.iload_n 2, 1) := by decide +kernel
theorem d_H_marked_15 : decode b_H_marked 15 = .ok (.invokevirtual 142, 3) := by decide +kernel
theorem d_H_marked_18 : decode b_H_marked 18 = .ok (.astore_n 3, 1) := by decide +kernel
theorem d_H_marked_19 : decode b_H_marked 19 = .ok (.aload_n 3, 1) := by decide +kernel
theorem d_H_marked_20 : decode b_H_marked 20 = .ok (.ifnull 27, 3) := by decide +kernel
theorem d_H_marked_23 : decode b_H_marked 23 = .ok (.aload_n 3, 1) := by decide +kernel
theorem d_H_marked_24 : decode b_H_marked 24 = .ok (.getfield 127, 3) := by decide +kernel
theorem d_H_marked_27 : decode b_H_marked 27 = .ok (.ifCond .eq 20, 3) := by decide +kernel
theorem d_H_marked_30 : decode b_H_marked 30 = .ok (.iload_n 1, 1) := by decide +kernel
theorem d_H_marked_31 : decode b_H_marked 31 = .ok (.aload_n 3, 1) := by decide +kernel
theorem d_H_marked_32 : decode b_H_marked 32 = .ok (.getfield 145, 3) := by decide +kernel
theorem d_H_marked_35 : decode b_H_marked 35 = .ok (.ifCond .eq 9, 3) := by decide +kernel
theorem d_H_marked_38 : decode b_H_marked 38 = .ok (.sipush 1001, 3) := by decide +kernel
theorem d_H_marked_41 : decode b_H_marked 41 = .ok (.goto 4, 3) := by decide +kernel
theorem d_H_marked_44 : decode b_H_marked 44 = .ok (.iconst 1, 1) := by decide +kernel
theorem d_H_marked_45 : decode b_H_marked 45 = .ok (.iadd, 1) := by decide +kernel
theorem d_H_marked_46 : decode b_H_marked 46 = .ok (.istore_n 1, 1) := by decide +kernel
theorem d_H_marked_47 : decode b_H_marked 47 = .ok (.iinc 2 1, 3) := by decide +kernel
theorem d_H_marked_50 : decode b_H_marked 50 = .ok (.goto (-46), 3) := by decide +kernel
theorem d_H_marked_53 : decode b_H_marked 53 = .ok (.iload_n 1, 1) := by decide +kernel
theorem d_H_marked_54 : decode b_H_marked 54 = .ok (.ireturn, 1) := by decide +kernel
theorem d_H_isRoot_0 : decode b_H_isRoot 0 = .ok (.iload_n 0, 1) := by decide +kernel
theorem d_H_isRoot_1 : decode b_H_isRoot 1 = .ok (.ifCond .lt 13, 3) := by decide +kernel
theorem d_H_isRoot_4 : decode b_H_isRoot 4 = .ok (.iload_n 0, 1) := by decide +kernel
theorem d_H_isRoot_5 : decode b_H_isRoot 5 = .ok (.bipush 6, 2) := by decide +kernel
theorem d_H_isRoot_7 : decode b_H_isRoot 7 = .ok (.if_icmp .ge 7, 3) := by decide +kernel
theorem d_H_isRoot_10 : decode b_H_isRoot 10 = .ok (.iconst 1, 1) := by decide +kernel
theorem d_H_isRoot_11 : decode b_H_isRoot 11 = .ok (.goto 4, 3) := by decide +kernel
theorem d_H_isRoot_14 : decode b_H_isRoot 14 = .ok (.iconst 0, 1) := by decide +kernel
theorem d_H_isRoot_15 : decode b_H_isRoot 15 = .ok (.ireturn, 1) := by decide +kernel
theorem d_H_cardOf_0 : decode b_H_cardOf 0 = .ok (.iconst 1, 1) := by decide +kernel
theorem d_H_cardOf_1 : decode b_H_cardOf 1 = .ok (.iload_n 0, 1) := by decide +kernel
theorem d_H_cardOf_2 : decode b_H_cardOf 2 = .ok (.bipush 8, 2) := by decide +kernel
theorem d_H_cardOf_4 : decode b_H_cardOf 4 = .ok (.idiv, 1) := by decide +kernel
theorem d_H_cardOf_5 : decode b_H_cardOf 5 = .ok (.ishl, 1) := by decide +kernel
theorem d_H_cardOf_6 : decode b_H_cardOf 6 = .ok (.ireturn, 1) := by decide +kernel
theorem d_H_thingOf_0 : decode b_H_thingOf 0 = .ok (.iload_n 1, 1) := by decide +kernel
theorem d_H_thingOf_1 : decode b_H_thingOf 1 = .ok (.invokestatic 47, 3) := by decide +kernel
theorem d_H_thingOf_4 : decode b_H_thingOf 4 = .ok (.ifCond .eq 12, 3) := by decide +kernel
theorem d_H_thingOf_7 : decode b_H_thingOf 7 = .ok (.aload_n 0, 1) := by decide +kernel
theorem d_H_thingOf_8 : decode b_H_thingOf 8 = .ok (.getfield 11, 3) := by decide +kernel
theorem d_H_thingOf_11 : decode b_H_thingOf 11 = .ok (.iload_n 1, 1) := by decide +kernel
theorem d_H_thingOf_12 : decode b_H_thingOf 12 = .ok (.aaload, 1) := by decide +kernel
theorem d_H_thingOf_13 : decode b_H_thingOf 13 = .ok (.goto 4, 3) := by decide +kernel
theorem d_H_thingOf_16 : decode b_H_thingOf 16 = .ok (.aconst_null, 1) := by decide +kernel
theorem d_H_thingOf_17 : decode b_H_thingOf 17 = .ok (.areturn, 1) := by decide +kernel
theorem d_H_hasRoom_0 : decode b_H_hasRoom 0 = .ok (.aload_n 0, 1) := by decide +kernel
theorem d_H_hasRoom_1 : decode b_H_hasRoom 1 = .ok (.getfield 20, 3) := by decide +kernel
theorem d_H_hasRoom_4 : decode b_H_hasRoom 4 = .ok (.invokevirtual 141, 3) := by decide +kernel
theorem d_H_hasRoom_7 : decode b_H_hasRoom 7 = .ok (.iload_n 1, 1) := by decide +kernel
theorem d_H_hasRoom_8 : decode b_H_hasRoom 8 = .ok (.iadd, 1) := by decide +kernel
theorem d_H_hasRoom_9 : decode b_H_hasRoom 9 = .ok (.bipush 20, 2) := by decide +kernel
theorem d_H_hasRoom_11 : decode b_H_hasRoom 11 = .ok (.if_icmp .gt 7, 3) := by decide +kernel
theorem d_H_hasRoom_14 : decode b_H_hasRoom 14 = .ok (.iconst 1, 1) := by decide +kernel
theorem d_H_hasRoom_15 : decode b_H_hasRoom 15 = .ok (.goto 4, 3) := by decide +kernel
theorem d_H_hasRoom_18 : decode b_H_hasRoom 18 = .ok (.iconst 0, 1) := by decide +kernel
theorem d_H_hasRoom_19 : decode b_H_hasRoom 19 = .ok (.ireturn, 1) := by decide +kernel
theorem d_H_placeAsOld_0 : decode b_H_placeAsOld 0 = .ok (.aload_n 0, 1) := by decide +kernel
theorem d_H_placeAsOld_1 : decode b_H_placeAsOld 1 = .ok (.getfield 27, 3) := by decide +kernel
theorem d_H_placeAsOld_4 : decode b_H_placeAsOld 4 = .ok (.aload_n 1, 1) := by decide +kernel
theorem d_H_placeAsOld_5 : decode b_H_placeAsOld 5 = .ok (.invokevirtual 124, 3) := by decide +kernel
theorem d_H_placeAsOld_8 : decode b_H_placeAsOld 8 = .ok (.invokevirtual 148, 3) := by decide +kernel
theorem d_H_placeAsOld_11 : decode b_H_placeAsOld 11 = .ok (.istore_n 2, 1) := by decide +kernel
theorem d_H_placeAsOld_12 : decode b_H_placeAsOld 12 = .ok (.iload_n 2, 1) := by decide +kernel
theorem d_H_placeAsOld_13 : decode b_H_placeAsOld 13 = .ok (.iconst (-1), 1) := by decide +kernel
theorem d_H_placeAsOld_14 : decode b_H_placeAsOld 14 = .ok (.if_icmp .ne 5, 3) := by decide +kernel
theorem d_H_placeAsOld_17 : decode b_H_placeAsOld 17 = .ok (.iconst 0, 1) := by decide +kernel
theorem d_H_placeAsOld_18 : decode b_H_placeAsOld 18 = .ok (.ireturn, 1) := by decide +kernel
theorem d_H_placeAsOld_19 : decode b_H_placeAsOld 19 = .ok (.aload_n 0, 1) := by decide +kernel
theorem d_H_placeAsOld_20 : decode b_H_placeAsOld 20 = .ok (.getfield 27, 3) := by decide +kernel
theorem d_H_placeAsOld_23 : decode b_H_placeAsOld 23 = .ok (.aload_n 1, 1) := by decide +kernel
theorem d_H_placeAsOld_24 : decode b_H_placeAsOld 24 = .ok (.iload_n 2, 1) := by decide +kernel
theorem d_H_placeAsOld_25 : decode b_H_placeAsOld 25 = .ok (.invokevirtual 151, 3) := by decide +kernel
theorem d_H_placeAsOld_28 : decode b_H_placeAsOld 28 = .ok (.aload_n 0, 1) := by decide +kernel
theorem d_H_placeAsOld_29 : decode b_H_placeAsOld 29 = .ok (.dup, 1) := by decide +kernel
theorem d_H_placeAsOld_30 : decode b_H_placeAsOld 30 = .ok (.getfield 34, 3) := by decide +kernel
theorem d_H_placeAsOld_33 : decode b_H_placeAsOld 33 = .ok (.aload_n 1, 1) := by decide +kernel
theorem d_H_placeAsOld_34 : decode b_H_placeAsOld 34 = .ok (.invokevirtual 155, 3) := by decide +kernel
theorem d_H_placeAsOld_37 : decode b_H_placeAsOld 37 = .ok (.ior, 1) := by decide +kernel
theorem d_H_placeAsOld_38 : decode b_H_placeAsOld 38 = .ok (.putfield 34, 3) := by decide +kernel
theorem d_H_placeAsOld_41 : decode b_H_placeAsOld 41 = .ok (.aload_n 1, 1) := by decide +kernel
theorem d_H_placeAsOld_42 : decode b_H_placeAsOld 42 = .ok (.aload_n 0, 1) := by decide +kernel
theorem d_H_placeAsOld_43 : decode b_H_placeAsOld 43 = .ok (.getfield 41, 3) := by decide +kernel
theorem d_H_placeAsOld_46 : decode b_H_placeAsOld 46 = .ok (.ifCond .eq 7, 3) := by decide +kernel
theorem d_H_placeAsOld_49 : decode b_H_placeAsOld 49 = .ok (.iconst 1, 1) := by decide +kernel
theorem d_H_placeAsOld_50 : decode b_H_placeAsOld 50 = .ok (.goto 4, 3) := by decide +kernel
theorem d_H_placeAsOld_53 : decode b_H_placeAsOld 53 = .ok (.iconst 0, 1) := by decide +kernel
theorem d_H_placeAsOld_54 : decode b_H_placeAsOld 54 = .ok (.putfield 127, 3) := by decide +kernel
theorem d_H_placeAsOld_57 : decode b_H_placeAsOld 57 = .ok (.iconst 1, 1) := by decide +kernel
theorem d_H_placeAsOld_58 : decode b_H_placeAsOld 58 = .ok (.ireturn, 1) := by decide +kernel
theorem d_H_collectYoung_0 : decode b_H_collectYoung 0 = .ok (.aload_n 0, 1) := by decide +kernel
theorem d_H_collectYoung_1 : decode b_H_collectYoung 1 = .ok (.getfield 34, 3) := by decide +kernel
theorem d_H_collectYoung_4 : decode b_H_collectYoung 4 = .ok (.istore_n 1, 1) := by decide +kernel
theorem d_H_collectYoung_5 : decode b_H_collectYoung 5 = .ok (.iconst 0, 1) := by decide +kernel
theorem d_H_collectYoung_6 : decode b_H_collectYoung 6 = .ok (.istore_n 2, 1) := by decide +kernel
theorem d_H_collectYoung_7 : decode b_H_collectYoung 7 = .ok (.iload_n 2, 1) := by decide +kernel
theorem d_H_collectYoung_8 : decode b_H_collectYoung 8 = .ok (.bipush 6, 2) := by decide +kernel
theorem d_H_collectYoung_10 : decode b_H_collectYoung 10 = .ok (.if_icmp .ge 19, 3) := by decide +kernel
theorem d_H_collectYoung_13 : decode b_H_collectYoung 13 = .ok (.aload_n 0, 1) := by decide +kernel
theorem d_H_collectYoung_14 : decode b_H_collectYoung 14 = .ok (.aload_n 0, 1) := by decide +kernel
theorem d_H_collectYoung_15 : decode b_H_collectYoung 15 = .ok (.getfield 11, 3) := by decide +kernel
theorem d_H_collectYoung_18 : decode b_H_collectYoung 18 = .ok (.iload_n 2, 1) := by decide +kernel
theorem d_H_collectYoung_19 : decode b_H_collectYoung 19 = .ok (.aaload, 1) := by decide +kernel
theorem d_H_collectYoung_20 : decode b_H_collectYoung 20 = .ok (.invokevirtual 158, 3) := by decide +kernel
theorem d_H_collectYoung_23 : decode b_H_collectYoung 23 = .ok (.iinc 2 1, 3) := by decide +kernel
theorem d_H_collectYoung_26 : decode b_H_collectYoung 26 = .ok (.goto (-19), 3) := by decide +kernel
theorem d_H_collectYoung_29 : decode b_H_collectYoung 29 = .ok (.aload_n 0, 1) := by decide +kernel
theorem d_H_collectYoung_30 : decode b_H_collectYoung 30 = .ok (.iload_n 1, 1) := by decide +kernel
theorem d_H_collectYoung_31 : decode b_H_collectYoung 31 = .ok (.invokevirtual 161, 3) := by decide +kernel
theorem d_H_collectYoung_34 : decode b_H_collectYoung 34 = .ok (.iconst 0, 1) := by decide +kernel
theorem d_H_collectYoung_35 : decode b_H_collectYoung 35 = .ok (.istore_n 2, 1) := by decide +kernel
theorem d_H_collectYoung_36 : decode b_H_collectYoung 36 = .ok (.iload_n 2, 1) := by decide +kernel
theorem d_H_collectYoung_37 : decode b_H_collectYoung 37 = .ok (.bipush 84, 2) := by decide +kernel
theorem d_H_collectYoung_39 : decode b_H_collectYoung 39 = .ok (.if_icmp .ge 33, 3) := by decide +kernel
theorem d_H_collectYoung_42 : decode b_H_collectYoung 42 = .ok (.iload_n 2, 1) := by decide +kernel
theorem d_H_collectYoung_43 : decode b_H_collectYoung 43 = .ok (.aload_n 0, 1) := by decide +kernel
theorem d_H_collectYoung_44 : decode b_H_collectYoung 44 = .ok (.getfield 31, 3) := by decide +kernel
theorem d_H_collectYoung_47 : decode b_H_collectYoung 47 = .ok (.getfield 164, 3) := by decide +kernel
theorem d_H_collectYoung_50 : decode b_H_collectYoung 50 = .ok (.if_icmp .ge 22, 3) := by decide +kernel
theorem d_H_collectYoung_53 : decode b_H_collectYoung 53 = .ok (.aload_n 0, 1) := by decide +kernel
theorem d_H_collectYoung_54 : decode b_H_collectYoung 54 = .ok (.aload_n 0, 1) := by decide +kernel
theorem d_H_collectYoung_55 : decode b_H_collectYoung 55 = .ok (.getfield 31, 3) := by decide +kernel
theorem d_H_collectYoung_58 : decode b_H_collectYoung 58 = .ok (.getfield 167, 3) := by decide +kernel
theorem d_H_collectYoung_61 : decode b_H_collectYoung 61 = .ok (.iload_n 2, 1) := by decide +kernel
theorem d_H_collectYoung_62 : decode b_H_collectYoung 62 = .ok (.aaload, 1) := by decide +kernel
theorem d_H_collectYoung_63 : decode b_H_collectYoung 63 = .ok (.invokevirtual 170, 3) := by decide +kernel
theorem d_H_collectYoung_66 : decode b_H_collectYoung 66 = .ok (.iinc 2 1, 3) := by decide +kernel
theorem d_H_collectYoung_69 : decode b_H_collectYoung 69 = .ok (.goto (-33), 3) := by decide +kernel
theorem d_H_collectYoung_72 : decode b_H_collectYoung 72 = .ok (.aload_n 0, 1) := by decide +kernel
theorem d_H_collectYoung_73 : decode b_H_collectYoung 73 = .ok (.invokevirtual 173, 3) := by decide +kernel
theorem d_H_collectYoung_76 : decode b_H_collectYoung 76 = .ok (.aload_n 0, 1) := by decide +kernel
theorem d_H_collectYoung_77 : decode b_H_collectYoung 77 = .ok (.invokevirtual 176, 3) := by decide +kernel
theorem d_H_collectYoung_80 : decode b_H_collectYoung 80 = .ok (.istore_n 2, 1) := by decide +kernel
theorem d_H_collectYoung_81 : decode b_H_collectYoung 81 = .ok (.aload_n 0, 1) := by decide +kernel
theorem d_H_collectYoung_82 : decode b_H_collectYoung 82 = .ok (.getfield 31, 3) := by decide +kernel
theorem d_H_collectYoung_85 : decode b_H_collectYoung 85 = .ok (.invokevirtual 179, 3) := by decide +kernel
theorem d_H_collectYoung_88 : decode b_H_collectYoung 88 = .ok (.aload_n 0, 1) := by decide +kernel
theorem d_H_collectYoung_89 : decode b_H_collectYoung 89 = .ok (.invokevirtual 182, 3) := by decide +kernel
theorem d_H_collectYoung_92 : decode b_H_collectYoung 92 = .ok (.iload_n 2, 1) := by decide +kernel
theorem d_H_collectYoung_93 : decode b_H_collectYoung 93 = .ok (.ireturn, 1) := by decide +kernel
theorem d_H_reachYoung_0 : decode b_H_reachYoung 0 = .ok (.aload_n 1, 1) := by decide +kernel
theorem d_H_reachYoung_1 : decode b_H_reachYoung 1 = .ok (.ifnull 21, 3) := by decide +kernel
theorem d_H_reachYoung_4 : decode b_H_reachYoung 4 = .ok (.aload_n 1, 1) := by decide +kernel
theorem d_H_reachYoung_5 : decode b_H_reachYoung 5 = .ok (.invokevirtual 92, 3) := by decide +kernel
theorem d_H_reachYoung_8 : decode b_H_reachYoung 8 = .ok (.ifCond .eq 14, 3) := by decide +kernel
theorem d_H_reachYoung_11 : decode b_H_reachYoung 11 = .ok (.aload_n 0, 1) := by decide +kernel
theorem d_H_reachYoung_12 : decode b_H_reachYoung 12 = .ok (.getfield 31, 3) := by decide +kernel
theorem d_H_reachYoung_15 : decode b_H_reachYoung 15 = .ok (.aload_n 1, 1) := by decide +kernel
theorem d_H_reachYoung_16 : decode b_H_reachYoung 16 = .ok (.invokevirtual 185, 3) := by decide +kernel
theorem d_H_reachYoung_19 : decode b_H_reachYoung 19 = .ok (.ifCond .ne 4, 3) := by decide +kernel
theorem d_H_reachYoung_22 : decode b_H_reachYoung 22 = .ok (.return_, 1) := by decide +kernel
theorem d_H_reachYoung_23 : decode b_H_reachYoung 23 = .ok (.aload_n 1, 1) := by decide +kernel
theorem d_H_reachYoung_24 : decode b_H_reachYoung 24 = .ok (.aload_n 1, 1) := by decide +kernel
theorem d_H_reachYoung_25 : decode b_H_reachYoung 25 = .ok (.getfield 95, 3) := by decide +kernel
theorem d_H_reachYoung_28 : decode b_H_reachYoung 28 = .ok (.iconst 1, 1) := by decide +kernel
theorem d_H_reachYoung_29 : decode b_H_reachYoung 29 = .ok (.iadd, 1) := by decide +kernel
theorem d_H_reachYoung_30 : decode b_H_reachYoung 30 = .ok (.bipush 9, 2) := by decide +kernel
theorem d_H_reachYoung_32 : decode b_H_reachYoung 32 = .ok (.invokestatic 188, 3) := by decide +kernel
theorem d_H_reachYoung_35 : decode b_H_reachYoung 35 = .ok (.putfield 95, 3) := by decide +kernel
theorem d_H_reachYoung_38 : decode b_H_reachYoung 38 = .ok (.aload_n 1, 1) := by decide +kernel
theorem d_H_reachYoung_39 : decode b_H_reachYoung 39 = .ok (.getfield 95, 3) := by decide +kernel
theorem d_H_reachYoung_42 : decode b_H_reachYoung 42 = .ok (.iconst 2, 1) := by decide +kernel
theorem d_H_reachYoung_43 : decode b_H_reachYoung 43 = .ok (.if_icmp .lt 9, 3) := by decide +kernel
theorem d_H_reachYoung_46 : decode b_H_reachYoung 46 = .ok (.aload_n 0, 1) := by decide +kernel
theorem d_H_reachYoung_47 : decode b_H_reachYoung 47 = .ok (.aload_n 1, 1) := by decide +kernel
theorem d_H_reachYoung_48 : decode b_H_reachYoung 48 = .ok (.invokevirtual 194, 3) := by decide +kernel
theorem d_H_reachYoung_51 : decode b_H_reachYoung 51 = .ok (.pop, 1) := by decide +kernel
theorem d_H_reachYoung_52 : decode b_H_reachYoung 52 = .ok (.return_, 1) := by decide +kernel
theorem d_H_reachFromCards_0 : decode b_H_reachFromCards 0 = .ok (.iconst 0, 1) := by decide +kernel
theorem d_H_reachFromCards_1 : decode b_H_reachFromCards 1 = .ok (.istore_n 2, 1) := by decide +kernel
theorem d_H_reachFromCards_2 : decode b_H_reachFromCards 2 = .ok (.iload_n 2, 1) := by decide +kernel
theorem d_H_reachFromCards_3 : decode b_H_reachFromCards 3 = .ok (.bipush 64, 2) := by decide +kernel
theorem d_H_reachFromCards_5 : decode b_H_reachFromCards 5 = .ok (.if_icmp .ge 63, 3) := by decide +kernel
theorem d_H_reachFromCards_8 : decode b_H_reachFromCards 8 = .ok (.aload_n 0, 1) := by decide +kernel
theorem d_H_reachFromCards_9 : decode b_H_reachFromCards 9 = .ok (.getfield 27, 3) := by decide +kernel
theorem d_H_reachFromCards_12 : decode b_H_reachFromCards 12 = .ok (.getfield 197, 3) := by decide +kernel
theorem d_H_reachFromCards_15 : decode b_H_reachFromCards 15 = .ok (.iload_n 2, 1) := by decide +kernel
theorem d_H_reachFromCards_16 : decode b_H_reachFromCards 16 = .ok (.aaload, 1) := by decide +kernel
theorem d_H_reachFromCards_17 : decode b_H_reachFromCards 17 = .ok (.astore_n 3, 1) := by decide +kernel
theorem d_H_reachFromCards_18 : decode b_H_reachFromCards 18 = .ok (.aload_n 3, 1) := by decide +kernel
theorem d_H_reachFromCards_19 : decode b_H_reachFromCards 19 = .ok (.ifnull 14, 3) := by decide +kernel
theorem d_H_reachFromCards_22 : decode b_H_reachFromCards 22 = .ok (.aload_n 3, 1) := by decide +kernel
theorem d_H_reachFromCards_23 : decode b_H_reachFromCards 23 = .ok (.getfield 200, 3) := by decide +kernel
theorem d_H_reachFromCards_26 : decode b_H_reachFromCards 26 = .ok (.ifCond .ne 7, 3) := by decide +kernel
theorem d_H_reachFromCards_29 : decode b_H_reachFromCards 29 = .ok (.iconst 1, 1) := by decide +kernel
theorem d_H_reachFromCards_30 : decode b_H_reachFromCards 30 = .ok (.goto 4, 3) := by decide +kernel
theorem d_H_reachFromCards_33 : decode b_H_reachFromCards 33 = .ok (.iconst 0, 1) := by decide +kernel
theorem d_H_reachFromCards_34 : decode b_H_reachFromCards 34 = .ok (.istore 4, 2) := by decide +kernel
theorem d_H_reachFromCards_36 : decode b_H_reachFromCards 36 = .ok (.iload 4, 2) := by decide +kernel
theorem d_H_reachFromCards_38 : decode b_H_reachFromCards 38 = .ok (.ifCond .eq 24, 3) := by decide +kernel
theorem d_H_reachFromCards_41 : decode b_H_reachFromCards 41 = .ok (.iload_n 1, 1) := by decide +kernel
theorem d_H_reachFromCards_42 : decode b_H_reachFromCards 42 = .ok (.iload_n 2, 1) := by decide +kernel
theorem d_H_reachFromCards_43 : decode b_H_reachFromCards 43 = .ok (.invokestatic 81, 3) := by decide +kernel
theorem d_H_reachFromCards_46 : decode b_H_reachFromCards 46 = .ok (.iand, 1) := by decide +kernel
theorem d_H_reachFromCards_47 : decode b_H_reachFromCards 47 = .ok (.ifCond .eq 15, 3) := by decide +kernel
theorem d_H_reachFromCards_50 : decode b_H_reachFromCards 50 = .ok (.aload_n 0, 1) := by decide +kernel
theorem d_H_reachFromCards_51 : decode b_H_reachFromCards 51 = .ok (.aload_n 0, 1) := by decide +kernel
theorem d_H_reachFromCards_52 : decode b_H_reachFromCards 52 = .ok (.getfield 27, 3) := by decide +kernel
theorem d_H_reachFromCards_55 : decode b_H_reachFromCards 55 = .ok (.iload_n 2, 1) := by decide +kernel
theorem d_H_reachFromCards_56 : decode b_H_reachFromCards 56 = .ok (.invokevirtual 202, 3) := by decide +kernel
theorem d_H_reachFromCards_59 : decode b_H_reachFromCards 59 = .ok (.invokevirtual 158, 3) := by decide +kernel
theorem d_H_reachFromCards_62 : decode b_H_reachFromCards 62 = .ok (.iinc 2 1, 3) := by decide +kernel
theorem d_H_reachFromCards_65 : decode b_H_reachFromCards 65 = .ok (.goto (-63), 3) := by decide +kernel
theorem d_H_reachFromCards_68 : decode b_H_reachFromCards 68 = .ok (.return_, 1) := by decide +kernel
theorem d_H_reachFields_0 : decode b_H_reachFields 0 = .ok (.iconst 0, 1) := by decide +kernel
theorem d_H_reachFields_1 : decode b_H_reachFields 1 = .ok (.istore_n 2, 1) := by decide +kernel
theorem d_H_reachFields_2 : decode b_H_reachFields 2 = .ok (.iload_n 2, 1) := by decide +kernel
theorem d_H_reachFields_3 : decode b_H_reachFields 3 = .ok (.aload_n 1, 1) := by decide +kernel
theorem d_H_reachFields_4 : decode b_H_reachFields 4 = .ok (.getfield 71, 3) := by decide +kernel
theorem d_H_reachFields_7 : decode b_H_reachFields 7 = .ok (.arraylength, 1) := by decide +kernel
theorem d_H_reachFields_8 : decode b_H_reachFields 8 = .ok (.if_icmp .ge 19, 3) := by decide +kernel
theorem d_H_reachFields_11 : decode b_H_reachFields 11 = .ok (.aload_n 0, 1) := by decide +kernel
theorem d_H_reachFields_12 : decode b_H_reachFields 12 = .ok (.aload_n 1, 1) := by decide +kernel
theorem d_H_reachFields_13 : decode b_H_reachFields 13 = .ok (.getfield 71, 3) := by decide +kernel
theorem d_H_reachFields_16 : decode b_H_reachFields 16 = .ok (.iload_n 2, 1) := by decide +kernel
theorem d_H_reachFields_17 : decode b_H_reachFields 17 = .ok (.aaload, 1) := by decide +kernel
theorem d_H_reachFields_18 : decode b_H_reachFields 18 = .ok (.invokevirtual 158, 3) := by decide +kernel
theorem d_H_reachFields_21 : decode b_H_reachFields 21 = .ok (.iinc 2 1, 3) := by decide +kernel
theorem d_H_reachFields_24 : decode b_H_reachFields 24 = .ok (.goto (-22), 3) := by decide +kernel
theorem d_H_reachFields_27 : decode b_H_reachFields 27 = .ok (.return_, 1) := by decide +kernel
theorem d_H_dropUnreachedYoung_0 : decode b_H_dropUnreachedYoung 0 = .ok (.iconst 0, 1) := by decide +kernel
theorem d_H_dropUnreachedYoung_1 : decode b_H_dropUnreachedYoung 1 = .ok (.istore_n 1, 1) := by decide +kernel
theorem d_H_dropUnreachedYoung_2 : decode b_H_dropUnreachedYoung 2 = .ok (.iload_n 1, 1) := by decide +kernel
theorem d_H_dropUnreachedYoung_3 : decode b_H_dropUnreachedYoung 3 = .ok (.aload_n 0, 1) := by decide +kernel
theorem d_H_dropUnreachedYoung_4 : decode b_H_dropUnreachedYoung 4 = .ok (.getfield 20, 3) := by decide +kernel
theorem d_H_dropUnreachedYoung_7 : decode b_H_dropUnreachedYoung 7 = .ok (.getfield 164, 3) := by decide +kernel
theorem d_H_dropUnreachedYoung_10 : decode b_H_dropUnreachedYoung 10 = .ok (.if_icmp .ge 36, 3) := by decide +kernel
theorem d_H_dropUnreachedYoung_13 : decode b_H_dropUnreachedYoung 13 = .ok (.aload_n 0, 1) := by decide +kernel
theorem d_H_dropUnreachedYoung_14 : decode b_H_dropUnreachedYoung 14 = .ok (.getfield 20, 3) := by decide +kernel
theorem d_H_dropUnreachedYoung_17 : decode b_H_dropUnreachedYoung 17 = .ok (.getfield 167, 3) := by decide +kernel
theorem d_H_dropUnreachedYoung_20 : decode b_H_dropUnreachedYoung 20 = .ok (.iload_n 1, 1) := by decide +kernel
theorem d_H_dropUnreachedYoung_21 : decode b_H_dropUnreachedYoung 21 = .ok (.aaload, 1) := by decide +kernel
theorem d_H_dropUnreachedYoung_22 : decode b_H_dropUnreachedYoung 22 = .ok (.getfield 200, 3) := by decide +kernel
theorem d_H_dropUnreachedYoung_25 : decode b_H_dropUnreachedYoung 25 = .ok (.ifCond .ne 15, 3) := by decide +kernel
theorem d_H_dropUnreachedYoung_28 : decode b_H_dropUnreachedYoung 28 = .ok (.aload_n 0, 1) := by decide +kernel
theorem d_H_dropUnreachedYoung_29 : decode b_H_dropUnreachedYoung 29 = .ok (.getfield 20, 3) := by decide +kernel
theorem d_H_dropUnreachedYoung_32 : decode b_H_dropUnreachedYoung 32 = .ok (.getfield 167, 3) := by decide +kernel
theorem d_H_dropUnreachedYoung_35 : decode b_H_dropUnreachedYoung 35 = .ok (.iload_n 1, 1) := by decide +kernel
theorem d_H_dropUnreachedYoung_36 : decode b_H_dropUnreachedYoung 36 = .ok (.aaload, 1) := by decide +kernel
theorem d_H_dropUnreachedYoung_37 : decode b_H_dropUnreachedYoung 37 = .ok (.invokevirtual 135, 3) := by decide +kernel
theorem d_H_dropUnreachedYoung_40 : decode b_H_dropUnreachedYoung 40 = .ok (.iinc 1 1, 3) := by decide +kernel
theorem d_H_dropUnreachedYoung_43 : decode b_H_dropUnreachedYoung 43 = .ok (.goto (-41), 3) := by decide +kernel
theorem d_H_dropUnreachedYoung_46 : decode b_H_dropUnreachedYoung 46 = .ok (.return_, 1) := by decide +kernel
theorem d_H_renewYoungOrder_0 : decode b_H_renewYoungOrder 0 = .ok (.aload_n 0, 1) := by decide +kernel
theorem d_H_renewYoungOrder_1 : decode b_H_renewYoungOrder 1 = .ok (.getfield 20, 3) := by decide +kernel
theorem d_H_renewYoungOrder_4 : decode b_H_renewYoungOrder 4 = .ok (.invokevirtual 205, 3) := by decide +kernel
theorem d_H_renewYoungOrder_7 : decode b_H_renewYoungOrder 7 = .ok (.iconst 0, 1) := by decide +kernel
theorem d_H_renewYoungOrder_8 : decode b_H_renewYoungOrder 8 = .ok (.istore_n 1, 1) := by decide +kernel
theorem d_H_renewYoungOrder_9 : decode b_H_renewYoungOrder 9 = .ok (.iconst 0, 1) := by decide +kernel
theorem d_H_renewYoungOrder_10 : decode b_H_renewYoungOrder 10 = .ok (.istore_n 2, 1) := by decide +kernel
theorem d_H_renewYoungOrder_11 : decode b_H_renewYoungOrder 11 = .ok (.iload_n 2, 1) := by decide +kernel
theorem d_H_renewYoungOrder_12 : decode b_H_renewYoungOrder 12 = .ok (.aload_n 0, 1) := by decide +kernel
theorem d_H_renewYoungOrder_13 : decode b_H_renewYoungOrder 13 = .ok (.getfield 31, 3) := by decide +kernel
theorem d_H_renewYoungOrder_16 : decode b_H_renewYoungOrder 16 = .ok (.getfield 164, 3) := by decide +kernel
theorem d_H_renewYoungOrder_19 : decode b_H_renewYoungOrder 19 = .ok (.if_icmp .ge 47, 3) := by decide +kernel
theorem d_H_renewYoungOrder_22 : decode b_H_renewYoungOrder 22 = .ok (.aload_n 0, 1) := by decide +kernel
theorem d_H_renewYoungOrder_23 : decode b_H_renewYoungOrder 23 = .ok (.getfield 31, 3) := by decide +kernel
theorem d_H_renewYoungOrder_26 : decode b_H_renewYoungOrder 26 = .ok (.getfield 167, 3) := by decide +kernel
theorem d_H_renewYoungOrder_29 : decode b_H_renewYoungOrder 29 = .ok (.iload_n 2, 1) := by decide +kernel
theorem d_H_renewYoungOrder_30 : decode b_H_renewYoungOrder 30 = .ok (.aaload, 1) := by decide +kernel
theorem d_H_renewYoungOrder_31 : decode b_H_renewYoungOrder 31 = .ok (.invokevirtual 92, 3) := by decide +kernel
theorem d_H_renewYoungOrder_34 : decode b_H_renewYoungOrder 34 = .ok (.ifCond .eq 23, 3) := by decide +kernel
theorem d_H_renewYoungOrder_37 : decode b_H_renewYoungOrder 37 = .ok (.aload_n 0, 1) := by decide +kernel
theorem d_H_renewYoungOrder_38 : decode b_H_renewYoungOrder 38 = .ok (.getfield 20, 3) := by decide +kernel
theorem d_H_renewYoungOrder_41 : decode b_H_renewYoungOrder 41 = .ok (.aload_n 0, 1) := by decide +kernel
theorem d_H_renewYoungOrder_42 : decode b_H_renewYoungOrder 42 = .ok (.getfield 31, 3) := by decide +kernel
theorem d_H_renewYoungOrder_45 : decode b_H_renewYoungOrder 45 = .ok (.getfield 167, 3) := by decide +kernel
theorem d_H_renewYoungOrder_48 : decode b_H_renewYoungOrder 48 = .ok (.iload_n 2, 1) := by decide +kernel
theorem d_H_renewYoungOrder_49 : decode b_H_renewYoungOrder 49 = .ok (.aaload, 1) := by decide +kernel
theorem d_H_renewYoungOrder_50 : decode b_H_renewYoungOrder 50 = .ok (.invokevirtual 64, 3) := by decide +kernel
theorem d_H_renewYoungOrder_53 : decode b_H_renewYoungOrder 53 = .ok (.pop, 1) := by decide +kernel
theorem d_H_renewYoungOrder_54 : decode b_H_renewYoungOrder 54 = .ok (.goto 6, 3) := by decide +kernel
theorem d_H_renewYoungOrder_57 : decode b_H_renewYoungOrder 57 = .ok (.iinc 1 1, 3) := by decide +kernel
theorem d_H_renewYoungOrder_60 : decode b_H_renewYoungOrder 60 = .ok (.iinc 2 1, 3) := by decide +kernel
theorem d_H_renewYoungOrder_63 : decode b_H_renewYoungOrder 63 = .ok (.goto (-52), 3) := by decide +kernel
theorem d_H_renewYoungOrder_66 : decode b_H_renewYoungOrder 66 = .ok (.iload_n 1, 1) := by decide +kernel
theorem d_H_renewYoungOrder_67 : decode b_H_renewYoungOrder 67 = .ok (.ireturn, 1) := by decide +kernel
theorem d_H_cleanCards_0 : decode b_H_cleanCards 0 = .ok (.aload_n 0, 1) := by decide +kernel
theorem d_H_cleanCards_1 : decode b_H_cleanCards 1 = .ok (.getfield 34, 3) := by decide +kernel
theorem d_H_cleanCards_4 : decode b_H_cleanCards 4 = .ok (.aload_n 0, 1) := by decide +kernel
theorem d_H_cleanCards_5 : decode b_H_cleanCards 5 = .ok (.getfield 27, 3) := by decide +kernel
theorem d_H_cleanCards_8 : decode b_H_cleanCards 8 = .ok (.invokevirtual 208, 3) := by decide +kernel
theorem d_H_cleanCards_11 : decode b_H_cleanCards 11 = .ok (.iconst (-1), 1) := by decide +kernel
theorem d_H_cleanCards_12 : decode b_H_cleanCards 12 = .ok (.ixor, 1) := by decide +kernel
theorem d_H_cleanCards_13 : decode b_H_cleanCards 13 = .ok (.iand, 1) := by decide +kernel
theorem d_H_cleanCards_14 : decode b_H_cleanCards 14 = .ok (.istore_n 1, 1) := by decide +kernel
theorem d_H_cleanCards_15 : decode b_H_cleanCards 15 = .ok (.aload_n 0, 1) := by decide +kernel
theorem d_H_cleanCards_16 : decode b_H_cleanCards 16 = .ok (.dup, 1) := by decide +kernel
theorem d_H_cleanCards_17 : decode b_H_cleanCards 17 = .ok (.getfield 34, 3) := by decide +kernel
theorem d_H_cleanCards_20 : decode b_H_cleanCards 20 = .ok (.iload_n 1, 1) := by decide +kernel
theorem d_H_cleanCards_21 : decode b_H_cleanCards 21 = .ok (.iconst (-1), 1) := by decide +kernel
theorem d_H_cleanCards_22 : decode b_H_cleanCards 22 = .ok (.ixor, 1) := by decide +kernel
theorem d_H_cleanCards_23 : decode b_H_cleanCards 23 = .ok (.iand, 1) := by decide +kernel
theorem d_H_cleanCards_24 : decode b_H_cleanCards 24 = .ok (.putfield 34, 3) := by decide +kernel
theorem d_H_cleanCards_27 : decode b_H_cleanCards 27 = .ok (.aload_n 0, 1) := by decide +kernel
theorem d_H_cleanCards_28 : decode b_H_cleanCards 28 = .ok (.getfield 41, 3) := by decide +kernel
theorem d_H_cleanCards_31 : decode b_H_cleanCards 31 = .ok (.iconst 1, 1) := by decide +kernel
theorem d_H_cleanCards_32 : decode b_H_cleanCards 32 = .ok (.if_icmp .ne 13, 3) := by decide +kernel
theorem d_H_cleanCards_35 : decode b_H_cleanCards 35 = .ok (.aload_n 0, 1) := by decide +kernel
theorem d_H_cleanCards_36 : decode b_H_cleanCards 36 = .ok (.dup, 1) := by decide +kernel
theorem d_H_cleanCards_37 : decode b_H_cleanCards 37 = .ok (.getfield 38, 3) := by decide +kernel
theorem d_H_cleanCards_40 : decode b_H_cleanCards 40 = .ok (.iload_n 1, 1) := by decide +kernel
theorem d_H_cleanCards_41 : decode b_H_cleanCards 41 = .ok (.ior, 1) := by decide +kernel
theorem d_H_cleanCards_42 : decode b_H_cleanCards 42 = .ok (.putfield 38, 3) := by decide +kernel
theorem d_H_cleanCards_45 : decode b_H_cleanCards 45 = .ok (.return_, 1) := by decide +kernel
theorem d_H_collectAll_0 : decode b_H_collectAll 0 = .ok (.aload_n 0, 1) := by decide +kernel
theorem d_H_collectAll_1 : decode b_H_collectAll 1 = .ok (.invokevirtual 211, 3) := by decide +kernel
theorem d_H_collectAll_4 : decode b_H_collectAll 4 = .ok (.aload_n 0, 1) := by decide +kernel
theorem d_H_collectAll_5 : decode b_H_collectAll 5 = .ok (.getfield 27, 3) := by decide +kernel
theorem d_H_collectAll_8 : decode b_H_collectAll 8 = .ok (.invokevirtual 214, 3) := by decide +kernel
theorem d_H_collectAll_11 : decode b_H_collectAll 11 = .ok (.aload_n 0, 1) := by decide +kernel
theorem d_H_collectAll_12 : decode b_H_collectAll 12 = .ok (.getfield 27, 3) := by decide +kernel
theorem d_H_collectAll_15 : decode b_H_collectAll 15 = .ok (.invokevirtual 121, 3) := by decide +kernel
theorem d_H_collectAll_18 : decode b_H_collectAll 18 = .ok (.aload_n 0, 1) := by decide +kernel
theorem d_H_collectAll_19 : decode b_H_collectAll 19 = .ok (.iconst 0, 1) := by decide +kernel
theorem d_H_collectAll_20 : decode b_H_collectAll 20 = .ok (.putfield 41, 3) := by decide +kernel
theorem d_H_collectAll_23 : decode b_H_collectAll 23 = .ok (.aload_n 0, 1) := by decide +kernel
theorem d_H_collectAll_24 : decode b_H_collectAll 24 = .ok (.invokevirtual 217, 3) := by decide +kernel
theorem d_H_collectAll_27 : decode b_H_collectAll 27 = .ok (.aload_n 0, 1) := by decide +kernel
theorem d_H_collectAll_28 : decode b_H_collectAll 28 = .ok (.getfield 31, 3) := by decide +kernel
theorem d_H_collectAll_31 : decode b_H_collectAll 31 = .ok (.invokevirtual 179, 3) := by decide +kernel
theorem d_H_collectAll_34 : decode b_H_collectAll 34 = .ok (.aload_n 0, 1) := by decide +kernel
theorem d_H_collectAll_35 : decode b_H_collectAll 35 = .ok (.invokevirtual 220, 3) := by decide +kernel
theorem d_H_collectAll_38 : decode b_H_collectAll 38 = .ok (.istore_n 1, 1) := by decide +kernel
theorem d_H_collectAll_39 : decode b_H_collectAll 39 = .ok (.aload_n 0, 1) := by decide +kernel
theorem d_H_collectAll_40 : decode b_H_collectAll 40 = .ok (.iconst 0, 1) := by decide +kernel
theorem d_H_collectAll_41 : decode b_H_collectAll 41 = .ok (.putfield 38, 3) := by decide +kernel
theorem d_H_collectAll_44 : decode b_H_collectAll 44 = .ok (.aload_n 0, 1) := by decide +kernel
theorem d_H_collectAll_45 : decode b_H_collectAll 45 = .ok (.aload_n 0, 1) := by decide +kernel
theorem d_H_collectAll_46 : decode b_H_collectAll 46 = .ok (.getfield 27, 3) := by decide +kernel
theorem d_H_collectAll_49 : decode b_H_collectAll 49 = .ok (.invokevirtual 208, 3) := by decide +kernel
theorem d_H_collectAll_52 : decode b_H_collectAll 52 = .ok (.putfield 34, 3) := by decide +kernel
theorem d_H_collectAll_55 : decode b_H_collectAll 55 = .ok (.iload_n 1, 1) := by decide +kernel
theorem d_H_collectAll_56 : decode b_H_collectAll 56 = .ok (.ireturn, 1) := by decide +kernel
theorem d_H_findReachable_0 : decode b_H_findReachable 0 = .ok (.iconst 0, 1) := by decide +kernel
theorem d_H_findReachable_1 : decode b_H_findReachable 1 = .ok (.istore_n 1, 1) := by decide +kernel
theorem d_H_findReachable_2 : decode b_H_findReachable 2 = .ok (.iload_n 1, 1) := by decide +kernel
theorem d_H_findReachable_3 : decode b_H_findReachable 3 = .ok (.bipush 6, 2) := by decide +kernel
theorem d_H_findReachable_5 : decode b_H_findReachable 5 = .ok (.if_icmp .ge 23, 3) := by decide +kernel
theorem d_H_findReachable_8 : decode b_H_findReachable 8 = .ok (.aload_n 0, 1) := by decide +kernel
theorem d_H_findReachable_9 : decode b_H_findReachable 9 = .ok (.getfield 31, 3) := by decide +kernel
theorem d_H_findReachable_12 : decode b_H_findReachable 12 = .ok (.aload_n 0, 1) := by decide +kernel
theorem d_H_findReachable_13 : decode b_H_findReachable 13 = .ok (.getfield 11, 3) := by decide +kernel
theorem d_H_findReachable_16 : decode b_H_findReachable 16 = .ok (.iload_n 1, 1) := by decide +kernel
theorem d_H_findReachable_17 : decode b_H_findReachable 17 = .ok (.aaload, 1) := by decide +kernel
theorem d_H_findReachable_18 : decode b_H_findReachable 18 = .ok (.invokevirtual 185, 3) := by decide +kernel
theorem d_H_findReachable_21 : decode b_H_findReachable 21 = .ok (.pop, 1) := by decide +kernel
theorem d_H_findReachable_22 : decode b_H_findReachable 22 = .ok (.iinc 1 1, 3) := by decide +kernel
theorem d_H_findReachable_25 : decode b_H_findReachable 25 = .ok (.goto (-23), 3) := by decide +kernel
theorem d_H_findReachable_28 : decode b_H_findReachable 28 = .ok (.iconst 0, 1) := by decide +kernel
theorem d_H_findReachable_29 : decode b_H_findReachable 29 = .ok (.istore_n 1, 1) := by decide +kernel
theorem d_H_findReachable_30 : decode b_H_findReachable 30 = .ok (.iload_n 1, 1) := by decide +kernel
theorem d_H_findReachable_31 : decode b_H_findReachable 31 = .ok (.bipush 84, 2) := by decide +kernel
theorem d_H_findReachable_33 : decode b_H_findReachable 33 = .ok (.if_icmp .ge 61, 3) := by decide +kernel
theorem d_H_findReachable_36 : decode b_H_findReachable 36 = .ok (.iload_n 1, 1) := by decide +kernel
theorem d_H_findReachable_37 : decode b_H_findReachable 37 = .ok (.aload_n 0, 1) := by decide +kernel
theorem d_H_findReachable_38 : decode b_H_findReachable 38 = .ok (.getfield 31, 3) := by decide +kernel
theorem d_H_findReachable_41 : decode b_H_findReachable 41 = .ok (.getfield 164, 3) := by decide +kernel
theorem d_H_findReachable_44 : decode b_H_findReachable 44 = .ok (.if_icmp .ge 50, 3) := by decide +kernel
theorem d_H_findReachable_47 : decode b_H_findReachable 47 = .ok (.aload_n 0, 1) := by decide +kernel
theorem d_H_findReachable_48 : decode b_H_findReachable 48 = .ok (.getfield 31, 3) := by decide +kernel
theorem d_H_findReachable_51 : decode b_H_findReachable 51 = .ok (.getfield 167, 3) := by decide +kernel
theorem d_H_findReachable_54 : decode b_H_findReachable 54 = .ok (.iload_n 1, 1) := by decide +kernel
theorem d_H_findReachable_55 : decode b_H_findReachable 55 = .ok (.aaload, 1) := by decide +kernel
theorem d_H_findReachable_56 : decode b_H_findReachable 56 = .ok (.astore_n 2, 1) := by decide +kernel
theorem d_H_findReachable_57 : decode b_H_findReachable 57 = .ok (.iconst 0, 1) := by decide +kernel
theorem d_H_findReachable_58 : decode b_H_findReachable 58 = .ok (.istore_n 3, 1) := by decide +kernel
theorem d_H_findReachable_59 : decode b_H_findReachable 59 = .ok (.iload_n 3, 1) := by decide +kernel
theorem d_H_findReachable_60 : decode b_H_findReachable 60 = .ok (.aload_n 2, 1) := by decide +kernel
theorem d_H_findReachable_61 : decode b_H_findReachable 61 = .ok (.getfield 71, 3) := by decide +kernel
theorem d_H_findReachable_64 : decode b_H_findReachable 64 = .ok (.arraylength, 1) := by decide +kernel
theorem d_H_findReachable_65 : decode b_H_findReachable 65 = .ok (.if_icmp .ge 23, 3) := by decide +kernel
theorem d_H_findReachable_68 : decode b_H_findReachable 68 = .ok (.aload_n 0, 1) := by decide +kernel
theorem d_H_findReachable_69 : decode b_H_findReachable 69 = .ok (.getfield 31, 3) := by decide +kernel
theorem d_H_findReachable_72 : decode b_H_findReachable 72 = .ok (.aload_n 2, 1) := by decide +kernel
theorem d_H_findReachable_73 : decode b_H_findReachable 73 = .ok (.getfield 71, 3) := by decide +kernel
theorem d_H_findReachable_76 : decode b_H_findReachable 76 = .ok (.iload_n 3, 1) := by decide +kernel
theorem d_H_findReachable_77 : decode b_H_findReachable 77 = .ok (.aaload, 1) := by decide +kernel
theorem d_H_findReachable_78 : decode b_H_findReachable 78 = .ok (.invokevirtual 185, 3) := by decide +kernel
theorem d_H_findReachable_81 : decode b_H_findReachable 81 = .ok (.pop, 1) := by decide +kernel
theorem d_H_findReachable_82 : decode b_H_findReachable 82 = .ok (.iinc 3 1, 3) := by decide +kernel
theorem d_H_findReachable_85 : decode b_H_findReachable 85 = .ok (.goto (-26), 3) := by decide +kernel
theorem d_H_findReachable_88 : decode b_H_findReachable 88 = .ok (.iinc 1 1, 3) := by decide +kernel
theorem d_H_findReachable_91 : decode b_H_findReachable 91 = .ok (.goto (-61), 3) := by decide +kernel
theorem d_H_findReachable_94 : decode b_H_findReachable 94 = .ok (.return_, 1) := by decide +kernel
theorem d_H_keepReachedYoung_0 : decode b_H_keepReachedYoung 0 = .ok (.aload_n 0, 1) := by decide +kernel
theorem d_H_keepReachedYoung_1 : decode b_H_keepReachedYoung 1 = .ok (.invokevirtual 173, 3) := by decide +kernel
theorem d_H_keepReachedYoung_4 : decode b_H_keepReachedYoung 4 = .ok (.aload_n 0, 1) := by decide +kernel
theorem d_H_keepReachedYoung_5 : decode b_H_keepReachedYoung 5 = .ok (.getfield 20, 3) := by decide +kernel
theorem d_H_keepReachedYoung_8 : decode b_H_keepReachedYoung 8 = .ok (.getfield 164, 3) := by decide +kernel
theorem d_H_keepReachedYoung_11 : decode b_H_keepReachedYoung 11 = .ok (.istore_n 1, 1) := by decide +kernel
theorem d_H_keepReachedYoung_12 : decode b_H_keepReachedYoung 12 = .ok (.aload_n 0, 1) := by decide +kernel
theorem d_H_keepReachedYoung_13 : decode b_H_keepReachedYoung 13 = .ok (.getfield 20, 3) := by decide +kernel
theorem d_H_keepReachedYoung_16 : decode b_H_keepReachedYoung 16 = .ok (.invokevirtual 205, 3) := by decide +kernel
theorem d_H_keepReachedYoung_19 : decode b_H_keepReachedYoung 19 = .ok (.iconst 0, 1) := by decide +kernel
theorem d_H_keepReachedYoung_20 : decode b_H_keepReachedYoung 20 = .ok (.istore_n 2, 1) := by decide +kernel
theorem d_H_keepReachedYoung_21 : decode b_H_keepReachedYoung 21 = .ok (.iload_n 2, 1) := by decide +kernel
theorem d_H_keepReachedYoung_22 : decode b_H_keepReachedYoung 22 = .ok (.iload_n 1, 1) := by decide +kernel
theorem d_H_keepReachedYoung_23 : decode b_H_keepReachedYoung 23 = .ok (.if_icmp .ge 41, 3) := by decide +kernel
theorem d_H_keepReachedYoung_26 : decode b_H_keepReachedYoung 26 = .ok (.aload_n 0, 1) := by decide +kernel
theorem d_H_keepReachedYoung_27 : decode b_H_keepReachedYoung 27 = .ok (.getfield 20, 3) := by decide +kernel
theorem d_H_keepReachedYoung_30 : decode b_H_keepReachedYoung 30 = .ok (.getfield 167, 3) := by decide +kernel
theorem d_H_keepReachedYoung_33 : decode b_H_keepReachedYoung 33 = .ok (.iload_n 2, 1) := by decide +kernel
theorem d_H_keepReachedYoung_34 : decode b_H_keepReachedYoung 34 = .ok (.aaload, 1) := by decide +kernel
theorem d_H_keepReachedYoung_35 : decode b_H_keepReachedYoung 35 = .ok (.getfield 200, 3) := by decide +kernel
theorem d_H_keepReachedYoung_38 : decode b_H_keepReachedYoung 38 = .ok (.ifCond .eq 20, 3) := by decide +kernel
theorem d_H_keepReachedYoung_41 : decode b_H_keepReachedYoung 41 = .ok (.aload_n 0, 1) := by decide +kernel
theorem d_H_keepReachedYoung_42 : decode b_H_keepReachedYoung 42 = .ok (.getfield 20, 3) := by decide +kernel
theorem d_H_keepReachedYoung_45 : decode b_H_keepReachedYoung 45 = .ok (.aload_n 0, 1) := by decide +kernel
theorem d_H_keepReachedYoung_46 : decode b_H_keepReachedYoung 46 = .ok (.getfield 20, 3) := by decide +kernel
theorem d_H_keepReachedYoung_49 : decode b_H_keepReachedYoung 49 = .ok (.getfield 167, 3) := by decide +kernel
theorem d_H_keepReachedYoung_52 : decode b_H_keepReachedYoung 52 = .ok (.iload_n 2, 1) := by decide +kernel
theorem d_H_keepReachedYoung_53 : decode b_H_keepReachedYoung 53 = .ok (.aaload, 1) := by decide +kernel
theorem d_H_keepReachedYoung_54 : decode b_H_keepReachedYoung 54 = .ok (.invokevirtual 64, 3) := by decide +kernel
theorem d_H_keepReachedYoung_57 : decode b_H_keepReachedYoung 57 = .ok (.pop, 1) := by decide +kernel
theorem d_H_keepReachedYoung_58 : decode b_H_keepReachedYoung 58 = .ok (.iinc 2 1, 3) := by decide +kernel
theorem d_H_keepReachedYoung_61 : decode b_H_keepReachedYoung 61 = .ok (.goto (-40), 3) := by decide +kernel
theorem d_H_keepReachedYoung_64 : decode b_H_keepReachedYoung 64 = .ok (.return_, 1) := by decide +kernel
theorem d_H_placeYoungInOrder_0 : decode b_H_placeYoungInOrder 0 = .ok (.aload_n 0, 1) := by decide +kernel
theorem d_H_placeYoungInOrder_1 : decode b_H_placeYoungInOrder 1 = .ok (.getfield 20, 3) := by decide +kernel
theorem d_H_placeYoungInOrder_4 : decode b_H_placeYoungInOrder 4 = .ok (.getfield 164, 3) := by decide +kernel
theorem d_H_placeYoungInOrder_7 : decode b_H_placeYoungInOrder 7 = .ok (.istore_n 1, 1) := by decide +kernel
theorem d_H_placeYoungInOrder_8 : decode b_H_placeYoungInOrder 8 = .ok (.iconst 0, 1) := by decide +kernel
theorem d_H_placeYoungInOrder_9 : decode b_H_placeYoungInOrder 9 = .ok (.istore_n 2, 1) := by decide +kernel
theorem d_H_placeYoungInOrder_10 : decode b_H_placeYoungInOrder 10 = .ok (.iload_n 2, 1) := by decide +kernel
theorem d_H_placeYoungInOrder_11 : decode b_H_placeYoungInOrder 11 = .ok (.iload_n 1, 1) := by decide +kernel
theorem d_H_placeYoungInOrder_12 : decode b_H_placeYoungInOrder 12 = .ok (.if_icmp .ge 25, 3) := by decide +kernel
theorem d_H_placeYoungInOrder_15 : decode b_H_placeYoungInOrder 15 = .ok (.aload_n 0, 1) := by decide +kernel
theorem d_H_placeYoungInOrder_16 : decode b_H_placeYoungInOrder 16 = .ok (.aload_n 0, 1) := by decide +kernel
theorem d_H_placeYoungInOrder_17 : decode b_H_placeYoungInOrder 17 = .ok (.getfield 20, 3) := by decide +kernel
theorem d_H_placeYoungInOrder_20 : decode b_H_placeYoungInOrder 20 = .ok (.getfield 167, 3) := by decide +kernel
theorem d_H_placeYoungInOrder_23 : decode b_H_placeYoungInOrder 23 = .ok (.iload_n 2, 1) := by decide +kernel
theorem d_H_placeYoungInOrder_24 : decode b_H_placeYoungInOrder 24 = .ok (.aaload, 1) := by decide +kernel
theorem d_H_placeYoungInOrder_25 : decode b_H_placeYoungInOrder 25 = .ok (.invokevirtual 194, 3) := by decide +kernel
theorem d_H_placeYoungInOrder_28 : decode b_H_placeYoungInOrder 28 = .ok (.ifCond .eq 9, 3) := by decide +kernel
theorem d_H_placeYoungInOrder_31 : decode b_H_placeYoungInOrder 31 = .ok (.iinc 2 1, 3) := by decide +kernel
theorem d_H_placeYoungInOrder_34 : decode b_H_placeYoungInOrder 34 = .ok (.goto (-24), 3) := by decide +kernel
theorem d_H_placeYoungInOrder_37 : decode b_H_placeYoungInOrder 37 = .ok (.aload_n 0, 1) := by decide +kernel
theorem d_H_placeYoungInOrder_38 : decode b_H_placeYoungInOrder 38 = .ok (.getfield 20, 3) := by decide +kernel
theorem d_H_placeYoungInOrder_41 : decode b_H_placeYoungInOrder 41 = .ok (.invokevirtual 205, 3) := by decide +kernel
theorem d_H_placeYoungInOrder_44 : decode b_H_placeYoungInOrder 44 = .ok (.iload_n 2, 1) := by decide +kernel
theorem d_H_placeYoungInOrder_45 : decode b_H_placeYoungInOrder 45 = .ok (.istore_n 3, 1) := by decide +kernel
theorem d_H_placeYoungInOrder_46 : decode b_H_placeYoungInOrder 46 = .ok (.iload_n 3, 1) := by decide +kernel
theorem d_H_placeYoungInOrder_47 : decode b_H_placeYoungInOrder 47 = .ok (.iload_n 1, 1) := by decide +kernel
theorem d_H_placeYoungInOrder_48 : decode b_H_placeYoungInOrder 48 = .ok (.if_icmp .ge 26, 3) := by decide +kernel
theorem d_H_placeYoungInOrder_51 : decode b_H_placeYoungInOrder 51 = .ok (.aload_n 0, 1) := by decide +kernel
theorem d_H_placeYoungInOrder_52 : decode b_H_placeYoungInOrder 52 = .ok (.getfield 20, 3) := by decide +kernel
theorem d_H_placeYoungInOrder_55 : decode b_H_placeYoungInOrder 55 = .ok (.aload_n 0, 1) := by decide +kernel
theorem d_H_placeYoungInOrder_56 : decode b_H_placeYoungInOrder 56 = .ok (.getfield 20, 3) := by decide +kernel
theorem d_H_placeYoungInOrder_59 : decode b_H_placeYoungInOrder 59 = .ok (.getfield 167, 3) := by decide +kernel
theorem d_H_placeYoungInOrder_62 : decode b_H_placeYoungInOrder 62 = .ok (.iload_n 3, 1) := by decide +kernel
theorem d_H_placeYoungInOrder_63 : decode b_H_placeYoungInOrder 63 = .ok (.aaload, 1) := by decide +kernel
theorem d_H_placeYoungInOrder_64 : decode b_H_placeYoungInOrder 64 = .ok (.invokevirtual 64, 3) := by decide +kernel
theorem d_H_placeYoungInOrder_67 : decode b_H_placeYoungInOrder 67 = .ok (.pop, 1) := by decide +kernel
theorem d_H_placeYoungInOrder_68 : decode b_H_placeYoungInOrder 68 = .ok (.iinc 3 1, 3) := by decide +kernel
theorem d_H_placeYoungInOrder_71 : decode b_H_placeYoungInOrder 71 = .ok (.goto (-25), 3) := by decide +kernel
theorem d_H_placeYoungInOrder_74 : decode b_H_placeYoungInOrder 74 = .ok (.iload_n 2, 1) := by decide +kernel
theorem d_H_placeYoungInOrder_75 : decode b_H_placeYoungInOrder 75 = .ok (.ireturn, 1) := by decide +kernel
theorem d_H_shade_0 : decode b_H_shade 0 = .ok (.aload_n 0, 1) := by decide +kernel
theorem d_H_shade_1 : decode b_H_shade 1 = .ok (.ifnull 17, 3) := by decide +kernel
theorem d_H_shade_4 : decode b_H_shade 4 = .ok (.aload_n 0, 1) := by decide +kernel
theorem d_H_shade_5 : decode b_H_shade 5 = .ok (.invokevirtual 74, 3) := by decide +kernel
theorem d_H_shade_8 : decode b_H_shade 8 = .ok (.ifCond .eq 10, 3) := by decide +kernel
theorem d_H_shade_11 : decode b_H_shade 11 = .ok (.aload_n 0, 1) := by decide +kernel
theorem d_H_shade_12 : decode b_H_shade 12 = .ok (.getfield 127, 3) := by decide +kernel
theorem d_H_shade_15 : decode b_H_shade 15 = .ok (.ifCond .eq 5, 3) := by decide +kernel
theorem d_H_shade_18 : decode b_H_shade 18 = .ok (.iconst 0, 1) := by decide +kernel
theorem d_H_shade_19 : decode b_H_shade 19 = .ok (.ireturn, 1) := by decide +kernel
theorem d_H_shade_20 : decode b_H_shade 20 = .ok (.aload_n 0, 1) := by decide +kernel
theorem d_H_shade_21 : decode b_H_shade 21 = .ok (.iconst 1, 1) := by decide +kernel
theorem d_H_shade_22 : decode b_H_shade 22 = .ok (.putfield 127, 3) := by decide +kernel
theorem d_H_shade_25 : decode b_H_shade 25 = .ok (.aload_n 0, 1) := by decide +kernel
theorem d_H_shade_26 : decode b_H_shade 26 = .ok (.iconst 1, 1) := by decide +kernel
theorem d_H_shade_27 : decode b_H_shade 27 = .ok (.putfield 145, 3) := by decide +kernel
theorem d_H_shade_30 : decode b_H_shade 30 = .ok (.iconst 1, 1) := by decide +kernel
theorem d_H_shade_31 : decode b_H_shade 31 = .ok (.ireturn, 1) := by decide +kernel
theorem d_H_shadeFields_0 : decode b_H_shadeFields 0 = .ok (.iconst 0, 1) := by decide +kernel
theorem d_H_shadeFields_1 : decode b_H_shadeFields 1 = .ok (.istore_n 1, 1) := by decide +kernel
theorem d_H_shadeFields_2 : decode b_H_shadeFields 2 = .ok (.iconst 0, 1) := by decide +kernel
theorem d_H_shadeFields_3 : decode b_H_shadeFields 3 = .ok (.istore_n 2, 1) := by decide +kernel
theorem d_H_shadeFields_4 : decode b_H_shadeFields 4 = .ok (.iload_n 2, 1) := by decide +kernel
theorem d_H_shadeFields_5 : decode b_H_shadeFields 5 = .ok (.aload_n 0, 1) := by decide +kernel
theorem d_H_shadeFields_6 : decode b_H_shadeFields 6 = .ok (.getfield 71, 3) := by decide +kernel
theorem d_H_shadeFields_9 : decode b_H_shadeFields 9 = .ok (.arraylength, 1) := by decide +kernel
theorem d_H_shadeFields_10 : decode b_H_shadeFields 10 = .ok (.if_icmp .ge 21, 3) := by decide +kernel
theorem d_H_shadeFields_13 : decode b_H_shadeFields 13 = .ok (.iload_n 1, 1) := by decide +kernel
theorem d_H_shadeFields_14 : decode b_H_shadeFields 14 = .ok (.aload_n 0, 1) := by decide +kernel
theorem d_H_shadeFields_15 : decode b_H_shadeFields 15 = .ok (.getfield 71, 3) := by decide +kernel
theorem d_H_shadeFields_18 : decode b_H_shadeFields 18 = .ok (.iload_n 2, 1) := by decide +kernel
theorem d_H_shadeFields_19 : decode b_H_shadeFields 19 = .ok (.aaload, 1) := by decide +kernel
theorem d_H_shadeFields_20 : decode b_H_shadeFields 20 = .ok (.invokestatic 223, 3) := by decide +kernel
theorem d_H_shadeFields_23 : decode b_H_shadeFields 23 = .ok (.iadd, 1) := by decide +kernel
theorem d_H_shadeFields_24 : decode b_H_shadeFields 24 = .ok (.istore_n 1, 1) := by decide +kernel
theorem d_H_shadeFields_25 : decode b_H_shadeFields 25 = .ok (.iinc 2 1, 3) := by decide +kernel
theorem d_H_shadeFields_28 : decode b_H_shadeFields 28 = .ok (.goto (-24), 3) := by decide +kernel
theorem d_H_shadeFields_31 : decode b_H_shadeFields 31 = .ok (.iload_n 1, 1) := by decide +kernel
theorem d_H_shadeFields_32 : decode b_H_shadeFields 32 = .ok (.ireturn, 1) := by decide +kernel
theorem d_H_shadeFromRoots_0 : decode b_H_shadeFromRoots 0 = .ok (.iconst 0, 1) := by decide +kernel
theorem d_H_shadeFromRoots_1 : decode b_H_shadeFromRoots 1 = .ok (.istore_n 1, 1) := by decide +kernel
theorem d_H_shadeFromRoots_2 : decode b_H_shadeFromRoots 2 = .ok (.iconst 0, 1) := by decide +kernel
theorem d_H_shadeFromRoots_3 : decode b_H_shadeFromRoots 3 = .ok (.istore_n 2, 1) := by decide +kernel
theorem d_H_shadeFromRoots_4 : decode b_H_shadeFromRoots 4 = .ok (.iload_n 2, 1) := by decide +kernel
theorem d_H_shadeFromRoots_5 : decode b_H_shadeFromRoots 5 = .ok (.bipush 6, 2) := by decide +kernel
theorem d_H_shadeFromRoots_7 : decode b_H_shadeFromRoots 7 = .ok (.if_icmp .ge 21, 3) := by decide +kernel
theorem d_H_shadeFromRoots_10 : decode b_H_shadeFromRoots 10 = .ok (.iload_n 1, 1) := by decide +kernel
theorem d_H_shadeFromRoots_11 : decode b_H_shadeFromRoots 11 = .ok (.aload_n 0, 1) := by decide +kernel
theorem d_H_shadeFromRoots_12 : decode b_H_shadeFromRoots 12 = .ok (.getfield 11, 3) := by decide +kernel
theorem d_H_shadeFromRoots_15 : decode b_H_shadeFromRoots 15 = .ok (.iload_n 2, 1) := by decide +kernel
theorem d_H_shadeFromRoots_16 : decode b_H_shadeFromRoots 16 = .ok (.aaload, 1) := by decide +kernel
theorem d_H_shadeFromRoots_17 : decode b_H_shadeFromRoots 17 = .ok (.invokestatic 223, 3) := by decide +kernel
theorem d_H_shadeFromRoots_20 : decode b_H_shadeFromRoots 20 = .ok (.iadd, 1) := by decide +kernel
theorem d_H_shadeFromRoots_21 : decode b_H_shadeFromRoots 21 = .ok (.istore_n 1, 1) := by decide +kernel
theorem d_H_shadeFromRoots_22 : decode b_H_shadeFromRoots 22 = .ok (.iinc 2 1, 3) := by decide +kernel
theorem d_H_shadeFromRoots_25 : decode b_H_shadeFromRoots 25 = .ok (.goto (-21), 3) := by decide +kernel
theorem d_H_shadeFromRoots_28 : decode b_H_shadeFromRoots 28 = .ok (.iload_n 1, 1) := by decide +kernel
theorem d_H_shadeFromRoots_29 : decode b_H_shadeFromRoots 29 = .ok (.ireturn, 1) := by decide +kernel
theorem d_H_shadeFromYoung_0 : decode b_H_shadeFromYoung 0 = .ok (.iconst 0, 1) := by decide +kernel
theorem d_H_shadeFromYoung_1 : decode b_H_shadeFromYoung 1 = .ok (.istore_n 1, 1) := by decide +kernel
theorem d_H_shadeFromYoung_2 : decode b_H_shadeFromYoung 2 = .ok (.iconst 0, 1) := by decide +kernel
theorem d_H_shadeFromYoung_3 : decode b_H_shadeFromYoung 3 = .ok (.istore_n 2, 1) := by decide +kernel
theorem d_H_shadeFromYoung_4 : decode b_H_shadeFromYoung 4 = .ok (.iload_n 2, 1) := by decide +kernel
theorem d_H_shadeFromYoung_5 : decode b_H_shadeFromYoung 5 = .ok (.aload_n 0, 1) := by decide +kernel
theorem d_H_shadeFromYoung_6 : decode b_H_shadeFromYoung 6 = .ok (.getfield 20, 3) := by decide +kernel
theorem d_H_shadeFromYoung_9 : decode b_H_shadeFromYoung 9 = .ok (.getfield 164, 3) := by decide +kernel
theorem d_H_shadeFromYoung_12 : decode b_H_shadeFromYoung 12 = .ok (.if_icmp .ge 24, 3) := by decide +kernel
theorem d_H_shadeFromYoung_15 : decode b_H_shadeFromYoung 15 = .ok (.iload_n 1, 1) := by decide +kernel
theorem d_H_shadeFromYoung_16 : decode b_H_shadeFromYoung 16 = .ok (.aload_n 0, 1) := by decide +kernel
theorem d_H_shadeFromYoung_17 : decode b_H_shadeFromYoung 17 = .ok (.getfield 20, 3) := by decide +kernel
theorem d_H_shadeFromYoung_20 : decode b_H_shadeFromYoung 20 = .ok (.getfield 167, 3) := by decide +kernel
theorem d_H_shadeFromYoung_23 : decode b_H_shadeFromYoung 23 = .ok (.iload_n 2, 1) := by decide +kernel
theorem d_H_shadeFromYoung_24 : decode b_H_shadeFromYoung 24 = .ok (.aaload, 1) := by decide +kernel
theorem d_H_shadeFromYoung_25 : decode b_H_shadeFromYoung 25 = .ok (.invokestatic 226, 3) := by decide +kernel
theorem d_H_shadeFromYoung_28 : decode b_H_shadeFromYoung 28 = .ok (.iadd, 1) := by decide +kernel
theorem d_H_shadeFromYoung_29 : decode b_H_shadeFromYoung 29 = .ok (.istore_n 1, 1) := by decide +kernel
theorem d_H_shadeFromYoung_30 : decode b_H_shadeFromYoung 30 = .ok (.iinc 2 1, 3) := by decide +kernel
theorem d_H_shadeFromYoung_33 : decode b_H_shadeFromYoung 33 = .ok (.goto (-29), 3) := by decide +kernel
theorem d_H_shadeFromYoung_36 : decode b_H_shadeFromYoung 36 = .ok (.iload_n 1, 1) := by decide +kernel
theorem d_H_shadeFromYoung_37 : decode b_H_shadeFromYoung 37 = .ok (.ireturn, 1) := by decide +kernel
theorem d_H_scan_0 : decode b_H_scan 0 = .ok (.aload_n 0, 1) := by decide +kernel
theorem d_H_scan_1 : decode b_H_scan 1 = .ok (.iconst 0, 1) := by decide +kernel
theorem d_H_scan_2 : decode b_H_scan 2 = .ok (.putfield 145, 3) := by decide +kernel
theorem d_H_scan_5 : decode b_H_scan 5 = .ok (.aload_n 0, 1) := by decide +kernel
theorem d_H_scan_6 : decode b_H_scan 6 = .ok (.invokestatic 226, 3) := by decide +kernel
theorem d_H_scan_9 : decode b_H_scan 9 = .ok (.ireturn, 1) := by decide +kernel
theorem d_H_scanAllGrey_0 : decode b_H_scanAllGrey 0 = .ok (.iconst 0, 1) := by decide +kernel
theorem d_H_scanAllGrey_1 : decode b_H_scanAllGrey 1 = .ok (.istore_n 1, 1) := by decide +kernel
theorem d_H_scanAllGrey_2 : decode b_H_scanAllGrey 2 = .ok (.iconst 0, 1) := by decide +kernel
theorem d_H_scanAllGrey_3 : decode b_H_scanAllGrey 3 = .ok (.istore_n 2, 1) := by decide +kernel
theorem d_H_scanAllGrey_4 : decode b_H_scanAllGrey 4 = .ok (.iload_n 2, 1) := by decide +kernel
theorem d_H_scanAllGrey_5 : decode b_H_scanAllGrey 5 = .ok (.bipush 64, 2) := by decide +kernel
theorem d_H_scanAllGrey_7 : decode b_H_scanAllGrey 7 = .ok (.if_icmp .ge 31, 3) := by decide +kernel
theorem d_H_scanAllGrey_10 : decode b_H_scanAllGrey 10 = .ok (.aload_n 0, 1) := by decide +kernel
theorem d_H_scanAllGrey_11 : decode b_H_scanAllGrey 11 = .ok (.getfield 27, 3) := by decide +kernel
theorem d_H_scanAllGrey_14 : decode b_H_scanAllGrey 14 = .ok (.invokevirtual 101, 3) := by decide +kernel
theorem d_H_scanAllGrey_17 : decode b_H_scanAllGrey 17 = .ok (.astore_n 3, 1) := by decide +kernel
theorem d_H_scanAllGrey_18 : decode b_H_scanAllGrey 18 = .ok (.aload_n 3, 1) := by decide +kernel
theorem d_H_scanAllGrey_19 : decode b_H_scanAllGrey 19 = .ok (.ifnonnull 6, 3) := by decide +kernel
theorem d_H_scanAllGrey_22 : decode b_H_scanAllGrey 22 = .ok (.goto 16, 3) := by decide +kernel
theorem d_H_scanAllGrey_25 : decode b_H_scanAllGrey 25 = .ok (.iload_n 1, 1) := by decide +kernel
theorem d_H_scanAllGrey_26 : decode b_H_scanAllGrey 26 = .ok (.aload_n 3, 1) := by decide +kernel
theorem d_H_scanAllGrey_27 : decode b_H_scanAllGrey 27 = .ok (.invokestatic 105, 3) := by decide +kernel
theorem d_H_scanAllGrey_30 : decode b_H_scanAllGrey 30 = .ok (.iadd, 1) := by decide +kernel
theorem d_H_scanAllGrey_31 : decode b_H_scanAllGrey 31 = .ok (.istore_n 1, 1) := by decide +kernel
theorem d_H_scanAllGrey_32 : decode b_H_scanAllGrey 32 = .ok (.iinc 2 1, 3) := by decide +kernel
theorem d_H_scanAllGrey_35 : decode b_H_scanAllGrey 35 = .ok (.goto (-31), 3) := by decide +kernel
theorem d_H_scanAllGrey_38 : decode b_H_scanAllGrey 38 = .ok (.iload_n 1, 1) := by decide +kernel
theorem d_H_scanAllGrey_39 : decode b_H_scanAllGrey 39 = .ok (.ireturn, 1) := by decide +kernel
theorem d_O_init_0 : decode b_O_init 0 = .ok (.aload_n 0, 1) := by decide +kernel
theorem d_O_init_1 : decode b_O_init 1 = .ok (.invokespecial 3, 3) := by decide +kernel
theorem d_O_init_4 : decode b_O_init 4 = .ok (.aload_n 0, 1) := by decide +kernel
theorem d_O_init_5 : decode b_O_init 5 = .ok (.bipush 64, 2) := by decide +kernel
theorem d_O_init_7 : decode b_O_init 7 = .ok (.anewarray 9, 3) := by decide +kernel
theorem d_O_init_10 : decode b_O_init 10 = .ok (.putfield 11, 3) := by decide +kernel
theorem d_O_init_13 : decode b_O_init 13 = .ok (.return_, 1) := by decide +kernel
theorem d_O_findPlace_0 : decode b_O_findPlace 0 = .ok (.iconst 0, 1) := by decide +kernel
theorem d_O_findPlace_1 : decode b_O_findPlace 1 = .ok (.istore_n 2, 1) := by decide +kernel
theorem d_O_findPlace_2 : decode b_O_findPlace 2 = .ok (.iconst 0, 1) := by decide +kernel
theorem d_O_findPlace_3 : decode b_O_findPlace 3 = .ok (.istore_n 3, 1) := by decide +kernel
theorem d_O_findPlace_4 : decode b_O_findPlace 4 = .ok (.iload_n 3, 1) := by decide +kernel
theorem d_O_findPlace_5 : decode b_O_findPlace 5 = .ok (.bipush 64, 2) := by decide +kernel
theorem d_O_findPlace_7 : decode b_O_findPlace 7 = .ok (.if_icmp .ge 37, 3) := by decide +kernel
theorem d_O_findPlace_10 : decode b_O_findPlace 10 = .ok (.aload_n 0, 1) := by decide +kernel
theorem d_O_findPlace_11 : decode b_O_findPlace 11 = .ok (.getfield 11, 3) := by decide +kernel
theorem d_O_findPlace_14 : decode b_O_findPlace 14 = .ok (.iload_n 3, 1) := by decide +kernel
theorem d_O_findPlace_15 : decode b_O_findPlace 15 = .ok (.aaload, 1) := by decide +kernel
theorem d_O_findPlace_16 : decode b_O_findPlace 16 = .ok (.ifnonnull 9, 3) := by decide +kernel
theorem d_O_findPlace_19 : decode b_O_findPlace 19 = .ok (.iload_n 2, 1) := by decide +kernel
theorem d_O_findPlace_20 : decode b_O_findPlace 20 = .ok (.iconst 1, 1) := by decide +kernel
theorem d_O_findPlace_21 : decode b_O_findPlace 21 = .ok (.iadd, 1) := by decide +kernel
theorem d_O_findPlace_22 : decode b_O_findPlace 22 = .ok (.goto 4, 3) := by decide +kernel
theorem d_O_findPlace_25 : decode b_O_findPlace 25 = .ok (.iconst 0, 1) := by decide +kernel
theorem d_O_findPlace_26 : decode b_O_findPlace 26 = .ok (.istore_n 2, 1) := by decide +kernel
theorem d_O_findPlace_27 : decode b_O_findPlace 27 = .ok (.iload_n 2, 1) := by decide +kernel
theorem d_O_findPlace_28 : decode b_O_findPlace 28 = .ok (.iload_n 1, 1) := by decide +kernel
theorem d_O_findPlace_29 : decode b_O_findPlace 29 = .ok (.if_icmp .ne 9, 3) := by decide +kernel
theorem d_O_findPlace_32 : decode b_O_findPlace 32 = .ok (.iload_n 3, 1) := by decide +kernel
theorem d_O_findPlace_33 : decode b_O_findPlace 33 = .ok (.iconst 1, 1) := by decide +kernel
theorem d_O_findPlace_34 : decode b_O_findPlace 34 = .ok (.iadd, 1) := by decide +kernel
theorem d_O_findPlace_35 : decode b_O_findPlace 35 = .ok (.iload_n 1, 1) := by decide +kernel
theorem d_O_findPlace_36 : decode b_O_findPlace 36 = .ok (.isub, 1) := by decide +kernel
theorem d_O_findPlace_37 : decode b_O_findPlace 37 = .ok (.ireturn, 1) := by decide +kernel
theorem d_O_findPlace_38 : decode b_O_findPlace 38 = .ok (.iinc 3 1, 3) := by decide +kernel
theorem d_O_findPlace_41 : decode b_O_findPlace 41 = .ok (.goto (-37), 3) := by decide +kernel
theorem d_O_findPlace_44 : decode b_O_findPlace 44 = .ok (.iconst (-1), 1) := by decide +kernel
theorem d_O_findPlace_45 : decode b_O_findPlace 45 = .ok (.ireturn, 1) := by decide +kernel
theorem d_O_putAt_0 : decode b_O_putAt 0 = .ok (.aload_n 1, 1) := by decide +kernel
theorem d_O_putAt_1 : decode b_O_putAt 1 = .ok (.iload_n 2, 1) := by decide +kernel
theorem d_O_putAt_2 : decode b_O_putAt 2 = .ok (.putfield 17, 3) := by decide +kernel
theorem d_O_putAt_5 : decode b_O_putAt 5 = .ok (.aload_n 0, 1) := by decide +kernel
theorem d_O_putAt_6 : decode b_O_putAt 6 = .ok (.iload_n 2, 1) := by decide +kernel
theorem d_O_putAt_7 : decode b_O_putAt 7 = .ok (.aload_n 1, 1) := by decide +kernel
theorem d_O_putAt_8 : decode b_O_putAt 8 = .ok (.invokevirtual 21, 3) := by decide +kernel
theorem d_O_putAt_11 : decode b_O_putAt 11 = .ok (.aload_n 1, 1) := by decide +kernel
theorem d_O_putAt_12 : decode b_O_putAt 12 = .ok (.invokevirtual 25, 3) := by decide +kernel
theorem d_O_putAt_15 : decode b_O_putAt 15 = .ok (.return_, 1) := by decide +kernel
theorem d_O_takeOut_0 : decode b_O_takeOut 0 = .ok (.aload_n 0, 1) := by decide +kernel
theorem d_O_takeOut_1 : decode b_O_takeOut 1 = .ok (.aload_n 1, 1) := by decide +kernel
theorem d_O_takeOut_2 : decode b_O_takeOut 2 = .ok (.getfield 17, 3) := by decide +kernel
theorem d_O_takeOut_5 : decode b_O_takeOut 5 = .ok (.aload_n 1, 1) := by decide +kernel
theorem d_O_takeOut_6 : decode b_O_takeOut 6 = .ok (.invokevirtual 21, 3) := by decide +kernel
theorem d_O_takeOut_9 : decode b_O_takeOut 9 = .ok (.aconst_null, 1) := by decide +kernel
theorem d_O_takeOut_10 : decode b_O_takeOut 10 = .ok (.invokevirtual 25, 3) := by decide +kernel
theorem d_O_takeOut_13 : decode b_O_takeOut 13 = .ok (.return_, 1) := by decide +kernel
theorem d_O_fill_0 : decode b_O_fill 0 = .ok (.iload_n 1, 1) := by decide +kernel
theorem d_O_fill_1 : decode b_O_fill 1 = .ok (.iconst 0, 1) := by decide +kernel
theorem d_O_fill_2 : decode b_O_fill 2 = .ok (.invokestatic 29, 3) := by decide +kernel
theorem d_O_fill_5 : decode b_O_fill 5 = .ok (.istore 4, 2) := by decide +kernel
theorem d_O_fill_7 : decode b_O_fill 7 = .ok (.iload 4, 2) := by decide +kernel
theorem d_O_fill_9 : decode b_O_fill 9 = .ok (.iload_n 1, 1) := by decide +kernel
theorem d_O_fill_10 : decode b_O_fill 10 = .ok (.iload_n 2, 1) := by decide +kernel
theorem d_O_fill_11 : decode b_O_fill 11 = .ok (.iadd, 1) := by decide +kernel
theorem d_O_fill_12 : decode b_O_fill 12 = .ok (.if_icmp .ge 24, 3) := by decide +kernel
theorem d_O_fill_15 : decode b_O_fill 15 = .ok (.iload 4, 2) := by decide +kernel
theorem d_O_fill_17 : decode b_O_fill 17 = .ok (.bipush 64, 2) := by decide +kernel
theorem d_O_fill_19 : decode b_O_fill 19 = .ok (.if_icmp .ge 17, 3) := by decide +kernel
theorem d_O_fill_22 : decode b_O_fill 22 = .ok (.aload_n 0, 1) := by decide +kernel
theorem d_O_fill_23 : decode b_O_fill 23 = .ok (.getfield 11, 3) := by decide +kernel
theorem d_O_fill_26 : decode b_O_fill 26 = .ok (.iload 4, 2) := by decide +kernel
theorem d_O_fill_28 : decode b_O_fill 28 = .ok (.aload_n 3, 1) := by decide +kernel
theorem d_O_fill_29 : decode b_O_fill 29 = .ok (.aastore, 1) := by decide +kernel
theorem d_O_fill_30 : decode b_O_fill 30 = .ok (.iinc 4 1, 3) := by decide +kernel
theorem d_O_fill_33 : decode b_O_fill 33 = .ok (.goto (-26), 3) := by decide +kernel
theorem d_O_fill_36 : decode b_O_fill 36 = .ok (.return_, 1) := by decide +kernel
theorem d_O_thingAt_0 : decode b_O_thingAt 0 = .ok (.aload_n 0, 1) := by decide +kernel
theorem d_O_thingAt_1 : decode b_O_thingAt 1 = .ok (.getfield 11, 3) := by decide +kernel
theorem d_O_thingAt_4 : decode b_O_thingAt 4 = .ok (.iload_n 1, 1) := by decide +kernel
theorem d_O_thingAt_5 : decode b_O_thingAt 5 = .ok (.aaload, 1) := by decide +kernel
theorem d_O_thingAt_6 : decode b_O_thingAt 6 = .ok (.astore_n 2, 1) := by decide +kernel
theorem d_O_thingAt_7 : decode b_O_thingAt 7 = .ok (.aload_n 2, 1) := by decide +kernel
theorem d_O_thingAt_8 : decode b_O_thingAt 8 = .ok (.ifnull 15, 3) := by decide +kernel
theorem d_O_thingAt_11 : decode b_O_thingAt 11 = .ok (.aload_n 2, 1) := by decide +kernel
theorem d_O_thingAt_12 : decode b_O_thingAt 12 = .ok (.getfield 17, 3) := by decide +kernel
theorem d_O_thingAt_15 : decode b_O_thingAt 15 = .ok (.iload_n 1, 1) := by decide +kernel
theorem d_O_thingAt_16 : decode b_O_thingAt 16 = .ok (.if_icmp .ne 7, 3) := by decide +kernel
theorem d_O_thingAt_19 : decode b_O_thingAt 19 = .ok (.aload_n 2, 1) := by decide +kernel
theorem d_O_thingAt_20 : decode b_O_thingAt 20 = .ok (.goto 4, 3) := by decide +kernel
theorem d_O_thingAt_23 : decode b_O_thingAt 23 = .ok (.aconst_null, 1) := by decide +kernel
theorem d_O_thingAt_24 : decode b_O_thingAt 24 = .ok (.areturn, 1) := by decide +kernel
theorem d_O_firstFrom_0 : decode b_O_firstFrom 0 = .ok (.iload_n 1, 1) := by decide +kernel
theorem d_O_firstFrom_1 : decode b_O_firstFrom 1 = .ok (.iconst 0, 1) := by decide +kernel
theorem d_O_firstFrom_2 : decode b_O_firstFrom 2 = .ok (.invokestatic 29, 3) := by decide +kernel
theorem d_O_firstFrom_5 : decode b_O_firstFrom 5 = .ok (.istore_n 2, 1) := by decide +kernel
theorem d_O_firstFrom_6 : decode b_O_firstFrom 6 = .ok (.iload_n 2, 1) := by decide +kernel
theorem d_O_firstFrom_7 : decode b_O_firstFrom 7 = .ok (.bipush 64, 2) := by decide +kernel
theorem d_O_firstFrom_9 : decode b_O_firstFrom 9 = .ok (.if_icmp .ge 21, 3) := by decide +kernel
theorem d_O_firstFrom_12 : decode b_O_firstFrom 12 = .ok (.aload_n 0, 1) := by decide +kernel
theorem d_O_firstFrom_13 : decode b_O_firstFrom 13 = .ok (.iload_n 2, 1) := by decide +kernel
theorem d_O_firstFrom_14 : decode b_O_firstFrom 14 = .ok (.invokevirtual 35, 3) := by decide +kernel
theorem d_O_firstFrom_17 : decode b_O_firstFrom 17 = .ok (.astore_n 3, 1) := by decide +kernel
theorem d_O_firstFrom_18 : decode b_O_firstFrom 18 = .ok (.aload_n 3, 1) := by decide +kernel
theorem d_O_firstFrom_19 : decode b_O_firstFrom 19 = .ok (.ifnull 5, 3) := by decide +kernel
theorem d_O_firstFrom_22 : decode b_O_firstFrom 22 = .ok (.aload_n 3, 1) := by decide +kernel
theorem d_O_firstFrom_23 : decode b_O_firstFrom 23 = .ok (.areturn, 1) := by decide +kernel
theorem d_O_firstFrom_24 : decode b_O_firstFrom 24 = .ok (.iinc 2 1, 3) := by decide +kernel
theorem d_O_firstFrom_27 : decode b_O_firstFrom 27 = .ok (.goto (-21), 3) := by decide +kernel
theorem d_O_firstFrom_30 : decode b_O_firstFrom 30 = .ok (.aconst_null, 1) := by decide +kernel
theorem d_O_firstFrom_31 : decode b_O_firstFrom 31 = .ok (.areturn, 1) := by decide +kernel
theorem d_O_firstGrey_0 : decode b_O_firstGrey 0 = .ok (.iconst 0, 1) := by decide +kernel
theorem d_O_firstGrey_1 : decode b_O_firstGrey 1 = .ok (.istore_n 1, 1) := by decide +kernel
theorem d_O_firstGrey_2 : decode b_O_firstGrey 2 = .ok (.iload_n 1, 1) := by decide +kernel
theorem d_O_firstGrey_3 : decode b_O_firstGrey 3 = .ok (.bipush 64, 2) := by decide +kernel
theorem d_O_firstGrey_5 : decode b_O_firstGrey 5 = .ok (.if_icmp .ge 28, 3) := by decide +kernel
theorem d_O_firstGrey_8 : decode b_O_firstGrey 8 = .ok (.aload_n 0, 1) := by decide +kernel
theorem d_O_firstGrey_9 : decode b_O_firstGrey 9 = .ok (.iload_n 1, 1) := by decide +kernel
theorem d_O_firstGrey_10 : decode b_O_firstGrey 10 = .ok (.invokevirtual 35, 3) := by decide +kernel
theorem d_O_firstGrey_13 : decode b_O_firstGrey 13 = .ok (.astore_n 2, 1) := by decide +kernel
theorem d_O_firstGrey_14 : decode b_O_firstGrey 14 = .ok (.aload_n 2, 1) := by decide +kernel
theorem d_O_firstGrey_15 : decode b_O_firstGrey 15 = .ok (.ifnull 12, 3) := by decide +kernel
theorem d_O_firstGrey_18 : decode b_O_firstGrey 18 = .ok (.aload_n 2, 1) := by decide +kernel
theorem d_O_firstGrey_19 : decode b_O_firstGrey 19 = .ok (.getfield 39, 3) := by decide +kernel
theorem d_O_firstGrey_22 : decode b_O_firstGrey 22 = .ok (.ifCond .eq 5, 3) := by decide +kernel
theorem d_O_firstGrey_25 : decode b_O_firstGrey 25 = .ok (.aload_n 2, 1) := by decide +kernel
theorem d_O_firstGrey_26 : decode b_O_firstGrey 26 = .ok (.areturn, 1) := by decide +kernel
theorem d_O_firstGrey_27 : decode b_O_firstGrey 27 = .ok (.iinc 1 1, 3) := by decide +kernel
theorem d_O_firstGrey_30 : decode b_O_firstGrey 30 = .ok (.goto (-28), 3) := by decide +kernel
theorem d_O_firstGrey_33 : decode b_O_firstGrey 33 = .ok (.aconst_null, 1) := by decide +kernel
theorem d_O_firstGrey_34 : decode b_O_firstGrey 34 = .ok (.areturn, 1) := by decide +kernel
theorem d_O_referenceIn_0 : decode b_O_referenceIn 0 = .ok (.aload_n 0, 1) := by decide +kernel
theorem d_O_referenceIn_1 : decode b_O_referenceIn 1 = .ok (.getfield 11, 3) := by decide +kernel
theorem d_O_referenceIn_4 : decode b_O_referenceIn 4 = .ok (.iload_n 1, 1) := by decide +kernel
theorem d_O_referenceIn_5 : decode b_O_referenceIn 5 = .ok (.aaload, 1) := by decide +kernel
theorem d_O_referenceIn_6 : decode b_O_referenceIn 6 = .ok (.astore_n 2, 1) := by decide +kernel
theorem d_O_referenceIn_7 : decode b_O_referenceIn 7 = .ok (.aload_n 2, 1) := by decide +kernel
theorem d_O_referenceIn_8 : decode b_O_referenceIn 8 = .ok (.ifnonnull 5, 3) := by decide +kernel
theorem d_O_referenceIn_11 : decode b_O_referenceIn 11 = .ok (.aconst_null, 1) := by decide +kernel
theorem d_O_referenceIn_12 : decode b_O_referenceIn 12 = .ok (.areturn, 1) := by decide +kernel
theorem d_O_referenceIn_13 : decode b_O_referenceIn 13 = .ok (.iload_n 1, 1) := by decide +kernel
theorem d_O_referenceIn_14 : decode b_O_referenceIn 14 = .ok (.aload_n 2, 1) := by decide +kernel
theorem d_O_referenceIn_15 : decode b_O_referenceIn 15 = .ok (.getfield 17, 3) := by decide +kernel
theorem d_O_referenceIn_18 : decode b_O_referenceIn 18 = .ok (.isub, 1) := by decide +kernel
theorem d_O_referenceIn_19 : decode b_O_referenceIn 19 = .ok (.iconst 1, 1) := by decide +kernel
theorem d_O_referenceIn_20 : decode b_O_referenceIn 20 = .ok (.isub, 1) := by decide +kernel
theorem d_O_referenceIn_21 : decode b_O_referenceIn 21 = .ok (.istore_n 3, 1) := by decide +kernel
theorem d_O_referenceIn_22 : decode b_O_referenceIn 22 = .ok (.aload_n 2, 1) := by decide +kernel
theorem d_O_referenceIn_23 : decode b_O_referenceIn 23 = .ok (.iload_n 3, 1) := by decide +kernel
theorem d_O_referenceIn_24 : decode b_O_referenceIn 24 = .ok (.invokevirtual 43, 3) := by decide +kernel
theorem d_O_referenceIn_27 : decode b_O_referenceIn 27 = .ok (.ifCond .eq 12, 3) := by decide +kernel
theorem d_O_referenceIn_30 : decode b_O_referenceIn 30 = .ok (.aload_n 2, 1) := by decide +kernel
theorem d_O_referenceIn_31 : decode b_O_referenceIn 31 = .ok (.getfield 47, 3) := by decide +kernel
theorem d_O_referenceIn_34 : decode b_O_referenceIn 34 = .ok (.iload_n 3, 1) := by decide +kernel
theorem d_O_referenceIn_35 : decode b_O_referenceIn 35 = .ok (.aaload, 1) := by decide +kernel
theorem d_O_referenceIn_36 : decode b_O_referenceIn 36 = .ok (.goto 4, 3) := by decide +kernel
theorem d_O_referenceIn_39 : decode b_O_referenceIn 39 = .ok (.aconst_null, 1) := by decide +kernel
theorem d_O_referenceIn_40 : decode b_O_referenceIn 40 = .ok (.areturn, 1) := by decide +kernel
theorem d_O_cardsReferringToYoung_0 : decode b_O_cardsReferringToYoung 0 = .ok (.iconst 0, 1) := by decide +kernel
theorem d_O_cardsReferringToYoung_1 : decode b_O_cardsReferringToYoung 1 = .ok (.istore_n 1, 1) := by decide +kernel
theorem d_O_cardsReferringToYoung_2 : decode b_O_cardsReferringToYoung 2 = .ok (.iconst 0, 1) := by decide +kernel
theorem d_O_cardsReferringToYoung_3 : decode b_O_cardsReferringToYoung 3 = .ok (.istore_n 2, 1) := by decide +kernel
theorem d_O_cardsReferringToYoung_4 : decode b_O_cardsReferringToYoung 4 = .ok (.iload_n 2, 1) := by decide +kernel
theorem d_O_cardsReferringToYoung_5 : decode b_O_cardsReferringToYoung 5 = .ok (.bipush 64, 2) := by decide +kernel
theorem d_O_cardsReferringToYoung_7 : decode b_O_cardsReferringToYoung 7 = .ok (.if_icmp .ge 33, 3) := by decide +kernel
theorem d_O_cardsReferringToYoung_10 : decode b_O_cardsReferringToYoung 10 = .ok (.aload_n 0, 1) := by decide +kernel
theorem d_O_cardsReferringToYoung_11 : decode b_O_cardsReferringToYoung 11 = .ok (.iload_n 2, 1) := by decide +kernel
theorem d_O_cardsReferringToYoung_12 : decode b_O_cardsReferringToYoung 12 = .ok (.invokevirtual 50, 3) := by decide +kernel
theorem d_O_cardsReferringToYoung_15 : decode b_O_cardsReferringToYoung 15 = .ok (.astore_n 3, 1) := by decide +kernel
theorem d_O_cardsReferringToYoung_16 : decode b_O_cardsReferringToYoung 16 = .ok (.aload_n 3, 1) := by decide +kernel
theorem d_O_cardsReferringToYoung_17 : decode b_O_cardsReferringToYoung 17 = .ok (.ifnull 17, 3) := by decide +kernel
theorem d_O_cardsReferringToYoung_20 : decode b_O_cardsReferringToYoung 20 = .ok (.aload_n 3, 1) := by decide +kernel
theorem d_O_cardsReferringToYoung_21 : decode b_O_cardsReferringToYoung 21 = .ok (.invokevirtual 53, 3) := by decide +kernel
theorem d_O_cardsReferringToYoung_24 : decode b_O_cardsReferringToYoung 24 = .ok (.ifCond .eq 10, 3) := by decide +kernel
theorem d_O_cardsReferringToYoung_27 : decode b_O_cardsReferringToYoung 27 = .ok (.iload_n 1, 1) := by decide +kernel
theorem d_O_cardsReferringToYoung_28 : decode b_O_cardsReferringToYoung 28 = .ok (.iload_n 2, 1) := by decide +kernel
theorem d_O_cardsReferringToYoung_29 : decode b_O_cardsReferringToYoung 29 = .ok (.invokestatic 57, 3) := by decide +kernel
theorem d_O_cardsReferringToYoung_32 : decode b_O_cardsReferringToYoung 32 = .ok (.ior, 1) := by decide +kernel
theorem d_O_cardsReferringToYoung_33 : decode b_O_cardsReferringToYoung 33 = .ok (.istore_n 1, 1) := by decide +kernel
theorem d_O_cardsReferringToYoung_34 : decode b_O_cardsReferringToYoung 34 = .ok (.iinc 2 1, 3) := by decide +kernel
theorem d_O_cardsReferringToYoung_37 : decode b_O_cardsReferringToYoung 37 = .ok (.goto (-33), 3) := by decide +kernel
theorem d_O_cardsReferringToYoung_40 : decode b_O_cardsReferringToYoung 40 = .ok (.iload_n 1, 1) := by decide +kernel
theorem d_O_cardsReferringToYoung_41 : decode b_O_cardsReferringToYoung 41 = .ok (.ireturn, 1) := by decide +kernel
theorem d_O_greyMarkedOn_0 : decode b_O_greyMarkedOn 0 = .ok (.iconst 0, 1) := by decide +kernel
theorem d_O_greyMarkedOn_1 : decode b_O_greyMarkedOn 1 = .ok (.istore_n 2, 1) := by decide +kernel
theorem d_O_greyMarkedOn_2 : decode b_O_greyMarkedOn 2 = .ok (.iload_n 2, 1) := by decide +kernel
theorem d_O_greyMarkedOn_3 : decode b_O_greyMarkedOn 3 = .ok (.bipush 64, 2) := by decide +kernel
theorem d_O_greyMarkedOn_5 : decode b_O_greyMarkedOn 5 = .ok (.if_icmp .ge 41, 3) := by decide +kernel
theorem d_O_greyMarkedOn_8 : decode b_O_greyMarkedOn 8 = .ok (.aload_n 0, 1) := by decide +kernel
theorem d_O_greyMarkedOn_9 : decode b_O_greyMarkedOn 9 = .ok (.getfield 11, 3) := by decide +kernel
theorem d_O_greyMarkedOn_12 : decode b_O_greyMarkedOn 12 = .ok (.iload_n 2, 1) := by decide +kernel
theorem d_O_greyMarkedOn_13 : decode b_O_greyMarkedOn 13 = .ok (.aaload, 1) := by decide +kernel
theorem d_O_greyMarkedOn_14 : decode b_O_greyMarkedOn 14 = .ok (.astore_n 3, 1) := by decide +kernel
theorem d_O_greyMarkedOn_15 : decode b_O_greyMarkedOn 15 = .ok (.aload_n 3, 1) := by decide +kernel
theorem d_O_greyMarkedOn_16 : decode b_O_greyMarkedOn 16 = .ok (.ifnull 24, 3) := by decide +kernel
theorem d_O_greyMarkedOn_19 : decode b_O_greyMarkedOn 19 = .ok (.aload_n 3, 1) := by decide +kernel
theorem d_O_greyMarkedOn_20 : decode b_O_greyMarkedOn 20 = .ok (.getfield 61, 3) := by decide +kernel
theorem d_O_greyMarkedOn_23 : decode b_O_greyMarkedOn 23 = .ok (.ifCond .eq 17, 3) := by decide +kernel
theorem d_O_greyMarkedOn_26 : decode b_O_greyMarkedOn 26 = .ok (.iload_n 1, 1) := by decide +kernel
theorem d_O_greyMarkedOn_27 : decode b_O_greyMarkedOn 27 = .ok (.iload_n 2, 1) := by decide +kernel
theorem d_O_greyMarkedOn_28 : decode b_O_greyMarkedOn 28 = .ok (.invokestatic 57, 3) := by decide +kernel
theorem d_O_greyMarkedOn_31 : decode b_O_greyMarkedOn 31 = .ok (.iand, 1) := by decide +kernel
theorem d_O_greyMarkedOn_32 : decode b_O_greyMarkedOn 32 = .ok (.ifCond .eq 8, 3) := by decide +kernel
theorem d_O_greyMarkedOn_35 : decode b_O_greyMarkedOn 35 = .ok (.aload_n 3, 1) := by decide +kernel
theorem d_O_greyMarkedOn_36 : decode b_O_greyMarkedOn 36 = .ok (.iconst 1, 1) := by decide +kernel
theorem d_O_greyMarkedOn_37 : decode b_O_greyMarkedOn 37 = .ok (.putfield 39, 3) := by decide +kernel
theorem d_O_greyMarkedOn_40 : decode b_O_greyMarkedOn 40 = .ok (.iinc 2 1, 3) := by decide +kernel
theorem d_O_greyMarkedOn_43 : decode b_O_greyMarkedOn 43 = .ok (.goto (-41), 3) := by decide +kernel
theorem d_O_greyMarkedOn_46 : decode b_O_greyMarkedOn 46 = .ok (.return_, 1) := by decide +kernel
theorem d_O_unmarkAll_0 : decode b_O_unmarkAll 0 = .ok (.iconst 0, 1) := by decide +kernel
theorem d_O_unmarkAll_1 : decode b_O_unmarkAll 1 = .ok (.istore_n 1, 1) := by decide +kernel
theorem d_O_unmarkAll_2 : decode b_O_unmarkAll 2 = .ok (.iload_n 1, 1) := by decide +kernel
theorem d_O_unmarkAll_3 : decode b_O_unmarkAll 3 = .ok (.bipush 64, 2) := by decide +kernel
theorem d_O_unmarkAll_5 : decode b_O_unmarkAll 5 = .ok (.if_icmp .ge 30, 3) := by decide +kernel
theorem d_O_unmarkAll_8 : decode b_O_unmarkAll 8 = .ok (.aload_n 0, 1) := by decide +kernel
theorem d_O_unmarkAll_9 : decode b_O_unmarkAll 9 = .ok (.getfield 11, 3) := by decide +kernel
theorem d_O_unmarkAll_12 : decode b_O_unmarkAll 12 = .ok (.iload_n 1, 1) := by decide +kernel
theorem d_O_unmarkAll_13 : decode b_O_unmarkAll 13 = .ok (.aaload, 1) := by decide +kernel
theorem d_O_unmarkAll_14 : decode b_O_unmarkAll 14 = .ok (.astore_n 2, 1) := by decide +kernel
theorem d_O_unmarkAll_15 : decode b_O_unmarkAll 15 = .ok (.aload_n 2, 1) := by decide +kernel
theorem d_O_unmarkAll_16 : decode b_O_unmarkAll 16 = .ok (.ifnull 13, 3) := by decide +kernel
theorem d_O_unmarkAll_19 : decode b_O_unmarkAll 19 = .ok (.aload_n 2, 1) := by decide +kernel
theorem d_O_unmarkAll_20 : decode b_O_unmarkAll 20 = .ok (.iconst 0, 1) := by decide +kernel
theorem d_O_unmarkAll_21 : decode b_O_unmarkAll 21 = .ok (.putfield 61, 3) := by decide +kernel
theorem d_O_unmarkAll_24 : decode b_O_unmarkAll 24 = .ok (.aload_n 2, 1) := by decide +kernel
theorem d_O_unmarkAll_25 : decode b_O_unmarkAll 25 = .ok (.iconst 0, 1) := by decide +kernel
theorem d_O_unmarkAll_26 : decode b_O_unmarkAll 26 = .ok (.putfield 39, 3) := by decide +kernel
theorem d_O_unmarkAll_29 : decode b_O_unmarkAll 29 = .ok (.iinc 1 1, 3) := by decide +kernel
theorem d_O_unmarkAll_32 : decode b_O_unmarkAll 32 = .ok (.goto (-30), 3) := by decide +kernel
theorem d_O_unmarkAll_35 : decode b_O_unmarkAll 35 = .ok (.return_, 1) := by decide +kernel
theorem d_O_slideReached_0 : decode b_O_slideReached 0 = .ok (.iconst 0, 1) := by decide +kernel
theorem d_O_slideReached_1 : decode b_O_slideReached 1 = .ok (.istore_n 1, 1) := by decide +kernel
theorem d_O_slideReached_2 : decode b_O_slideReached 2 = .ok (.iconst 0, 1) := by decide +kernel
theorem d_O_slideReached_3 : decode b_O_slideReached 3 = .ok (.istore_n 2, 1) := by decide +kernel
theorem d_O_slideReached_4 : decode b_O_slideReached 4 = .ok (.iload_n 2, 1) := by decide +kernel
theorem d_O_slideReached_5 : decode b_O_slideReached 5 = .ok (.bipush 64, 2) := by decide +kernel
theorem d_O_slideReached_7 : decode b_O_slideReached 7 = .ok (.if_icmp .ge 54, 3) := by decide +kernel
theorem d_O_slideReached_10 : decode b_O_slideReached 10 = .ok (.aload_n 0, 1) := by decide +kernel
theorem d_O_slideReached_11 : decode b_O_slideReached 11 = .ok (.iload_n 2, 1) := by decide +kernel
theorem d_O_slideReached_12 : decode b_O_slideReached 12 = .ok (.invokevirtual 35, 3) := by decide +kernel
theorem d_O_slideReached_15 : decode b_O_slideReached 15 = .ok (.astore_n 3, 1) := by decide +kernel
theorem d_O_slideReached_16 : decode b_O_slideReached 16 = .ok (.aload_n 3, 1) := by decide +kernel
theorem d_O_slideReached_17 : decode b_O_slideReached 17 = .ok (.ifnonnull 6, 3) := by decide +kernel
theorem d_O_slideReached_20 : decode b_O_slideReached 20 = .ok (.goto 35, 3) := by decide +kernel
theorem d_O_slideReached_23 : decode b_O_slideReached 23 = .ok (.aload_n 0, 1) := by decide +kernel
theorem d_O_slideReached_24 : decode b_O_slideReached 24 = .ok (.aload_n 3, 1) := by decide +kernel
theorem d_O_slideReached_25 : decode b_O_slideReached 25 = .ok (.invokevirtual 64, 3) := by decide +kernel
theorem d_O_slideReached_28 : decode b_O_slideReached 28 = .ok (.aload_n 3, 1) := by decide +kernel
theorem d_O_slideReached_29 : decode b_O_slideReached 29 = .ok (.getfield 68, 3) := by decide +kernel
theorem d_O_slideReached_32 : decode b_O_slideReached 32 = .ok (.ifCond .eq 19, 3) := by decide +kernel
theorem d_O_slideReached_35 : decode b_O_slideReached 35 = .ok (.aload_n 0, 1) := by decide +kernel
theorem d_O_slideReached_36 : decode b_O_slideReached 36 = .ok (.aload_n 3, 1) := by decide +kernel
theorem d_O_slideReached_37 : decode b_O_slideReached 37 = .ok (.iload_n 1, 1) := by decide +kernel
theorem d_O_slideReached_38 : decode b_O_slideReached 38 = .ok (.invokevirtual 71, 3) := by decide +kernel
theorem d_O_slideReached_41 : decode b_O_slideReached 41 = .ok (.iload_n 1, 1) := by decide +kernel
theorem d_O_slideReached_42 : decode b_O_slideReached 42 = .ok (.aload_n 3, 1) := by decide +kernel
theorem d_O_slideReached_43 : decode b_O_slideReached 43 = .ok (.invokevirtual 21, 3) := by decide +kernel
theorem d_O_slideReached_46 : decode b_O_slideReached 46 = .ok (.iadd, 1) := by decide +kernel
theorem d_O_slideReached_47 : decode b_O_slideReached 47 = .ok (.istore_n 1, 1) := by decide +kernel
theorem d_O_slideReached_48 : decode b_O_slideReached 48 = .ok (.goto 7, 3) := by decide +kernel
theorem d_O_slideReached_51 : decode b_O_slideReached 51 = .ok (.aload_n 3, 1) := by decide +kernel
theorem d_O_slideReached_52 : decode b_O_slideReached 52 = .ok (.invokevirtual 75, 3) := by decide +kernel
theorem d_O_slideReached_55 : decode b_O_slideReached 55 = .ok (.iinc 2 1, 3) := by decide +kernel
theorem d_O_slideReached_58 : decode b_O_slideReached 58 = .ok (.goto (-54), 3) := by decide +kernel
theorem d_O_slideReached_61 : decode b_O_slideReached 61 = .ok (.return_, 1) := by decide +kernel
theorem d_O_cellsTaken_0 : decode b_O_cellsTaken 0 = .ok (.iconst 0, 1) := by decide +kernel
theorem d_O_cellsTaken_1 : decode b_O_cellsTaken 1 = .ok (.istore_n 1, 1) := by decide +kernel
theorem d_O_cellsTaken_2 : decode b_O_cellsTaken 2 = .ok (.iconst 0, 1) := by decide +kernel
theorem d_O_cellsTaken_3 : decode b_O_cellsTaken 3 = .ok (.istore_n 2, 1) := by decide +kernel
theorem d_O_cellsTaken_4 : decode b_O_cellsTaken 4 = .ok (.iload_n 2, 1) := by decide +kernel
theorem d_O_cellsTaken_5 : decode b_O_cellsTaken 5 = .ok (.bipush 64, 2) := by decide +kernel
theorem d_O_cellsTaken_7 : decode b_O_cellsTaken 7 = .ok (.if_icmp .ge 21, 3) := by decide +kernel
theorem d_O_cellsTaken_10 : decode b_O_cellsTaken 10 = .ok (.aload_n 0, 1) := by decide +kernel
theorem d_O_cellsTaken_11 : decode b_O_cellsTaken 11 = .ok (.getfield 11, 3) := by decide +kernel
theorem d_O_cellsTaken_14 : decode b_O_cellsTaken 14 = .ok (.iload_n 2, 1) := by decide +kernel
theorem d_O_cellsTaken_15 : decode b_O_cellsTaken 15 = .ok (.aaload, 1) := by decide +kernel
theorem d_O_cellsTaken_16 : decode b_O_cellsTaken 16 = .ok (.ifnull 6, 3) := by decide +kernel
theorem d_O_cellsTaken_19 : decode b_O_cellsTaken 19 = .ok (.iinc 1 1, 3) := by decide +kernel
theorem d_O_cellsTaken_22 : decode b_O_cellsTaken 22 = .ok (.iinc 2 1, 3) := by decide +kernel
theorem d_O_cellsTaken_25 : decode b_O_cellsTaken 25 = .ok (.goto (-21), 3) := by decide +kernel
theorem d_O_cellsTaken_28 : decode b_O_cellsTaken 28 = .ok (.iload_n 1, 1) := by decide +kernel
theorem d_O_cellsTaken_29 : decode b_O_cellsTaken 29 = .ok (.ireturn, 1) := by decide +kernel
theorem d_R_init_0 : decode b_R_init 0 = .ok (.aload_n 0, 1) := by decide +kernel
theorem d_R_init_1 : decode b_R_init 1 = .ok (.invokespecial 1, 3) := by decide +kernel
theorem d_R_init_4 : decode b_R_init 4 = .ok (.aload_n 0, 1) := by decide +kernel
theorem d_R_init_5 : decode b_R_init 5 = .ok (.iload_n 1, 1) := by decide +kernel
theorem d_R_init_6 : decode b_R_init 6 = .ok (.anewarray 7, 3) := by decide +kernel
theorem d_R_init_9 : decode b_R_init 9 = .ok (.putfield 9, 3) := by decide +kernel
theorem d_R_init_12 : decode b_R_init 12 = .ok (.aload_n 0, 1) := by decide +kernel
theorem d_R_init_13 : decode b_R_init 13 = .ok (.iconst 0, 1) := by decide +kernel
theorem d_R_init_14 : decode b_R_init 14 = .ok (.putfield 15, 3) := by decide +kernel
theorem d_R_init_17 : decode b_R_init 17 = .ok (.return_, 1) := by decide +kernel
theorem d_R_add_0 : decode b_R_add 0 = .ok (.aload_n 0, 1) := by decide +kernel
theorem d_R_add_1 : decode b_R_add 1 = .ok (.getfield 15, 3) := by decide +kernel
theorem d_R_add_4 : decode b_R_add 4 = .ok (.aload_n 0, 1) := by decide +kernel
theorem d_R_add_5 : decode b_R_add 5 = .ok (.getfield 9, 3) := by decide +kernel
theorem d_R_add_8 : decode b_R_add 8 = .ok (.arraylength, 1) := by decide +kernel
theorem d_R_add_9 : decode b_R_add 9 = .ok (.if_icmp .lt 5, 3) := by decide +kernel
theorem d_R_add_12 : decode b_R_add 12 = .ok (.iconst 0, 1) := by decide +kernel
theorem d_R_add_13 : decode b_R_add 13 = .ok (.ireturn, 1) := by decide +kernel
theorem d_R_add_14 : decode b_R_add 14 = .ok (.aload_n 0, 1) := by decide +kernel
theorem d_R_add_15 : decode b_R_add 15 = .ok (.getfield 9, 3) := by decide +kernel
theorem d_R_add_18 : decode b_R_add 18 = .ok (.aload_n 0, 1) := by decide +kernel
theorem d_R_add_19 : decode b_R_add 19 = .ok (.getfield 15, 3) := by decide +kernel
theorem d_R_add_22 : decode b_R_add 22 = .ok (.aload_n 1, 1) := by decide +kernel
theorem d_R_add_23 : decode b_R_add 23 = .ok (.aastore, 1) := by decide +kernel
theorem d_R_add_24 : decode b_R_add 24 = .ok (.aload_n 0, 1) := by decide +kernel
theorem d_R_add_25 : decode b_R_add 25 = .ok (.dup, 1) := by decide +kernel
theorem d_R_add_26 : decode b_R_add 26 = .ok (.getfield 15, 3) := by decide +kernel
theorem d_R_add_29 : decode b_R_add 29 = .ok (.iconst 1, 1) := by decide +kernel
theorem d_R_add_30 : decode b_R_add 30 = .ok (.iadd, 1) := by decide +kernel
theorem d_R_add_31 : decode b_R_add 31 = .ok (.putfield 15, 3) := by decide +kernel
theorem d_R_add_34 : decode b_R_add 34 = .ok (.iconst 1, 1) := by decide +kernel
theorem d_R_add_35 : decode b_R_add 35 = .ok (.ireturn, 1) := by decide +kernel
theorem d_R_reach_0 : decode b_R_reach 0 = .ok (.aload_n 1, 1) := by decide +kernel
theorem d_R_reach_1 : decode b_R_reach 1 = .ok (.ifnull 18, 3) := by decide +kernel
theorem d_R_reach_4 : decode b_R_reach 4 = .ok (.aload_n 1, 1) := by decide +kernel
theorem d_R_reach_5 : decode b_R_reach 5 = .ok (.getfield 19, 3) := by decide +kernel
theorem d_R_reach_8 : decode b_R_reach 8 = .ok (.ifCond .ne 11, 3) := by decide +kernel
theorem d_R_reach_11 : decode b_R_reach 11 = .ok (.aload_n 0, 1) := by decide +kernel
theorem d_R_reach_12 : decode b_R_reach 12 = .ok (.aload_n 1, 1) := by decide +kernel
theorem d_R_reach_13 : decode b_R_reach 13 = .ok (.invokevirtual 23, 3) := by decide +kernel
theorem d_R_reach_16 : decode b_R_reach 16 = .ok (.ifCond .ne 5, 3) := by decide +kernel
theorem d_R_reach_19 : decode b_R_reach 19 = .ok (.iconst 0, 1) := by decide +kernel
theorem d_R_reach_20 : decode b_R_reach 20 = .ok (.ireturn, 1) := by decide +kernel
theorem d_R_reach_21 : decode b_R_reach 21 = .ok (.aload_n 1, 1) := by decide +kernel
theorem d_R_reach_22 : decode b_R_reach 22 = .ok (.iconst 1, 1) := by decide +kernel
theorem d_R_reach_23 : decode b_R_reach 23 = .ok (.putfield 19, 3) := by decide +kernel
theorem d_R_reach_26 : decode b_R_reach 26 = .ok (.iconst 1, 1) := by decide +kernel
theorem d_R_reach_27 : decode b_R_reach 27 = .ok (.ireturn, 1) := by decide +kernel
theorem d_R_letGo_0 : decode b_R_letGo 0 = .ok (.iconst 0, 1) := by decide +kernel
theorem d_R_letGo_1 : decode b_R_letGo 1 = .ok (.istore_n 1, 1) := by decide +kernel
theorem d_R_letGo_2 : decode b_R_letGo 2 = .ok (.iload_n 1, 1) := by decide +kernel
theorem d_R_letGo_3 : decode b_R_letGo 3 = .ok (.aload_n 0, 1) := by decide +kernel
theorem d_R_letGo_4 : decode b_R_letGo 4 = .ok (.getfield 15, 3) := by decide +kernel
theorem d_R_letGo_7 : decode b_R_letGo 7 = .ok (.if_icmp .ge 19, 3) := by decide +kernel
theorem d_R_letGo_10 : decode b_R_letGo 10 = .ok (.aload_n 0, 1) := by decide +kernel
theorem d_R_letGo_11 : decode b_R_letGo 11 = .ok (.getfield 9, 3) := by decide +kernel
theorem d_R_letGo_14 : decode b_R_letGo 14 = .ok (.iload_n 1, 1) := by decide +kernel
theorem d_R_letGo_15 : decode b_R_letGo 15 = .ok (.aaload, 1) := by decide +kernel
theorem d_R_letGo_16 : decode b_R_letGo 16 = .ok (.iconst 0, 1) := by decide +kernel
theorem d_R_letGo_17 : decode b_R_letGo 17 = .ok (.putfield 19, 3) := by decide +kernel
theorem d_R_letGo_20 : decode b_R_letGo 20 = .ok (.iinc 1 1, 3) := by decide +kernel
theorem d_R_letGo_23 : decode b_R_letGo 23 = .ok (.goto (-21), 3) := by decide +kernel
theorem d_R_letGo_26 : decode b_R_letGo 26 = .ok (.aload_n 0, 1) := by decide +kernel
theorem d_R_letGo_27 : decode b_R_letGo 27 = .ok (.iconst 0, 1) := by decide +kernel
theorem d_R_letGo_28 : decode b_R_letGo 28 = .ok (.putfield 15, 3) := by decide +kernel
theorem d_R_letGo_31 : decode b_R_letGo 31 = .ok (.return_, 1) := by decide +kernel
theorem d_R_empty_0 : decode b_R_empty 0 = .ok (.aload_n 0, 1) := by decide +kernel
theorem d_R_empty_1 : decode b_R_empty 1 = .ok (.iconst 0, 1) := by decide +kernel
theorem d_R_empty_2 : decode b_R_empty 2 = .ok (.putfield 15, 3) := by decide +kernel
theorem d_R_empty_5 : decode b_R_empty 5 = .ok (.return_, 1) := by decide +kernel
theorem d_R_cellsTaken_0 : decode b_R_cellsTaken 0 = .ok (.iconst 0, 1) := by decide +kernel
theorem d_R_cellsTaken_1 : decode b_R_cellsTaken 1 = .ok (.istore_n 1, 1) := by decide +kernel
theorem d_R_cellsTaken_2 : decode b_R_cellsTaken 2 = .ok (.iconst 0, 1) := by decide +kernel
theorem d_R_cellsTaken_3 : decode b_R_cellsTaken 3 = .ok (.istore_n 2, 1) := by decide +kernel
theorem d_R_cellsTaken_4 : decode b_R_cellsTaken 4 = .ok (.iload_n 2, 1) := by decide +kernel
theorem d_R_cellsTaken_5 : decode b_R_cellsTaken 5 = .ok (.aload_n 0, 1) := by decide +kernel
theorem d_R_cellsTaken_6 : decode b_R_cellsTaken 6 = .ok (.getfield 15, 3) := by decide +kernel
theorem d_R_cellsTaken_9 : decode b_R_cellsTaken 9 = .ok (.if_icmp .ge 21, 3) := by decide +kernel
theorem d_R_cellsTaken_12 : decode b_R_cellsTaken 12 = .ok (.iload_n 1, 1) := by decide +kernel
theorem d_R_cellsTaken_13 : decode b_R_cellsTaken 13 = .ok (.aload_n 0, 1) := by decide +kernel
theorem d_R_cellsTaken_14 : decode b_R_cellsTaken 14 = .ok (.getfield 9, 3) := by decide +kernel
theorem d_R_cellsTaken_17 : decode b_R_cellsTaken 17 = .ok (.iload_n 2, 1) := by decide +kernel
theorem d_R_cellsTaken_18 : decode b_R_cellsTaken 18 = .ok (.aaload, 1) := by decide +kernel
theorem d_R_cellsTaken_19 : decode b_R_cellsTaken 19 = .ok (.invokevirtual 27, 3) := by decide +kernel
theorem d_R_cellsTaken_22 : decode b_R_cellsTaken 22 = .ok (.iadd, 1) := by decide +kernel
theorem d_R_cellsTaken_23 : decode b_R_cellsTaken 23 = .ok (.istore_n 1, 1) := by decide +kernel
theorem d_R_cellsTaken_24 : decode b_R_cellsTaken 24 = .ok (.iinc 2 1, 3) := by decide +kernel
theorem d_R_cellsTaken_27 : decode b_R_cellsTaken 27 = .ok (.goto (-23), 3) := by decide +kernel
theorem d_R_cellsTaken_30 : decode b_R_cellsTaken 30 = .ok (.iload_n 1, 1) := by decide +kernel
theorem d_R_cellsTaken_31 : decode b_R_cellsTaken 31 = .ok (.ireturn, 1) := by decide +kernel
theorem d_T_init_0 : decode b_T_init 0 = .ok (.aload_n 0, 1) := by decide +kernel
theorem d_T_init_1 : decode b_T_init 1 = .ok (.invokespecial 1, 3) := by decide +kernel
theorem d_T_init_4 : decode b_T_init 4 = .ok (.aload_n 0, 1) := by decide +kernel
theorem d_T_init_5 : decode b_T_init 5 = .ok (.iload_n 1, 1) := by decide +kernel
theorem d_T_init_6 : decode b_T_init 6 = .ok (.putfield 7, 3) := by decide +kernel
theorem d_T_init_9 : decode b_T_init 9 = .ok (.aload_n 0, 1) := by decide +kernel
theorem d_T_init_10 : decode b_T_init 10 = .ok (.iload_n 2, 1) := by decide +kernel
theorem d_T_init_11 : decode b_T_init 11 = .ok (.anewarray 8, 3) := by decide +kernel
theorem d_T_init_14 : decode b_T_init 14 = .ok (.putfield 13, 3) := by decide +kernel
theorem d_T_init_17 : decode b_T_init 17 = .ok (.aload_n 0, 1) := by decide +kernel
theorem d_T_init_18 : decode b_T_init 18 = .ok (.iconst 0, 1) := by decide +kernel
theorem d_T_init_19 : decode b_T_init 19 = .ok (.putfield 17, 3) := by decide +kernel
theorem d_T_init_22 : decode b_T_init 22 = .ok (.aload_n 0, 1) := by decide +kernel
theorem d_T_init_23 : decode b_T_init 23 = .ok (.iconst (-1), 1) := by decide +kernel
theorem d_T_init_24 : decode b_T_init 24 = .ok (.putfield 20, 3) := by decide +kernel
theorem d_T_init_27 : decode b_T_init 27 = .ok (.return_, 1) := by decide +kernel
theorem d_T_size_0 : decode b_T_size 0 = .ok (.iconst 1, 1) := by decide +kernel
theorem d_T_size_1 : decode b_T_size 1 = .ok (.aload_n 0, 1) := by decide +kernel
theorem d_T_size_2 : decode b_T_size 2 = .ok (.getfield 13, 3) := by decide +kernel
theorem d_T_size_5 : decode b_T_size 5 = .ok (.arraylength, 1) := by decide +kernel
theorem d_T_size_6 : decode b_T_size 6 = .ok (.iadd, 1) := by decide +kernel
theorem d_T_size_7 : decode b_T_size 7 = .ok (.ireturn, 1) := by decide +kernel
theorem d_T_isYoung_0 : decode b_T_isYoung 0 = .ok (.aload_n 0, 1) := by decide +kernel
theorem d_T_isYoung_1 : decode b_T_isYoung 1 = .ok (.getfield 20, 3) := by decide +kernel
theorem d_T_isYoung_4 : decode b_T_isYoung 4 = .ok (.iconst (-1), 1) := by decide +kernel
theorem d_T_isYoung_5 : decode b_T_isYoung 5 = .ok (.if_icmp .ne 7, 3) := by decide +kernel
theorem d_T_isYoung_8 : decode b_T_isYoung 8 = .ok (.iconst 1, 1) := by decide +kernel
theorem d_T_isYoung_9 : decode b_T_isYoung 9 = .ok (.goto 4, 3) := by decide +kernel
theorem d_T_isYoung_12 : decode b_T_isYoung 12 = .ok (.iconst 0, 1) := by decide +kernel
theorem d_T_isYoung_13 : decode b_T_isYoung 13 = .ok (.ireturn, 1) := by decide +kernel
theorem d_T_isOld_0 : decode b_T_isOld 0 = .ok (.aload_n 0, 1) := by decide +kernel
theorem d_T_isOld_1 : decode b_T_isOld 1 = .ok (.getfield 20, 3) := by decide +kernel
theorem d_T_isOld_4 : decode b_T_isOld 4 = .ok (.ifCond .lt 7, 3) := by decide +kernel
theorem d_T_isOld_7 : decode b_T_isOld 7 = .ok (.iconst 1, 1) := by decide +kernel
theorem d_T_isOld_8 : decode b_T_isOld 8 = .ok (.goto 4, 3) := by decide +kernel
theorem d_T_isOld_11 : decode b_T_isOld 11 = .ok (.iconst 0, 1) := by decide +kernel
theorem d_T_isOld_12 : decode b_T_isOld 12 = .ok (.ireturn, 1) := by decide +kernel
theorem d_T_becomeGone_0 : decode b_T_becomeGone 0 = .ok (.aload_n 0, 1) := by decide +kernel
theorem d_T_becomeGone_1 : decode b_T_becomeGone 1 = .ok (.bipush (-2), 2) := by decide +kernel
theorem d_T_becomeGone_3 : decode b_T_becomeGone 3 = .ok (.putfield 20, 3) := by decide +kernel
theorem d_T_becomeGone_6 : decode b_T_becomeGone 6 = .ok (.return_, 1) := by decide +kernel
theorem d_T_hasField_0 : decode b_T_hasField 0 = .ok (.iload_n 1, 1) := by decide +kernel
theorem d_T_hasField_1 : decode b_T_hasField 1 = .ok (.ifCond .lt 16, 3) := by decide +kernel
theorem d_T_hasField_4 : decode b_T_hasField 4 = .ok (.iload_n 1, 1) := by decide +kernel
theorem d_T_hasField_5 : decode b_T_hasField 5 = .ok (.aload_n 0, 1) := by decide +kernel
theorem d_T_hasField_6 : decode b_T_hasField 6 = .ok (.getfield 13, 3) := by decide +kernel
theorem d_T_hasField_9 : decode b_T_hasField 9 = .ok (.arraylength, 1) := by decide +kernel
theorem d_T_hasField_10 : decode b_T_hasField 10 = .ok (.if_icmp .ge 7, 3) := by decide +kernel
theorem d_T_hasField_13 : decode b_T_hasField 13 = .ok (.iconst 1, 1) := by decide +kernel
theorem d_T_hasField_14 : decode b_T_hasField 14 = .ok (.goto 4, 3) := by decide +kernel
theorem d_T_hasField_17 : decode b_T_hasField 17 = .ok (.iconst 0, 1) := by decide +kernel
theorem d_T_hasField_18 : decode b_T_hasField 18 = .ok (.ireturn, 1) := by decide +kernel
theorem d_T_cardsUnder_0 : decode b_T_cardsUnder 0 = .ok (.iconst 0, 1) := by decide +kernel
theorem d_T_cardsUnder_1 : decode b_T_cardsUnder 1 = .ok (.istore_n 1, 1) := by decide +kernel
theorem d_T_cardsUnder_2 : decode b_T_cardsUnder 2 = .ok (.iconst 0, 1) := by decide +kernel
theorem d_T_cardsUnder_3 : decode b_T_cardsUnder 3 = .ok (.istore_n 2, 1) := by decide +kernel
theorem d_T_cardsUnder_4 : decode b_T_cardsUnder 4 = .ok (.iload_n 2, 1) := by decide +kernel
theorem d_T_cardsUnder_5 : decode b_T_cardsUnder 5 = .ok (.aload_n 0, 1) := by decide +kernel
theorem d_T_cardsUnder_6 : decode b_T_cardsUnder 6 = .ok (.getfield 13, 3) := by decide +kernel
theorem d_T_cardsUnder_9 : decode b_T_cardsUnder 9 = .ok (.arraylength, 1) := by decide +kernel
theorem d_T_cardsUnder_10 : decode b_T_cardsUnder 10 = .ok (.if_icmp .gt 21, 3) := by decide +kernel
theorem d_T_cardsUnder_13 : decode b_T_cardsUnder 13 = .ok (.iload_n 1, 1) := by decide +kernel
theorem d_T_cardsUnder_14 : decode b_T_cardsUnder 14 = .ok (.aload_n 0, 1) := by decide +kernel
theorem d_T_cardsUnder_15 : decode b_T_cardsUnder 15 = .ok (.getfield 20, 3) := by decide +kernel
theorem d_T_cardsUnder_18 : decode b_T_cardsUnder 18 = .ok (.iload_n 2, 1) := by decide +kernel
theorem d_T_cardsUnder_19 : decode b_T_cardsUnder 19 = .ok (.iadd, 1) := by decide +kernel
theorem d_T_cardsUnder_20 : decode b_T_cardsUnder 20 = .ok (.invokestatic 23, 3) := by decide +kernel
theorem d_T_cardsUnder_23 : decode b_T_cardsUnder 23 = .ok (.ior, 1) := by decide +kernel
theorem d_T_cardsUnder_24 : decode b_T_cardsUnder 24 = .ok (.istore_n 1, 1) := by decide +kernel
theorem d_T_cardsUnder_25 : decode b_T_cardsUnder 25 = .ok (.iinc 2 1, 3) := by decide +kernel
theorem d_T_cardsUnder_28 : decode b_T_cardsUnder 28 = .ok (.goto (-24), 3) := by decide +kernel
theorem d_T_cardsUnder_31 : decode b_T_cardsUnder 31 = .ok (.iload_n 1, 1) := by decide +kernel
theorem d_T_cardsUnder_32 : decode b_T_cardsUnder 32 = .ok (.ireturn, 1) := by decide +kernel
