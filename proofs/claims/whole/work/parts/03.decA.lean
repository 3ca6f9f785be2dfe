theorem dX0_init_0 : decode cX0_init 0 = .ok (.aload_n 0, 1) := by decide +kernel
theorem dX0_init_1 : decode cX0_init 1 = .ok (.invokespecial 3, 3) := by decide +kernel
theorem dX0_init_4 : decode cX0_init 4 = .ok (.aload_n 0, 1) := by decide +kernel
theorem dX0_init_5 : decode cX0_init 5 = .ok (.iconst 0, 1) := by decide +kernel
theorem dX0_init_6 : decode cX0_init 6 = .ok (.putfield 9, 3) := by decide +kernel
theorem dX0_init_9 : decode cX0_init 9 = .ok (.aload_n 0, 1) := by decide +kernel
theorem dX0_init_10 : decode cX0_init 10 = .ok (.iconst 0, 1) := by decide +kernel
theorem dX0_init_11 : decode cX0_init 11 = .ok (.putfield 15, 3) := by decide +kernel
theorem dX0_init_14 : decode cX0_init 14 = .ok (.aload_n 0, 1) := by decide +kernel
theorem dX0_init_15 : decode cX0_init 15 = .ok (.iconst 0, 1) := by decide +kernel
theorem dX0_init_16 : decode cX0_init 16 = .ok (.putfield 18, 3) := by decide +kernel
theorem dX0_init_19 : decode cX0_init 19 = .ok (.aload_n 0, 1) := by decide +kernel
theorem dX0_init_20 : decode cX0_init 20 = .ok (.bipush 24, 2) := by decide +kernel
theorem dX0_init_22 : decode cX0_init 22 = .ok (.newarray .int, 2) := by decide +kernel
theorem dX0_init_24 : decode cX0_init 24 = .ok (.putfield 21, 3) := by decide +kernel
theorem dX0_init_27 : decode cX0_init 27 = .ok (.aload_n 0, 1) := by decide +kernel
theorem dX0_init_28 : decode cX0_init 28 = .ok (.bipush 24, 2) := by decide +kernel
theorem dX0_init_30 : decode cX0_init 30 = .ok (.newarray .int, 2) := by decide +kernel
theorem dX0_init_32 : decode cX0_init 32 = .ok (.putfield 25, 3) := by decide +kernel
theorem dX0_init_35 : decode cX0_init 35 = .ok (.aload_n 0, 1) := by decide +kernel
theorem dX0_init_36 : decode cX0_init 36 = .ok (.bipush 24, 2) := by decide +kernel
theorem dX0_init_38 : decode cX0_init 38 = .ok (.newarray .int, 2) := by decide +kernel
theorem dX0_init_40 : decode cX0_init 40 = .ok (.putfield 28, 3) := by decide +kernel
theorem dX0_init_43 : decode cX0_init 43 = .ok (.aload_n 0, 1) := by decide +kernel
theorem dX0_init_44 : decode cX0_init 44 = .ok (.sipush 144, 3) := by decide +kernel
theorem dX0_init_47 : decode cX0_init 47 = .ok (.newarray .int, 2) := by decide +kernel
theorem dX0_init_49 : decode cX0_init 49 = .ok (.putfield 31, 3) := by decide +kernel
theorem dX0_init_52 : decode cX0_init 52 = .ok (.aload_n 0, 1) := by decide +kernel
theorem dX0_init_53 : decode cX0_init 53 = .ok (.iconst 4, 1) := by decide +kernel
theorem dX0_init_54 : decode cX0_init 54 = .ok (.newarray .int, 2) := by decide +kernel
theorem dX0_init_56 : decode cX0_init 56 = .ok (.putfield 34, 3) := by decide +kernel
theorem dX0_init_59 : decode cX0_init 59 = .ok (.aload_n 0, 1) := by decide +kernel
theorem dX0_init_60 : decode cX0_init 60 = .ok (.getfield 34, 3) := by decide +kernel
theorem dX0_init_63 : decode cX0_init 63 = .ok (.bipush (-5), 2) := by decide +kernel
theorem dX0_init_65 : decode cX0_init 65 = .ok (.invokestatic 37, 3) := by decide +kernel
theorem dX0_init_68 : decode cX0_init 68 = .ok (.return_, 1) := by decide +kernel
theorem dX0_copyFrom_0 : decode cX0_copyFrom 0 = .ok (.aload_n 0, 1) := by decide +kernel
theorem dX0_copyFrom_1 : decode cX0_copyFrom 1 = .ok (.aload_n 1, 1) := by decide +kernel
theorem dX0_copyFrom_2 : decode cX0_copyFrom 2 = .ok (.getfield 9, 3) := by decide +kernel
theorem dX0_copyFrom_5 : decode cX0_copyFrom 5 = .ok (.putfield 9, 3) := by decide +kernel
theorem dX0_copyFrom_8 : decode cX0_copyFrom 8 = .ok (.aload_n 0, 1) := by decide +kernel
theorem dX0_copyFrom_9 : decode cX0_copyFrom 9 = .ok (.aload_n 1, 1) := by decide +kernel
theorem dX0_copyFrom_10 : decode cX0_copyFrom 10 = .ok (.getfield 15, 3) := by decide +kernel
theorem dX0_copyFrom_13 : decode cX0_copyFrom 13 = .ok (.putfield 15, 3) := by decide +kernel
theorem dX0_copyFrom_16 : decode cX0_copyFrom 16 = .ok (.aload_n 0, 1) := by decide +kernel
theorem dX0_copyFrom_17 : decode cX0_copyFrom 17 = .ok (.aload_n 1, 1) := by decide +kernel
theorem dX0_copyFrom_18 : decode cX0_copyFrom 18 = .ok (.getfield 18, 3) := by decide +kernel
theorem dX0_copyFrom_21 : decode cX0_copyFrom 21 = .ok (.putfield 18, 3) := by decide +kernel
theorem dX0_copyFrom_24 : decode cX0_copyFrom 24 = .ok (.aload_n 1, 1) := by decide +kernel
theorem dX0_copyFrom_25 : decode cX0_copyFrom 25 = .ok (.getfield 21, 3) := by decide +kernel
theorem dX0_copyFrom_28 : decode cX0_copyFrom 28 = .ok (.iconst 0, 1) := by decide +kernel
theorem dX0_copyFrom_29 : decode cX0_copyFrom 29 = .ok (.aload_n 0, 1) := by decide +kernel
theorem dX0_copyFrom_30 : decode cX0_copyFrom 30 = .ok (.getfield 21, 3) := by decide +kernel
theorem dX0_copyFrom_33 : decode cX0_copyFrom 33 = .ok (.iconst 0, 1) := by decide +kernel
theorem dX0_copyFrom_34 : decode cX0_copyFrom 34 = .ok (.bipush 24, 2) := by decide +kernel
theorem dX0_copyFrom_36 : decode cX0_copyFrom 36 = .ok (.invokestatic 43, 3) := by decide +kernel
theorem dX0_copyFrom_39 : decode cX0_copyFrom 39 = .ok (.aload_n 1, 1) := by decide +kernel
theorem dX0_copyFrom_40 : decode cX0_copyFrom 40 = .ok (.getfield 25, 3) := by decide +kernel
theorem dX0_copyFrom_43 : decode cX0_copyFrom 43 = .ok (.iconst 0, 1) := by decide +kernel
theorem dX0_copyFrom_44 : decode cX0_copyFrom 44 = .ok (.aload_n 0, 1) := by decide +kernel
theorem dX0_copyFrom_45 : decode cX0_copyFrom 45 = .ok (.getfield 25, 3) := by decide +kernel
theorem dX0_copyFrom_48 : decode cX0_copyFrom 48 = .ok (.iconst 0, 1) := by decide +kernel
theorem dX0_copyFrom_49 : decode cX0_copyFrom 49 = .ok (.bipush 24, 2) := by decide +kernel
theorem dX0_copyFrom_51 : decode cX0_copyFrom 51 = .ok (.invokestatic 43, 3) := by decide +kernel
theorem dX0_copyFrom_54 : decode cX0_copyFrom 54 = .ok (.aload_n 1, 1) := by decide +kernel
theorem dX0_copyFrom_55 : decode cX0_copyFrom 55 = .ok (.getfield 28, 3) := by decide +kernel
theorem dX0_copyFrom_58 : decode cX0_copyFrom 58 = .ok (.iconst 0, 1) := by decide +kernel
theorem dX0_copyFrom_59 : decode cX0_copyFrom 59 = .ok (.aload_n 0, 1) := by decide +kernel
theorem dX0_copyFrom_60 : decode cX0_copyFrom 60 = .ok (.getfield 28, 3) := by decide +kernel
theorem dX0_copyFrom_63 : decode cX0_copyFrom 63 = .ok (.iconst 0, 1) := by decide +kernel
theorem dX0_copyFrom_64 : decode cX0_copyFrom 64 = .ok (.bipush 24, 2) := by decide +kernel
theorem dX0_copyFrom_66 : decode cX0_copyFrom 66 = .ok (.invokestatic 43, 3) := by decide +kernel
theorem dX0_copyFrom_69 : decode cX0_copyFrom 69 = .ok (.aload_n 1, 1) := by decide +kernel
theorem dX0_copyFrom_70 : decode cX0_copyFrom 70 = .ok (.getfield 31, 3) := by decide +kernel
theorem dX0_copyFrom_73 : decode cX0_copyFrom 73 = .ok (.iconst 0, 1) := by decide +kernel
theorem dX0_copyFrom_74 : decode cX0_copyFrom 74 = .ok (.aload_n 0, 1) := by decide +kernel
theorem dX0_copyFrom_75 : decode cX0_copyFrom 75 = .ok (.getfield 31, 3) := by decide +kernel
theorem dX0_copyFrom_78 : decode cX0_copyFrom 78 = .ok (.iconst 0, 1) := by decide +kernel
theorem dX0_copyFrom_79 : decode cX0_copyFrom 79 = .ok (.sipush 144, 3) := by decide +kernel
theorem dX0_copyFrom_82 : decode cX0_copyFrom 82 = .ok (.invokestatic 43, 3) := by decide +kernel
theorem dX0_copyFrom_85 : decode cX0_copyFrom 85 = .ok (.aload_n 1, 1) := by decide +kernel
theorem dX0_copyFrom_86 : decode cX0_copyFrom 86 = .ok (.getfield 34, 3) := by decide +kernel
theorem dX0_copyFrom_89 : decode cX0_copyFrom 89 = .ok (.iconst 0, 1) := by decide +kernel
theorem dX0_copyFrom_90 : decode cX0_copyFrom 90 = .ok (.aload_n 0, 1) := by decide +kernel
theorem dX0_copyFrom_91 : decode cX0_copyFrom 91 = .ok (.getfield 34, 3) := by decide +kernel
theorem dX0_copyFrom_94 : decode cX0_copyFrom 94 = .ok (.iconst 0, 1) := by decide +kernel
theorem dX0_copyFrom_95 : decode cX0_copyFrom 95 = .ok (.iconst 4, 1) := by decide +kernel
theorem dX0_copyFrom_96 : decode cX0_copyFrom 96 = .ok (.invokestatic 43, 3) := by decide +kernel
theorem dX0_copyFrom_99 : decode cX0_copyFrom 99 = .ok (.return_, 1) := by decide +kernel
theorem dX0_add_0 : decode cX0_add 0 = .ok (.aload_n 0, 1) := by decide +kernel
theorem dX0_add_1 : decode cX0_add 1 = .ok (.getfield 9, 3) := by decide +kernel
theorem dX0_add_4 : decode cX0_add 4 = .ok (.ifCond .lt 12, 3) := by decide +kernel
theorem dX0_add_7 : decode cX0_add 7 = .ok (.aload_n 0, 1) := by decide +kernel
theorem dX0_add_8 : decode cX0_add 8 = .ok (.getfield 9, 3) := by decide +kernel
theorem dX0_add_11 : decode cX0_add 11 = .ok (.bipush 24, 2) := by decide +kernel
theorem dX0_add_13 : decode cX0_add 13 = .ok (.if_icmp .lt 6, 3) := by decide +kernel
theorem dX0_add_16 : decode cX0_add 16 = .ok (.bipush (-5), 2) := by decide +kernel
theorem dX0_add_18 : decode cX0_add 18 = .ok (.ireturn, 1) := by decide +kernel
theorem dX0_add_19 : decode cX0_add 19 = .ok (.aload_n 0, 1) := by decide +kernel
theorem dX0_add_20 : decode cX0_add 20 = .ok (.dup, 1) := by decide +kernel
theorem dX0_add_21 : decode cX0_add 21 = .ok (.getfield 9, 3) := by decide +kernel
theorem dX0_add_24 : decode cX0_add 24 = .ok (.dup_x1, 1) := by decide +kernel
theorem dX0_add_25 : decode cX0_add 25 = .ok (.iconst 1, 1) := by decide +kernel
theorem dX0_add_26 : decode cX0_add 26 = .ok (.iadd, 1) := by decide +kernel
theorem dX0_add_27 : decode cX0_add 27 = .ok (.putfield 9, 3) := by decide +kernel
theorem dX0_add_30 : decode cX0_add 30 = .ok (.istore 4, 2) := by decide +kernel
theorem dX0_add_32 : decode cX0_add 32 = .ok (.aload_n 0, 1) := by decide +kernel
theorem dX0_add_33 : decode cX0_add 33 = .ok (.getfield 21, 3) := by decide +kernel
theorem dX0_add_36 : decode cX0_add 36 = .ok (.iload 4, 2) := by decide +kernel
theorem dX0_add_38 : decode cX0_add 38 = .ok (.iload_n 1, 1) := by decide +kernel
theorem dX0_add_39 : decode cX0_add 39 = .ok (.iastore, 1) := by decide +kernel
theorem dX0_add_40 : decode cX0_add 40 = .ok (.aload_n 0, 1) := by decide +kernel
theorem dX0_add_41 : decode cX0_add 41 = .ok (.getfield 25, 3) := by decide +kernel
theorem dX0_add_44 : decode cX0_add 44 = .ok (.iload 4, 2) := by decide +kernel
theorem dX0_add_46 : decode cX0_add 46 = .ok (.iload_n 2, 1) := by decide +kernel
theorem dX0_add_47 : decode cX0_add 47 = .ok (.iastore, 1) := by decide +kernel
theorem dX0_add_48 : decode cX0_add 48 = .ok (.aload_n 0, 1) := by decide +kernel
theorem dX0_add_49 : decode cX0_add 49 = .ok (.dup, 1) := by decide +kernel
theorem dX0_add_50 : decode cX0_add 50 = .ok (.getfield 15, 3) := by decide +kernel
theorem dX0_add_53 : decode cX0_add 53 = .ok (.iload 4, 2) := by decide +kernel
theorem dX0_add_55 : decode cX0_add 55 = .ok (.invokestatic 49, 3) := by decide +kernel
theorem dX0_add_58 : decode cX0_add 58 = .ok (.ior, 1) := by decide +kernel
theorem dX0_add_59 : decode cX0_add 59 = .ok (.putfield 15, 3) := by decide +kernel
theorem dX0_add_62 : decode cX0_add 62 = .ok (.aload_n 0, 1) := by decide +kernel
theorem dX0_add_63 : decode cX0_add 63 = .ok (.getfield 28, 3) := by decide +kernel
theorem dX0_add_66 : decode cX0_add 66 = .ok (.iload 4, 2) := by decide +kernel
theorem dX0_add_68 : decode cX0_add 68 = .ok (.iconst 0, 1) := by decide +kernel
theorem dX0_add_69 : decode cX0_add 69 = .ok (.iastore, 1) := by decide +kernel
theorem dX0_add_70 : decode cX0_add 70 = .ok (.iconst 0, 1) := by decide +kernel
theorem dX0_add_71 : decode cX0_add 71 = .ok (.istore 5, 2) := by decide +kernel
theorem dX0_add_73 : decode cX0_add 73 = .ok (.iload 5, 2) := by decide +kernel
theorem dX0_add_75 : decode cX0_add 75 = .ok (.iload_n 3, 1) := by decide +kernel
theorem dX0_add_76 : decode cX0_add 76 = .ok (.if_icmp .ge 15, 3) := by decide +kernel
theorem dX0_add_79 : decode cX0_add 79 = .ok (.aload_n 0, 1) := by decide +kernel
theorem dX0_add_80 : decode cX0_add 80 = .ok (.iload 4, 2) := by decide +kernel
theorem dX0_add_82 : decode cX0_add 82 = .ok (.invokevirtual 53, 3) := by decide +kernel
theorem dX0_add_85 : decode cX0_add 85 = .ok (.iinc 5 1, 3) := by decide +kernel
theorem dX0_add_88 : decode cX0_add 88 = .ok (.goto (-15), 3) := by decide +kernel
theorem dX0_add_91 : decode cX0_add 91 = .ok (.iload 4, 2) := by decide +kernel
theorem dX0_add_93 : decode cX0_add 93 = .ok (.ireturn, 1) := by decide +kernel
theorem dX0_widen_0 : decode cX0_widen 0 = .ok (.aload_n 0, 1) := by decide +kernel
theorem dX0_widen_1 : decode cX0_widen 1 = .ok (.getfield 15, 3) := by decide +kernel
theorem dX0_widen_4 : decode cX0_widen 4 = .ok (.iload_n 1, 1) := by decide +kernel
theorem dX0_widen_5 : decode cX0_widen 5 = .ok (.invokestatic 57, 3) := by decide +kernel
theorem dX0_widen_8 : decode cX0_widen 8 = .ok (.ifCond .eq 44, 3) := by decide +kernel
theorem dX0_widen_11 : decode cX0_widen 11 = .ok (.aload_n 0, 1) := by decide +kernel
theorem dX0_widen_12 : decode cX0_widen 12 = .ok (.getfield 28, 3) := by decide +kernel
theorem dX0_widen_15 : decode cX0_widen 15 = .ok (.iload_n 1, 1) := by decide +kernel
theorem dX0_widen_16 : decode cX0_widen 16 = .ok (.iaload, 1) := by decide +kernel
theorem dX0_widen_17 : decode cX0_widen 17 = .ok (.bipush 6, 2) := by decide +kernel
theorem dX0_widen_19 : decode cX0_widen 19 = .ok (.if_icmp .ge 33, 3) := by decide +kernel
theorem dX0_widen_22 : decode cX0_widen 22 = .ok (.aload_n 0, 1) := by decide +kernel
theorem dX0_widen_23 : decode cX0_widen 23 = .ok (.getfield 28, 3) := by decide +kernel
theorem dX0_widen_26 : decode cX0_widen 26 = .ok (.iload_n 1, 1) := by decide +kernel
theorem dX0_widen_27 : decode cX0_widen 27 = .ok (.dup2, 1) := by decide +kernel
theorem dX0_widen_28 : decode cX0_widen 28 = .ok (.iaload, 1) := by decide +kernel
theorem dX0_widen_29 : decode cX0_widen 29 = .ok (.iconst 1, 1) := by decide +kernel
theorem dX0_widen_30 : decode cX0_widen 30 = .ok (.iadd, 1) := by decide +kernel
theorem dX0_widen_31 : decode cX0_widen 31 = .ok (.iastore, 1) := by decide +kernel
theorem dX0_widen_32 : decode cX0_widen 32 = .ok (.aload_n 0, 1) := by decide +kernel
theorem dX0_widen_33 : decode cX0_widen 33 = .ok (.getfield 31, 3) := by decide +kernel
theorem dX0_widen_36 : decode cX0_widen 36 = .ok (.iload_n 1, 1) := by decide +kernel
theorem dX0_widen_37 : decode cX0_widen 37 = .ok (.bipush 6, 2) := by decide +kernel
theorem dX0_widen_39 : decode cX0_widen 39 = .ok (.imul, 1) := by decide +kernel
theorem dX0_widen_40 : decode cX0_widen 40 = .ok (.aload_n 0, 1) := by decide +kernel
theorem dX0_widen_41 : decode cX0_widen 41 = .ok (.getfield 28, 3) := by decide +kernel
theorem dX0_widen_44 : decode cX0_widen 44 = .ok (.iload_n 1, 1) := by decide +kernel
theorem dX0_widen_45 : decode cX0_widen 45 = .ok (.iaload, 1) := by decide +kernel
theorem dX0_widen_46 : decode cX0_widen 46 = .ok (.iadd, 1) := by decide +kernel
theorem dX0_widen_47 : decode cX0_widen 47 = .ok (.iconst 1, 1) := by decide +kernel
theorem dX0_widen_48 : decode cX0_widen 48 = .ok (.isub, 1) := by decide +kernel
theorem dX0_widen_49 : decode cX0_widen 49 = .ok (.bipush (-5), 2) := by decide +kernel
theorem dX0_widen_51 : decode cX0_widen 51 = .ok (.iastore, 1) := by decide +kernel
theorem dX0_widen_52 : decode cX0_widen 52 = .ok (.return_, 1) := by decide +kernel
theorem dX0_isThere_0 : decode cX0_isThere 0 = .ok (.aload_n 0, 1) := by decide +kernel
theorem dX0_isThere_1 : decode cX0_isThere 1 = .ok (.getfield 15, 3) := by decide +kernel
theorem dX0_isThere_4 : decode cX0_isThere 4 = .ok (.iload_n 1, 1) := by decide +kernel
theorem dX0_isThere_5 : decode cX0_isThere 5 = .ok (.invokestatic 57, 3) := by decide +kernel
theorem dX0_isThere_8 : decode cX0_isThere 8 = .ok (.ireturn, 1) := by decide +kernel
theorem dX0_isThereOrNothing_0 : decode cX0_isThereOrNothing 0 = .ok (.iload_n 1, 1) := by decide +kernel
theorem dX0_isThereOrNothing_1 : decode cX0_isThereOrNothing 1 = .ok (.iconst (-1), 1) := by decide +kernel
theorem dX0_isThereOrNothing_2 : decode cX0_isThereOrNothing 2 = .ok (.if_icmp .eq 11, 3) := by decide +kernel
theorem dX0_isThereOrNothing_5 : decode cX0_isThereOrNothing 5 = .ok (.aload_n 0, 1) := by decide +kernel
theorem dX0_isThereOrNothing_6 : decode cX0_isThereOrNothing 6 = .ok (.iload_n 1, 1) := by decide +kernel
theorem dX0_isThereOrNothing_7 : decode cX0_isThereOrNothing 7 = .ok (.invokevirtual 61, 3) := by decide +kernel
theorem dX0_isThereOrNothing_10 : decode cX0_isThereOrNothing 10 = .ok (.ifCond .eq 7, 3) := by decide +kernel
theorem dX0_isThereOrNothing_13 : decode cX0_isThereOrNothing 13 = .ok (.iconst 1, 1) := by decide +kernel
theorem dX0_isThereOrNothing_14 : decode cX0_isThereOrNothing 14 = .ok (.goto 4, 3) := by decide +kernel
theorem dX0_isThereOrNothing_17 : decode cX0_isThereOrNothing 17 = .ok (.iconst 0, 1) := by decide +kernel
theorem dX0_isThereOrNothing_18 : decode cX0_isThereOrNothing 18 = .ok (.ireturn, 1) := by decide +kernel
theorem dX0_isField_0 : decode cX0_isField 0 = .ok (.iload_n 1, 1) := by decide +kernel
theorem dX0_isField_1 : decode cX0_isField 1 = .ok (.ifCond .lt 24, 3) := by decide +kernel
theorem dX0_isField_4 : decode cX0_isField 4 = .ok (.iload_n 1, 1) := by decide +kernel
theorem dX0_isField_5 : decode cX0_isField 5 = .ok (.bipush 24, 2) := by decide +kernel
theorem dX0_isField_7 : decode cX0_isField 7 = .ok (.if_icmp .ge 18, 3) := by decide +kernel
theorem dX0_isField_10 : decode cX0_isField 10 = .ok (.aload_n 0, 1) := by decide +kernel
theorem dX0_isField_11 : decode cX0_isField 11 = .ok (.getfield 15, 3) := by decide +kernel
theorem dX0_isField_14 : decode cX0_isField 14 = .ok (.iload_n 1, 1) := by decide +kernel
theorem dX0_isField_15 : decode cX0_isField 15 = .ok (.ishr, 1) := by decide +kernel
theorem dX0_isField_16 : decode cX0_isField 16 = .ok (.iconst 1, 1) := by decide +kernel
theorem dX0_isField_17 : decode cX0_isField 17 = .ok (.iand, 1) := by decide +kernel
theorem dX0_isField_18 : decode cX0_isField 18 = .ok (.ifCond .eq 7, 3) := by decide +kernel
theorem dX0_isField_21 : decode cX0_isField 21 = .ok (.iconst 1, 1) := by decide +kernel
theorem dX0_isField_22 : decode cX0_isField 22 = .ok (.goto 4, 3) := by decide +kernel
theorem dX0_isField_25 : decode cX0_isField 25 = .ok (.iconst 0, 1) := by decide +kernel
theorem dX0_isField_26 : decode cX0_isField 26 = .ok (.istore_n 3, 1) := by decide +kernel
theorem dX0_isField_27 : decode cX0_isField 27 = .ok (.iload_n 3, 1) := by decide +kernel
theorem dX0_isField_28 : decode cX0_isField 28 = .ok (.ifCond .eq 21, 3) := by decide +kernel
theorem dX0_isField_31 : decode cX0_isField 31 = .ok (.iload_n 2, 1) := by decide +kernel
theorem dX0_isField_32 : decode cX0_isField 32 = .ok (.ifCond .lt 17, 3) := by decide +kernel
theorem dX0_isField_35 : decode cX0_isField 35 = .ok (.iload_n 2, 1) := by decide +kernel
theorem dX0_isField_36 : decode cX0_isField 36 = .ok (.aload_n 0, 1) := by decide +kernel
theorem dX0_isField_37 : decode cX0_isField 37 = .ok (.getfield 28, 3) := by decide +kernel
theorem dX0_isField_40 : decode cX0_isField 40 = .ok (.iload_n 1, 1) := by decide +kernel
theorem dX0_isField_41 : decode cX0_isField 41 = .ok (.iaload, 1) := by decide +kernel
theorem dX0_isField_42 : decode cX0_isField 42 = .ok (.if_icmp .ge 7, 3) := by decide +kernel
theorem dX0_isField_45 : decode cX0_isField 45 = .ok (.iconst 1, 1) := by decide +kernel
theorem dX0_isField_46 : decode cX0_isField 46 = .ok (.goto 4, 3) := by decide +kernel
theorem dX0_isField_49 : decode cX0_isField 49 = .ok (.iconst 0, 1) := by decide +kernel
theorem dX0_isField_50 : decode cX0_isField 50 = .ok (.ireturn, 1) := by decide +kernel
theorem dX0_layoutOf_0 : decode cX0_layoutOf 0 = .ok (.aload_n 0, 1) := by decide +kernel
theorem dX0_layoutOf_1 : decode cX0_layoutOf 1 = .ok (.iload_n 1, 1) := by decide +kernel
theorem dX0_layoutOf_2 : decode cX0_layoutOf 2 = .ok (.invokevirtual 61, 3) := by decide +kernel
theorem dX0_layoutOf_5 : decode cX0_layoutOf 5 = .ok (.ifCond .eq 12, 3) := by decide +kernel
theorem dX0_layoutOf_8 : decode cX0_layoutOf 8 = .ok (.aload_n 0, 1) := by decide +kernel
theorem dX0_layoutOf_9 : decode cX0_layoutOf 9 = .ok (.getfield 21, 3) := by decide +kernel
theorem dX0_layoutOf_12 : decode cX0_layoutOf 12 = .ok (.iload_n 1, 1) := by decide +kernel
theorem dX0_layoutOf_13 : decode cX0_layoutOf 13 = .ok (.iaload, 1) := by decide +kernel
theorem dX0_layoutOf_14 : decode cX0_layoutOf 14 = .ok (.goto 4, 3) := by decide +kernel
theorem dX0_layoutOf_17 : decode cX0_layoutOf 17 = .ok (.iconst (-1), 1) := by decide +kernel
theorem dX0_layoutOf_18 : decode cX0_layoutOf 18 = .ok (.ireturn, 1) := by decide +kernel
theorem dX0_tagOf_0 : decode cX0_tagOf 0 = .ok (.aload_n 0, 1) := by decide +kernel
theorem dX0_tagOf_1 : decode cX0_tagOf 1 = .ok (.iload_n 1, 1) := by decide +kernel
theorem dX0_tagOf_2 : decode cX0_tagOf 2 = .ok (.invokevirtual 61, 3) := by decide +kernel
theorem dX0_tagOf_5 : decode cX0_tagOf 5 = .ok (.ifCond .eq 12, 3) := by decide +kernel
theorem dX0_tagOf_8 : decode cX0_tagOf 8 = .ok (.aload_n 0, 1) := by decide +kernel
theorem dX0_tagOf_9 : decode cX0_tagOf 9 = .ok (.getfield 25, 3) := by decide +kernel
theorem dX0_tagOf_12 : decode cX0_tagOf 12 = .ok (.iload_n 1, 1) := by decide +kernel
theorem dX0_tagOf_13 : decode cX0_tagOf 13 = .ok (.iaload, 1) := by decide +kernel
theorem dX0_tagOf_14 : decode cX0_tagOf 14 = .ok (.goto 4, 3) := by decide +kernel
theorem dX0_tagOf_17 : decode cX0_tagOf 17 = .ok (.iconst (-1), 1) := by decide +kernel
theorem dX0_tagOf_18 : decode cX0_tagOf 18 = .ok (.ireturn, 1) := by decide +kernel
theorem dX0_sizeOf_0 : decode cX0_sizeOf 0 = .ok (.aload_n 0, 1) := by decide +kernel
theorem dX0_sizeOf_1 : decode cX0_sizeOf 1 = .ok (.getfield 15, 3) := by decide +kernel
theorem dX0_sizeOf_4 : decode cX0_sizeOf 4 = .ok (.iload_n 1, 1) := by decide +kernel
theorem dX0_sizeOf_5 : decode cX0_sizeOf 5 = .ok (.invokestatic 57, 3) := by decide +kernel
theorem dX0_sizeOf_8 : decode cX0_sizeOf 8 = .ok (.ifCond .eq 12, 3) := by decide +kernel
theorem dX0_sizeOf_11 : decode cX0_sizeOf 11 = .ok (.aload_n 0, 1) := by decide +kernel
theorem dX0_sizeOf_12 : decode cX0_sizeOf 12 = .ok (.getfield 28, 3) := by decide +kernel
theorem dX0_sizeOf_15 : decode cX0_sizeOf 15 = .ok (.iload_n 1, 1) := by decide +kernel
theorem dX0_sizeOf_16 : decode cX0_sizeOf 16 = .ok (.iaload, 1) := by decide +kernel
theorem dX0_sizeOf_17 : decode cX0_sizeOf 17 = .ok (.goto 4, 3) := by decide +kernel
theorem dX0_sizeOf_20 : decode cX0_sizeOf 20 = .ok (.iconst 0, 1) := by decide +kernel
theorem dX0_sizeOf_21 : decode cX0_sizeOf 21 = .ok (.ireturn, 1) := by decide +kernel
theorem dX0_heldBy_0 : decode cX0_heldBy 0 = .ok (.aload_n 0, 1) := by decide +kernel
theorem dX0_heldBy_1 : decode cX0_heldBy 1 = .ok (.iload_n 1, 1) := by decide +kernel
theorem dX0_heldBy_2 : decode cX0_heldBy 2 = .ok (.iload_n 2, 1) := by decide +kernel
theorem dX0_heldBy_3 : decode cX0_heldBy 3 = .ok (.invokevirtual 65, 3) := by decide +kernel
theorem dX0_heldBy_6 : decode cX0_heldBy 6 = .ok (.ifCond .eq 17, 3) := by decide +kernel
theorem dX0_heldBy_9 : decode cX0_heldBy 9 = .ok (.aload_n 0, 1) := by decide +kernel
theorem dX0_heldBy_10 : decode cX0_heldBy 10 = .ok (.getfield 31, 3) := by decide +kernel
theorem dX0_heldBy_13 : decode cX0_heldBy 13 = .ok (.iload_n 1, 1) := by decide +kernel
theorem dX0_heldBy_14 : decode cX0_heldBy 14 = .ok (.bipush 6, 2) := by decide +kernel
theorem dX0_heldBy_16 : decode cX0_heldBy 16 = .ok (.imul, 1) := by decide +kernel
theorem dX0_heldBy_17 : decode cX0_heldBy 17 = .ok (.iload_n 2, 1) := by decide +kernel
theorem dX0_heldBy_18 : decode cX0_heldBy 18 = .ok (.iadd, 1) := by decide +kernel
theorem dX0_heldBy_19 : decode cX0_heldBy 19 = .ok (.iaload, 1) := by decide +kernel
theorem dX0_heldBy_20 : decode cX0_heldBy 20 = .ok (.goto 5, 3) := by decide +kernel
theorem dX0_heldBy_23 : decode cX0_heldBy 23 = .ok (.bipush (-5), 2) := by decide +kernel
theorem dX0_heldBy_25 : decode cX0_heldBy 25 = .ok (.ireturn, 1) := by decide +kernel
theorem dX0_heldByRoot_0 : decode cX0_heldByRoot 0 = .ok (.iload_n 1, 1) := by decide +kernel
theorem dX0_heldByRoot_1 : decode cX0_heldByRoot 1 = .ok (.invokestatic 68, 3) := by decide +kernel
theorem dX0_heldByRoot_4 : decode cX0_heldByRoot 4 = .ok (.ifCond .eq 12, 3) := by decide +kernel
theorem dX0_heldByRoot_7 : decode cX0_heldByRoot 7 = .ok (.aload_n 0, 1) := by decide +kernel
theorem dX0_heldByRoot_8 : decode cX0_heldByRoot 8 = .ok (.getfield 34, 3) := by decide +kernel
theorem dX0_heldByRoot_11 : decode cX0_heldByRoot 11 = .ok (.iload_n 1, 1) := by decide +kernel
theorem dX0_heldByRoot_12 : decode cX0_heldByRoot 12 = .ok (.iaload, 1) := by decide +kernel
theorem dX0_heldByRoot_13 : decode cX0_heldByRoot 13 = .ok (.goto 5, 3) := by decide +kernel
theorem dX0_heldByRoot_16 : decode cX0_heldByRoot 16 = .ok (.bipush (-5), 2) := by decide +kernel
theorem dX0_heldByRoot_18 : decode cX0_heldByRoot 18 = .ok (.ireturn, 1) := by decide +kernel
theorem dX0_retag_0 : decode cX0_retag 0 = .ok (.aload_n 0, 1) := by decide +kernel
theorem dX0_retag_1 : decode cX0_retag 1 = .ok (.iload_n 1, 1) := by decide +kernel
theorem dX0_retag_2 : decode cX0_retag 2 = .ok (.invokevirtual 61, 3) := by decide +kernel
theorem dX0_retag_5 : decode cX0_retag 5 = .ok (.ifCond .eq 10, 3) := by decide +kernel
theorem dX0_retag_8 : decode cX0_retag 8 = .ok (.aload_n 0, 1) := by decide +kernel
theorem dX0_retag_9 : decode cX0_retag 9 = .ok (.getfield 25, 3) := by decide +kernel
theorem dX0_retag_12 : decode cX0_retag 12 = .ok (.iload_n 1, 1) := by decide +kernel
theorem dX0_retag_13 : decode cX0_retag 13 = .ok (.iload_n 2, 1) := by decide +kernel
theorem dX0_retag_14 : decode cX0_retag 14 = .ok (.iastore, 1) := by decide +kernel
theorem dX0_retag_15 : decode cX0_retag 15 = .ok (.return_, 1) := by decide +kernel
theorem dX0_putInto_0 : decode cX0_putInto 0 = .ok (.aload_n 0, 1) := by decide +kernel
theorem dX0_putInto_1 : decode cX0_putInto 1 = .ok (.iload_n 1, 1) := by decide +kernel
theorem dX0_putInto_2 : decode cX0_putInto 2 = .ok (.iload_n 2, 1) := by decide +kernel
theorem dX0_putInto_3 : decode cX0_putInto 3 = .ok (.invokevirtual 65, 3) := by decide +kernel
theorem dX0_putInto_6 : decode cX0_putInto 6 = .ok (.ifCond .eq 15, 3) := by decide +kernel
theorem dX0_putInto_9 : decode cX0_putInto 9 = .ok (.aload_n 0, 1) := by decide +kernel
theorem dX0_putInto_10 : decode cX0_putInto 10 = .ok (.getfield 31, 3) := by decide +kernel
theorem dX0_putInto_13 : decode cX0_putInto 13 = .ok (.iload_n 1, 1) := by decide +kernel
theorem dX0_putInto_14 : decode cX0_putInto 14 = .ok (.bipush 6, 2) := by decide +kernel
theorem dX0_putInto_16 : decode cX0_putInto 16 = .ok (.imul, 1) := by decide +kernel
theorem dX0_putInto_17 : decode cX0_putInto 17 = .ok (.iload_n 2, 1) := by decide +kernel
theorem dX0_putInto_18 : decode cX0_putInto 18 = .ok (.iadd, 1) := by decide +kernel
theorem dX0_putInto_19 : decode cX0_putInto 19 = .ok (.iload_n 3, 1) := by decide +kernel
theorem dX0_putInto_20 : decode cX0_putInto 20 = .ok (.iastore, 1) := by decide +kernel
theorem dX0_putInto_21 : decode cX0_putInto 21 = .ok (.return_, 1) := by decide +kernel
theorem dX0_putIntoRoot_0 : decode cX0_putIntoRoot 0 = .ok (.iload_n 1, 1) := by decide +kernel
theorem dX0_putIntoRoot_1 : decode cX0_putIntoRoot 1 = .ok (.invokestatic 68, 3) := by decide +kernel
theorem dX0_putIntoRoot_4 : decode cX0_putIntoRoot 4 = .ok (.ifCond .eq 10, 3) := by decide +kernel
theorem dX0_putIntoRoot_7 : decode cX0_putIntoRoot 7 = .ok (.aload_n 0, 1) := by decide +kernel
theorem dX0_putIntoRoot_8 : decode cX0_putIntoRoot 8 = .ok (.getfield 34, 3) := by decide +kernel
theorem dX0_putIntoRoot_11 : decode cX0_putIntoRoot 11 = .ok (.iload_n 1, 1) := by decide +kernel
theorem dX0_putIntoRoot_12 : decode cX0_putIntoRoot 12 = .ok (.iload_n 2, 1) := by decide +kernel
theorem dX0_putIntoRoot_13 : decode cX0_putIntoRoot 13 = .ok (.iastore, 1) := by decide +kernel
theorem dX0_putIntoRoot_14 : decode cX0_putIntoRoot 14 = .ok (.return_, 1) := by decide +kernel
theorem dX0_leadsTo_0 : decode cX0_leadsTo 0 = .ok (.aload_n 0, 1) := by decide +kernel
theorem dX0_leadsTo_1 : decode cX0_leadsTo 1 = .ok (.iload_n 1, 1) := by decide +kernel
theorem dX0_leadsTo_2 : decode cX0_leadsTo 2 = .ok (.iload_n 2, 1) := by decide +kernel
theorem dX0_leadsTo_3 : decode cX0_leadsTo 3 = .ok (.invokevirtual 65, 3) := by decide +kernel
theorem dX0_leadsTo_6 : decode cX0_leadsTo 6 = .ok (.ifCond .eq 22, 3) := by decide +kernel
theorem dX0_leadsTo_9 : decode cX0_leadsTo 9 = .ok (.aload_n 0, 1) := by decide +kernel
theorem dX0_leadsTo_10 : decode cX0_leadsTo 10 = .ok (.getfield 21, 3) := by decide +kernel
theorem dX0_leadsTo_13 : decode cX0_leadsTo 13 = .ok (.iload_n 1, 1) := by decide +kernel
theorem dX0_leadsTo_14 : decode cX0_leadsTo 14 = .ok (.iaload, 1) := by decide +kernel
theorem dX0_leadsTo_15 : decode cX0_leadsTo 15 = .ok (.aload_n 0, 1) := by decide +kernel
theorem dX0_leadsTo_16 : decode cX0_leadsTo 16 = .ok (.getfield 25, 3) := by decide +kernel
theorem dX0_leadsTo_19 : decode cX0_leadsTo 19 = .ok (.iload_n 1, 1) := by decide +kernel
theorem dX0_leadsTo_20 : decode cX0_leadsTo 20 = .ok (.iaload, 1) := by decide +kernel
theorem dX0_leadsTo_21 : decode cX0_leadsTo 21 = .ok (.iload_n 2, 1) := by decide +kernel
theorem dX0_leadsTo_22 : decode cX0_leadsTo 22 = .ok (.invokestatic 71, 3) := by decide +kernel
theorem dX0_leadsTo_25 : decode cX0_leadsTo 25 = .ok (.ifCond .ne 6, 3) := by decide +kernel
theorem dX0_leadsTo_28 : decode cX0_leadsTo 28 = .ok (.bipush (-5), 2) := by decide +kernel
theorem dX0_leadsTo_30 : decode cX0_leadsTo 30 = .ok (.ireturn, 1) := by decide +kernel
theorem dX0_leadsTo_31 : decode cX0_leadsTo 31 = .ok (.aload_n 0, 1) := by decide +kernel
theorem dX0_leadsTo_32 : decode cX0_leadsTo 32 = .ok (.getfield 31, 3) := by decide +kernel
theorem dX0_leadsTo_35 : decode cX0_leadsTo 35 = .ok (.iload_n 1, 1) := by decide +kernel
theorem dX0_leadsTo_36 : decode cX0_leadsTo 36 = .ok (.bipush 6, 2) := by decide +kernel
theorem dX0_leadsTo_38 : decode cX0_leadsTo 38 = .ok (.imul, 1) := by decide +kernel
theorem dX0_leadsTo_39 : decode cX0_leadsTo 39 = .ok (.iload_n 2, 1) := by decide +kernel
theorem dX0_leadsTo_40 : decode cX0_leadsTo 40 = .ok (.iadd, 1) := by decide +kernel
theorem dX0_leadsTo_41 : decode cX0_leadsTo 41 = .ok (.iaload, 1) := by decide +kernel
theorem dX0_leadsTo_42 : decode cX0_leadsTo 42 = .ok (.ireturn, 1) := by decide +kernel
theorem dX0_linksOf_0 : decode cX0_linksOf 0 = .ok (.iconst 0, 1) := by decide +kernel
theorem dX0_linksOf_1 : decode cX0_linksOf 1 = .ok (.istore_n 3, 1) := by decide +kernel
theorem dX0_linksOf_2 : decode cX0_linksOf 2 = .ok (.iconst 0, 1) := by decide +kernel
theorem dX0_linksOf_3 : decode cX0_linksOf 3 = .ok (.istore 4, 2) := by decide +kernel
theorem dX0_linksOf_5 : decode cX0_linksOf 5 = .ok (.iload 4, 2) := by decide +kernel
theorem dX0_linksOf_7 : decode cX0_linksOf 7 = .ok (.aload_n 0, 1) := by decide +kernel
theorem dX0_linksOf_8 : decode cX0_linksOf 8 = .ok (.iload_n 1, 1) := by decide +kernel
theorem dX0_linksOf_9 : decode cX0_linksOf 9 = .ok (.invokevirtual 75, 3) := by decide +kernel
theorem dX0_linksOf_12 : decode cX0_linksOf 12 = .ok (.if_icmp .ge 28, 3) := by decide +kernel
theorem dX0_linksOf_15 : decode cX0_linksOf 15 = .ok (.iload 4, 2) := by decide +kernel
theorem dX0_linksOf_17 : decode cX0_linksOf 17 = .ok (.iload_n 2, 1) := by decide +kernel
theorem dX0_linksOf_18 : decode cX0_linksOf 18 = .ok (.if_icmp .eq 16, 3) := by decide +kernel
theorem dX0_linksOf_21 : decode cX0_linksOf 21 = .ok (.iload_n 3, 1) := by decide +kernel
theorem dX0_linksOf_22 : decode cX0_linksOf 22 = .ok (.aload_n 0, 1) := by decide +kernel
theorem dX0_linksOf_23 : decode cX0_linksOf 23 = .ok (.iload_n 1, 1) := by decide +kernel
theorem dX0_linksOf_24 : decode cX0_linksOf 24 = .ok (.iload 4, 2) := by decide +kernel
theorem dX0_linksOf_26 : decode cX0_linksOf 26 = .ok (.invokevirtual 78, 3) := by decide +kernel
theorem dX0_linksOf_29 : decode cX0_linksOf 29 = .ok (.invokestatic 49, 3) := by decide +kernel
theorem dX0_linksOf_32 : decode cX0_linksOf 32 = .ok (.ior, 1) := by decide +kernel
theorem dX0_linksOf_33 : decode cX0_linksOf 33 = .ok (.istore_n 3, 1) := by decide +kernel
theorem dX0_linksOf_34 : decode cX0_linksOf 34 = .ok (.iinc 4 1, 3) := by decide +kernel
theorem dX0_linksOf_37 : decode cX0_linksOf 37 = .ok (.goto (-32), 3) := by decide +kernel
theorem dX0_linksOf_40 : decode cX0_linksOf 40 = .ok (.iload_n 3, 1) := by decide +kernel
theorem dX0_linksOf_41 : decode cX0_linksOf 41 = .ok (.ireturn, 1) := by decide +kernel
theorem dX0_heldByRoots_0 : decode cX0_heldByRoots 0 = .ok (.iconst 0, 1) := by decide +kernel
theorem dX0_heldByRoots_1 : decode cX0_heldByRoots 1 = .ok (.istore_n 1, 1) := by decide +kernel
theorem dX0_heldByRoots_2 : decode cX0_heldByRoots 2 = .ok (.iconst 0, 1) := by decide +kernel
theorem dX0_heldByRoots_3 : decode cX0_heldByRoots 3 = .ok (.istore_n 2, 1) := by decide +kernel
theorem dX0_heldByRoots_4 : decode cX0_heldByRoots 4 = .ok (.iload_n 2, 1) := by decide +kernel
theorem dX0_heldByRoots_5 : decode cX0_heldByRoots 5 = .ok (.iconst 4, 1) := by decide +kernel
theorem dX0_heldByRoots_6 : decode cX0_heldByRoots 6 = .ok (.if_icmp .ge 21, 3) := by decide +kernel
theorem dX0_heldByRoots_9 : decode cX0_heldByRoots 9 = .ok (.iload_n 1, 1) := by decide +kernel
theorem dX0_heldByRoots_10 : decode cX0_heldByRoots 10 = .ok (.aload_n 0, 1) := by decide +kernel
theorem dX0_heldByRoots_11 : decode cX0_heldByRoots 11 = .ok (.getfield 34, 3) := by decide +kernel
theorem dX0_heldByRoots_14 : decode cX0_heldByRoots 14 = .ok (.iload_n 2, 1) := by decide +kernel
theorem dX0_heldByRoots_15 : decode cX0_heldByRoots 15 = .ok (.iaload, 1) := by decide +kernel
theorem dX0_heldByRoots_16 : decode cX0_heldByRoots 16 = .ok (.invokestatic 49, 3) := by decide +kernel
theorem dX0_heldByRoots_19 : decode cX0_heldByRoots 19 = .ok (.ior, 1) := by decide +kernel
theorem dX0_heldByRoots_20 : decode cX0_heldByRoots 20 = .ok (.istore_n 1, 1) := by decide +kernel
theorem dX0_heldByRoots_21 : decode cX0_heldByRoots 21 = .ok (.iinc 2 1, 3) := by decide +kernel
theorem dX0_heldByRoots_24 : decode cX0_heldByRoots 24 = .ok (.goto (-20), 3) := by decide +kernel
theorem dX0_heldByRoots_27 : decode cX0_heldByRoots 27 = .ok (.iload_n 1, 1) := by decide +kernel
theorem dX0_heldByRoots_28 : decode cX0_heldByRoots 28 = .ok (.ireturn, 1) := by decide +kernel
theorem dX0_holders_0 : decode cX0_holders 0 = .ok (.iconst 0, 1) := by decide +kernel
theorem dX0_holders_1 : decode cX0_holders 1 = .ok (.istore_n 2, 1) := by decide +kernel
theorem dX0_holders_2 : decode cX0_holders 2 = .ok (.iconst 0, 1) := by decide +kernel
theorem dX0_holders_3 : decode cX0_holders 3 = .ok (.istore_n 3, 1) := by decide +kernel
theorem dX0_holders_4 : decode cX0_holders 4 = .ok (.iload_n 3, 1) := by decide +kernel
theorem dX0_holders_5 : decode cX0_holders 5 = .ok (.bipush 24, 2) := by decide +kernel
theorem dX0_holders_7 : decode cX0_holders 7 = .ok (.if_icmp .ge 50, 3) := by decide +kernel
theorem dX0_holders_10 : decode cX0_holders 10 = .ok (.iconst 0, 1) := by decide +kernel
theorem dX0_holders_11 : decode cX0_holders 11 = .ok (.istore 4, 2) := by decide +kernel
theorem dX0_holders_13 : decode cX0_holders 13 = .ok (.iload 4, 2) := by decide +kernel
theorem dX0_holders_15 : decode cX0_holders 15 = .ok (.aload_n 0, 1) := by decide +kernel
theorem dX0_holders_16 : decode cX0_holders 16 = .ok (.iload_n 3, 1) := by decide +kernel
theorem dX0_holders_17 : decode cX0_holders 17 = .ok (.invokevirtual 75, 3) := by decide +kernel
theorem dX0_holders_20 : decode cX0_holders 20 = .ok (.if_icmp .ge 31, 3) := by decide +kernel
theorem dX0_holders_23 : decode cX0_holders 23 = .ok (.iload_n 2, 1) := by decide +kernel
theorem dX0_holders_24 : decode cX0_holders 24 = .ok (.aload_n 0, 1) := by decide +kernel
theorem dX0_holders_25 : decode cX0_holders 25 = .ok (.iload_n 3, 1) := by decide +kernel
theorem dX0_holders_26 : decode cX0_holders 26 = .ok (.iload 4, 2) := by decide +kernel
theorem dX0_holders_28 : decode cX0_holders 28 = .ok (.invokevirtual 82, 3) := by decide +kernel
theorem dX0_holders_31 : decode cX0_holders 31 = .ok (.iload_n 1, 1) := by decide +kernel
theorem dX0_holders_32 : decode cX0_holders 32 = .ok (.if_icmp .ne 7, 3) := by decide +kernel
theorem dX0_holders_35 : decode cX0_holders 35 = .ok (.iconst 1, 1) := by decide +kernel
theorem dX0_holders_36 : decode cX0_holders 36 = .ok (.goto 4, 3) := by decide +kernel
theorem dX0_holders_39 : decode cX0_holders 39 = .ok (.iconst 0, 1) := by decide +kernel
theorem dX0_holders_40 : decode cX0_holders 40 = .ok (.invokestatic 85, 3) := by decide +kernel
theorem dX0_holders_43 : decode cX0_holders 43 = .ok (.iadd, 1) := by decide +kernel
theorem dX0_holders_44 : decode cX0_holders 44 = .ok (.istore_n 2, 1) := by decide +kernel
theorem dX0_holders_45 : decode cX0_holders 45 = .ok (.iinc 4 1, 3) := by decide +kernel
theorem dX0_holders_48 : decode cX0_holders 48 = .ok (.goto (-35), 3) := by decide +kernel
theorem dX0_holders_51 : decode cX0_holders 51 = .ok (.iinc 3 1, 3) := by decide +kernel
theorem dX0_holders_54 : decode cX0_holders 54 = .ok (.goto (-50), 3) := by decide +kernel
theorem dX0_holders_57 : decode cX0_holders 57 = .ok (.iload_n 2, 1) := by decide +kernel
theorem dX0_holders_58 : decode cX0_holders 58 = .ok (.ireturn, 1) := by decide +kernel
theorem dX0_keepOnly_0 : decode cX0_keepOnly 0 = .ok (.aload_n 0, 1) := by decide +kernel
theorem dX0_keepOnly_1 : decode cX0_keepOnly 1 = .ok (.getfield 15, 3) := by decide +kernel
theorem dX0_keepOnly_4 : decode cX0_keepOnly 4 = .ok (.iload_n 1, 1) := by decide +kernel
theorem dX0_keepOnly_5 : decode cX0_keepOnly 5 = .ok (.iconst (-1), 1) := by decide +kernel
theorem dX0_keepOnly_6 : decode cX0_keepOnly 6 = .ok (.ixor, 1) := by decide +kernel
theorem dX0_keepOnly_7 : decode cX0_keepOnly 7 = .ok (.iand, 1) := by decide +kernel
theorem dX0_keepOnly_8 : decode cX0_keepOnly 8 = .ok (.istore_n 2, 1) := by decide +kernel
theorem dX0_keepOnly_9 : decode cX0_keepOnly 9 = .ok (.aload_n 0, 1) := by decide +kernel
theorem dX0_keepOnly_10 : decode cX0_keepOnly 10 = .ok (.dup, 1) := by decide +kernel
theorem dX0_keepOnly_11 : decode cX0_keepOnly 11 = .ok (.getfield 15, 3) := by decide +kernel
theorem dX0_keepOnly_14 : decode cX0_keepOnly 14 = .ok (.iload_n 1, 1) := by decide +kernel
theorem dX0_keepOnly_15 : decode cX0_keepOnly 15 = .ok (.iand, 1) := by decide +kernel
theorem dX0_keepOnly_16 : decode cX0_keepOnly 16 = .ok (.putfield 15, 3) := by decide +kernel
theorem dX0_keepOnly_19 : decode cX0_keepOnly 19 = .ok (.iconst 0, 1) := by decide +kernel
theorem dX0_keepOnly_20 : decode cX0_keepOnly 20 = .ok (.istore_n 3, 1) := by decide +kernel
theorem dX0_keepOnly_21 : decode cX0_keepOnly 21 = .ok (.iload_n 3, 1) := by decide +kernel
theorem dX0_keepOnly_22 : decode cX0_keepOnly 22 = .ok (.bipush 24, 2) := by decide +kernel
theorem dX0_keepOnly_24 : decode cX0_keepOnly 24 = .ok (.if_icmp .ge 51, 3) := by decide +kernel
theorem dX0_keepOnly_27 : decode cX0_keepOnly 27 = .ok (.iconst 0, 1) := by decide +kernel
theorem dX0_keepOnly_28 : decode cX0_keepOnly 28 = .ok (.istore 4, 2) := by decide +kernel
theorem dX0_keepOnly_30 : decode cX0_keepOnly 30 = .ok (.iload 4, 2) := by decide +kernel
theorem dX0_keepOnly_32 : decode cX0_keepOnly 32 = .ok (.aload_n 0, 1) := by decide +kernel
theorem dX0_keepOnly_33 : decode cX0_keepOnly 33 = .ok (.iload_n 3, 1) := by decide +kernel
theorem dX0_keepOnly_34 : decode cX0_keepOnly 34 = .ok (.invokevirtual 75, 3) := by decide +kernel
theorem dX0_keepOnly_37 : decode cX0_keepOnly 37 = .ok (.if_icmp .ge 32, 3) := by decide +kernel
theorem dX0_keepOnly_40 : decode cX0_keepOnly 40 = .ok (.aload_n 0, 1) := by decide +kernel
theorem dX0_keepOnly_41 : decode cX0_keepOnly 41 = .ok (.aload_n 0, 1) := by decide +kernel
theorem dX0_keepOnly_42 : decode cX0_keepOnly 42 = .ok (.iload_n 3, 1) := by decide +kernel
theorem dX0_keepOnly_43 : decode cX0_keepOnly 43 = .ok (.iload 4, 2) := by decide +kernel
theorem dX0_keepOnly_45 : decode cX0_keepOnly 45 = .ok (.invokevirtual 82, 3) := by decide +kernel
theorem dX0_keepOnly_48 : decode cX0_keepOnly 48 = .ok (.invokevirtual 61, 3) := by decide +kernel
theorem dX0_keepOnly_51 : decode cX0_keepOnly 51 = .ok (.ifCond .ne 12, 3) := by decide +kernel
theorem dX0_keepOnly_54 : decode cX0_keepOnly 54 = .ok (.aload_n 0, 1) := by decide +kernel
theorem dX0_keepOnly_55 : decode cX0_keepOnly 55 = .ok (.iload_n 3, 1) := by decide +kernel
theorem dX0_keepOnly_56 : decode cX0_keepOnly 56 = .ok (.iload 4, 2) := by decide +kernel
theorem dX0_keepOnly_58 : decode cX0_keepOnly 58 = .ok (.bipush (-5), 2) := by decide +kernel
theorem dX0_keepOnly_60 : decode cX0_keepOnly 60 = .ok (.invokevirtual 89, 3) := by decide +kernel
theorem dX0_keepOnly_63 : decode cX0_keepOnly 63 = .ok (.iinc 4 1, 3) := by decide +kernel
theorem dX0_keepOnly_66 : decode cX0_keepOnly 66 = .ok (.goto (-36), 3) := by decide +kernel
theorem dX0_keepOnly_69 : decode cX0_keepOnly 69 = .ok (.iinc 3 1, 3) := by decide +kernel
theorem dX0_keepOnly_72 : decode cX0_keepOnly 72 = .ok (.goto (-51), 3) := by decide +kernel
theorem dX0_keepOnly_75 : decode cX0_keepOnly 75 = .ok (.iload_n 2, 1) := by decide +kernel
theorem dX0_keepOnly_76 : decode cX0_keepOnly 76 = .ok (.invokestatic 93, 3) := by decide +kernel
theorem dX0_keepOnly_79 : decode cX0_keepOnly 79 = .ok (.ireturn, 1) := by decide +kernel
theorem dX1_init_0 : decode cX1_init 0 = .ok (.aload_n 0, 1) := by decide +kernel
theorem dX1_init_1 : decode cX1_init 1 = .ok (.invokespecial 3, 3) := by decide +kernel
theorem dX1_init_4 : decode cX1_init 4 = .ok (.aload_n 0, 1) := by decide +kernel
theorem dX1_init_5 : decode cX1_init 5 = .ok (.bipush 24, 2) := by decide +kernel
theorem dX1_init_7 : decode cX1_init 7 = .ok (.newarray .int, 2) := by decide +kernel
theorem dX1_init_9 : decode cX1_init 9 = .ok (.putfield 9, 3) := by decide +kernel
theorem dX1_init_12 : decode cX1_init 12 = .ok (.aload_n 0, 1) := by decide +kernel
theorem dX1_init_13 : decode cX1_init 13 = .ok (.iconst 0, 1) := by decide +kernel
theorem dX1_init_14 : decode cX1_init 14 = .ok (.putfield 15, 3) := by decide +kernel
theorem dX1_init_17 : decode cX1_init 17 = .ok (.return_, 1) := by decide +kernel
theorem dX1_readFrom_0 : decode cX1_readFrom 0 = .ok (.aload_n 0, 1) := by decide +kernel
theorem dX1_readFrom_1 : decode cX1_readFrom 1 = .ok (.aload_n 1, 1) := by decide +kernel
theorem dX1_readFrom_2 : decode cX1_readFrom 2 = .ok (.invokevirtual 19, 3) := by decide +kernel
theorem dX1_readFrom_5 : decode cX1_readFrom 5 = .ok (.putfield 15, 3) := by decide +kernel
theorem dX1_readFrom_8 : decode cX1_readFrom 8 = .ok (.iconst 0, 1) := by decide +kernel
theorem dX1_readFrom_9 : decode cX1_readFrom 9 = .ok (.istore_n 2, 1) := by decide +kernel
theorem dX1_readFrom_10 : decode cX1_readFrom 10 = .ok (.iload_n 2, 1) := by decide +kernel
theorem dX1_readFrom_11 : decode cX1_readFrom 11 = .ok (.bipush 24, 2) := by decide +kernel
theorem dX1_readFrom_13 : decode cX1_readFrom 13 = .ok (.if_icmp .ge 21, 3) := by decide +kernel
theorem dX1_readFrom_16 : decode cX1_readFrom 16 = .ok (.aload_n 0, 1) := by decide +kernel
theorem dX1_readFrom_17 : decode cX1_readFrom 17 = .ok (.getfield 9, 3) := by decide +kernel
theorem dX1_readFrom_20 : decode cX1_readFrom 20 = .ok (.iload_n 2, 1) := by decide +kernel
theorem dX1_readFrom_21 : decode cX1_readFrom 21 = .ok (.aload_n 1, 1) := by decide +kernel
theorem dX1_readFrom_22 : decode cX1_readFrom 22 = .ok (.iload_n 2, 1) := by decide +kernel
theorem dX1_readFrom_23 : decode cX1_readFrom 23 = .ok (.iconst (-1), 1) := by decide +kernel
theorem dX1_readFrom_24 : decode cX1_readFrom 24 = .ok (.invokevirtual 25, 3) := by decide +kernel
theorem dX1_readFrom_27 : decode cX1_readFrom 27 = .ok (.iastore, 1) := by decide +kernel
theorem dX1_readFrom_28 : decode cX1_readFrom 28 = .ok (.iinc 2 1, 3) := by decide +kernel
theorem dX1_readFrom_31 : decode cX1_readFrom 31 = .ok (.goto (-21), 3) := by decide +kernel
theorem dX1_readFrom_34 : decode cX1_readFrom 34 = .ok (.return_, 1) := by decide +kernel
theorem dX1_spread_0 : decode cX1_spread 0 = .ok (.iload_n 1, 1) := by decide +kernel
theorem dX1_spread_1 : decode cX1_spread 1 = .ok (.iload_n 2, 1) := by decide +kernel
theorem dX1_spread_2 : decode cX1_spread 2 = .ok (.iconst (-1), 1) := by decide +kernel
theorem dX1_spread_3 : decode cX1_spread 3 = .ok (.ixor, 1) := by decide +kernel
theorem dX1_spread_4 : decode cX1_spread 4 = .ok (.iand, 1) := by decide +kernel
theorem dX1_spread_5 : decode cX1_spread 5 = .ok (.istore_n 3, 1) := by decide +kernel
theorem dX1_spread_6 : decode cX1_spread 6 = .ok (.iload_n 3, 1) := by decide +kernel
theorem dX1_spread_7 : decode cX1_spread 7 = .ok (.istore 4, 2) := by decide +kernel
theorem dX1_spread_9 : decode cX1_spread 9 = .ok (.iconst 0, 1) := by decide +kernel
theorem dX1_spread_10 : decode cX1_spread 10 = .ok (.istore 5, 2) := by decide +kernel
theorem dX1_spread_12 : decode cX1_spread 12 = .ok (.iload 5, 2) := by decide +kernel
theorem dX1_spread_14 : decode cX1_spread 14 = .ok (.bipush 24, 2) := by decide +kernel
theorem dX1_spread_16 : decode cX1_spread 16 = .ok (.if_icmp .ge 74, 3) := by decide +kernel
theorem dX1_spread_19 : decode cX1_spread 19 = .ok (.iload 4, 2) := by decide +kernel
theorem dX1_spread_21 : decode cX1_spread 21 = .ok (.ifCond .eq 69, 3) := by decide +kernel
theorem dX1_spread_24 : decode cX1_spread 24 = .ok (.iload 4, 2) := by decide +kernel
theorem dX1_spread_26 : decode cX1_spread 26 = .ok (.invokestatic 29, 3) := by decide +kernel
theorem dX1_spread_29 : decode cX1_spread 29 = .ok (.istore 6, 2) := by decide +kernel
theorem dX1_spread_31 : decode cX1_spread 31 = .ok (.iload 4, 2) := by decide +kernel
theorem dX1_spread_33 : decode cX1_spread 33 = .ok (.iload 6, 2) := by decide +kernel
theorem dX1_spread_35 : decode cX1_spread 35 = .ok (.invokestatic 33, 3) := by decide +kernel
theorem dX1_spread_38 : decode cX1_spread 38 = .ok (.iconst (-1), 1) := by decide +kernel
theorem dX1_spread_39 : decode cX1_spread 39 = .ok (.ixor, 1) := by decide +kernel
theorem dX1_spread_40 : decode cX1_spread 40 = .ok (.iand, 1) := by decide +kernel
theorem dX1_spread_41 : decode cX1_spread 41 = .ok (.istore 4, 2) := by decide +kernel
theorem dX1_spread_43 : decode cX1_spread 43 = .ok (.iload 6, 2) := by decide +kernel
theorem dX1_spread_45 : decode cX1_spread 45 = .ok (.invokestatic 33, 3) := by decide +kernel
theorem dX1_spread_48 : decode cX1_spread 48 = .ok (.ifCond .ne 7, 3) := by decide +kernel
theorem dX1_spread_51 : decode cX1_spread 51 = .ok (.iconst 0, 1) := by decide +kernel
theorem dX1_spread_52 : decode cX1_spread 52 = .ok (.goto 18, 3) := by decide +kernel
theorem dX1_spread_55 : decode cX1_spread 55 = .ok (.aload_n 0, 1) := by decide +kernel
theorem dX1_spread_56 : decode cX1_spread 56 = .ok (.getfield 9, 3) := by decide +kernel
theorem dX1_spread_59 : decode cX1_spread 59 = .ok (.iload 6, 2) := by decide +kernel
theorem dX1_spread_61 : decode cX1_spread 61 = .ok (.iaload, 1) := by decide +kernel
theorem dX1_spread_62 : decode cX1_spread 62 = .ok (.iload_n 3, 1) := by decide +kernel
theorem dX1_spread_63 : decode cX1_spread 63 = .ok (.iconst (-1), 1) := by decide +kernel
theorem dX1_spread_64 : decode cX1_spread 64 = .ok (.ixor, 1) := by decide +kernel
theorem dX1_spread_65 : decode cX1_spread 65 = .ok (.iand, 1) := by decide +kernel
theorem dX1_spread_66 : decode cX1_spread 66 = .ok (.iload_n 2, 1) := by decide +kernel
theorem dX1_spread_67 : decode cX1_spread 67 = .ok (.iconst (-1), 1) := by decide +kernel
theorem dX1_spread_68 : decode cX1_spread 68 = .ok (.ixor, 1) := by decide +kernel
theorem dX1_spread_69 : decode cX1_spread 69 = .ok (.iand, 1) := by decide +kernel
theorem dX1_spread_70 : decode cX1_spread 70 = .ok (.istore 7, 2) := by decide +kernel
theorem dX1_spread_72 : decode cX1_spread 72 = .ok (.iload_n 3, 1) := by decide +kernel
theorem dX1_spread_73 : decode cX1_spread 73 = .ok (.iload 7, 2) := by decide +kernel
theorem dX1_spread_75 : decode cX1_spread 75 = .ok (.ior, 1) := by decide +kernel
theorem dX1_spread_76 : decode cX1_spread 76 = .ok (.istore_n 3, 1) := by decide +kernel
theorem dX1_spread_77 : decode cX1_spread 77 = .ok (.iload 4, 2) := by decide +kernel
theorem dX1_spread_79 : decode cX1_spread 79 = .ok (.iload 7, 2) := by decide +kernel
theorem dX1_spread_81 : decode cX1_spread 81 = .ok (.ior, 1) := by decide +kernel
theorem dX1_spread_82 : decode cX1_spread 82 = .ok (.istore 4, 2) := by decide +kernel
theorem dX1_spread_84 : decode cX1_spread 84 = .ok (.iinc 5 1, 3) := by decide +kernel
theorem dX1_spread_87 : decode cX1_spread 87 = .ok (.goto (-75), 3) := by decide +kernel
theorem dX1_spread_90 : decode cX1_spread 90 = .ok (.iload_n 3, 1) := by decide +kernel
theorem dX1_spread_91 : decode cX1_spread 91 = .ok (.ireturn, 1) := by decide +kernel
theorem dX1_reached_0 : decode cX1_reached 0 = .ok (.aload_n 0, 1) := by decide +kernel
theorem dX1_reached_1 : decode cX1_reached 1 = .ok (.aload_n 0, 1) := by decide +kernel
theorem dX1_reached_2 : decode cX1_reached 2 = .ok (.getfield 15, 3) := by decide +kernel
theorem dX1_reached_5 : decode cX1_reached 5 = .ok (.iconst 0, 1) := by decide +kernel
theorem dX1_reached_6 : decode cX1_reached 6 = .ok (.invokevirtual 36, 3) := by decide +kernel
theorem dX1_reached_9 : decode cX1_reached 9 = .ok (.ireturn, 1) := by decide +kernel
theorem dX1_keptBy_0 : decode cX1_keptBy 0 = .ok (.aload_n 0, 1) := by decide +kernel
theorem dX1_keptBy_1 : decode cX1_keptBy 1 = .ok (.invokevirtual 39, 3) := by decide +kernel
theorem dX1_keptBy_4 : decode cX1_keptBy 4 = .ok (.istore_n 2, 1) := by decide +kernel
theorem dX1_keptBy_5 : decode cX1_keptBy 5 = .ok (.iload_n 2, 1) := by decide +kernel
theorem dX1_keptBy_6 : decode cX1_keptBy 6 = .ok (.iload_n 1, 1) := by decide +kernel
theorem dX1_keptBy_7 : decode cX1_keptBy 7 = .ok (.invokestatic 42, 3) := by decide +kernel
theorem dX1_keptBy_10 : decode cX1_keptBy 10 = .ok (.ifCond .eq 22, 3) := by decide +kernel
theorem dX1_keptBy_13 : decode cX1_keptBy 13 = .ok (.iload_n 2, 1) := by decide +kernel
theorem dX1_keptBy_14 : decode cX1_keptBy 14 = .ok (.aload_n 0, 1) := by decide +kernel
theorem dX1_keptBy_15 : decode cX1_keptBy 15 = .ok (.aload_n 0, 1) := by decide +kernel
theorem dX1_keptBy_16 : decode cX1_keptBy 16 = .ok (.getfield 15, 3) := by decide +kernel
theorem dX1_keptBy_19 : decode cX1_keptBy 19 = .ok (.iload_n 1, 1) := by decide +kernel
theorem dX1_keptBy_20 : decode cX1_keptBy 20 = .ok (.invokestatic 33, 3) := by decide +kernel
theorem dX1_keptBy_23 : decode cX1_keptBy 23 = .ok (.invokevirtual 36, 3) := by decide +kernel
theorem dX1_keptBy_26 : decode cX1_keptBy 26 = .ok (.iconst (-1), 1) := by decide +kernel
theorem dX1_keptBy_27 : decode cX1_keptBy 27 = .ok (.ixor, 1) := by decide +kernel
theorem dX1_keptBy_28 : decode cX1_keptBy 28 = .ok (.iand, 1) := by decide +kernel
theorem dX1_keptBy_29 : decode cX1_keptBy 29 = .ok (.goto 4, 3) := by decide +kernel
theorem dX1_keptBy_32 : decode cX1_keptBy 32 = .ok (.iconst 0, 1) := by decide +kernel
theorem dX1_keptBy_33 : decode cX1_keptBy 33 = .ok (.ireturn, 1) := by decide +kernel
theorem dX1_reachedWithout_0 : decode cX1_reachedWithout 0 = .ok (.iload_n 2, 1) := by decide +kernel
theorem dX1_reachedWithout_1 : decode cX1_reachedWithout 1 = .ok (.invokestatic 33, 3) := by decide +kernel
theorem dX1_reachedWithout_4 : decode cX1_reachedWithout 4 = .ok (.ifCond .ne 13, 3) := by decide +kernel
theorem dX1_reachedWithout_7 : decode cX1_reachedWithout 7 = .ok (.aload_n 0, 1) := by decide +kernel
theorem dX1_reachedWithout_8 : decode cX1_reachedWithout 8 = .ok (.aload_n 0, 1) := by decide +kernel
theorem dX1_reachedWithout_9 : decode cX1_reachedWithout 9 = .ok (.getfield 15, 3) := by decide +kernel
theorem dX1_reachedWithout_12 : decode cX1_reachedWithout 12 = .ok (.iconst 0, 1) := by decide +kernel
theorem dX1_reachedWithout_13 : decode cX1_reachedWithout 13 = .ok (.invokevirtual 36, 3) := by decide +kernel
theorem dX1_reachedWithout_16 : decode cX1_reachedWithout 16 = .ok (.ireturn, 1) := by decide +kernel
theorem dX1_reachedWithout_17 : decode cX1_reachedWithout 17 = .ok (.aload_n 0, 1) := by decide +kernel
theorem dX1_reachedWithout_18 : decode cX1_reachedWithout 18 = .ok (.getfield 9, 3) := by decide +kernel
theorem dX1_reachedWithout_21 : decode cX1_reachedWithout 21 = .ok (.iload_n 2, 1) := by decide +kernel
theorem dX1_reachedWithout_22 : decode cX1_reachedWithout 22 = .ok (.iaload, 1) := by decide +kernel
theorem dX1_reachedWithout_23 : decode cX1_reachedWithout 23 = .ok (.istore 4, 2) := by decide +kernel
theorem dX1_reachedWithout_25 : decode cX1_reachedWithout 25 = .ok (.aload_n 0, 1) := by decide +kernel
theorem dX1_reachedWithout_26 : decode cX1_reachedWithout 26 = .ok (.getfield 9, 3) := by decide +kernel
theorem dX1_reachedWithout_29 : decode cX1_reachedWithout 29 = .ok (.iload_n 2, 1) := by decide +kernel
theorem dX1_reachedWithout_30 : decode cX1_reachedWithout 30 = .ok (.aload_n 1, 1) := by decide +kernel
theorem dX1_reachedWithout_31 : decode cX1_reachedWithout 31 = .ok (.iload_n 2, 1) := by decide +kernel
theorem dX1_reachedWithout_32 : decode cX1_reachedWithout 32 = .ok (.iload_n 3, 1) := by decide +kernel
theorem dX1_reachedWithout_33 : decode cX1_reachedWithout 33 = .ok (.invokevirtual 25, 3) := by decide +kernel
theorem dX1_reachedWithout_36 : decode cX1_reachedWithout 36 = .ok (.iastore, 1) := by decide +kernel
theorem dX1_reachedWithout_37 : decode cX1_reachedWithout 37 = .ok (.aload_n 0, 1) := by decide +kernel
theorem dX1_reachedWithout_38 : decode cX1_reachedWithout 38 = .ok (.aload_n 0, 1) := by decide +kernel
theorem dX1_reachedWithout_39 : decode cX1_reachedWithout 39 = .ok (.getfield 15, 3) := by decide +kernel
theorem dX1_reachedWithout_42 : decode cX1_reachedWithout 42 = .ok (.iconst 0, 1) := by decide +kernel
theorem dX1_reachedWithout_43 : decode cX1_reachedWithout 43 = .ok (.invokevirtual 36, 3) := by decide +kernel
theorem dX1_reachedWithout_46 : decode cX1_reachedWithout 46 = .ok (.istore 5, 2) := by decide +kernel
theorem dX1_reachedWithout_48 : decode cX1_reachedWithout 48 = .ok (.aload_n 0, 1) := by decide +kernel
theorem dX1_reachedWithout_49 : decode cX1_reachedWithout 49 = .ok (.getfield 9, 3) := by decide +kernel
theorem dX1_reachedWithout_52 : decode cX1_reachedWithout 52 = .ok (.iload_n 2, 1) := by decide +kernel
theorem dX1_reachedWithout_53 : decode cX1_reachedWithout 53 = .ok (.iload 4, 2) := by decide +kernel
theorem dX1_reachedWithout_55 : decode cX1_reachedWithout 55 = .ok (.iastore, 1) := by decide +kernel
theorem dX1_reachedWithout_56 : decode cX1_reachedWithout 56 = .ok (.iload 5, 2) := by decide +kernel
theorem dX1_reachedWithout_58 : decode cX1_reachedWithout 58 = .ok (.ireturn, 1) := by decide +kernel
theorem dX1_cutOf_0 : decode cX1_cutOf 0 = .ok (.aload_n 0, 1) := by decide +kernel
theorem dX1_cutOf_1 : decode cX1_cutOf 1 = .ok (.invokevirtual 39, 3) := by decide +kernel
theorem dX1_cutOf_4 : decode cX1_cutOf 4 = .ok (.istore_n 3, 1) := by decide +kernel
theorem dX1_cutOf_5 : decode cX1_cutOf 5 = .ok (.iload_n 3, 1) := by decide +kernel
theorem dX1_cutOf_6 : decode cX1_cutOf 6 = .ok (.iload_n 2, 1) := by decide +kernel
theorem dX1_cutOf_7 : decode cX1_cutOf 7 = .ok (.invokestatic 42, 3) := by decide +kernel
theorem dX1_cutOf_10 : decode cX1_cutOf 10 = .ok (.ifCond .ne 6, 3) := by decide +kernel
theorem dX1_cutOf_13 : decode cX1_cutOf 13 = .ok (.bipush (-5), 2) := by decide +kernel
theorem dX1_cutOf_15 : decode cX1_cutOf 15 = .ok (.ireturn, 1) := by decide +kernel
theorem dX1_cutOf_16 : decode cX1_cutOf 16 = .ok (.iconst 0, 1) := by decide +kernel
theorem dX1_cutOf_17 : decode cX1_cutOf 17 = .ok (.istore 4, 2) := by decide +kernel
theorem dX1_cutOf_19 : decode cX1_cutOf 19 = .ok (.iload 4, 2) := by decide +kernel
theorem dX1_cutOf_21 : decode cX1_cutOf 21 = .ok (.bipush 24, 2) := by decide +kernel
theorem dX1_cutOf_23 : decode cX1_cutOf 23 = .ok (.if_icmp .ge 63, 3) := by decide +kernel
theorem dX1_cutOf_26 : decode cX1_cutOf 26 = .ok (.iconst 0, 1) := by decide +kernel
theorem dX1_cutOf_27 : decode cX1_cutOf 27 = .ok (.istore 5, 2) := by decide +kernel
theorem dX1_cutOf_29 : decode cX1_cutOf 29 = .ok (.iload 5, 2) := by decide +kernel
theorem dX1_cutOf_31 : decode cX1_cutOf 31 = .ok (.aload_n 1, 1) := by decide +kernel
theorem dX1_cutOf_32 : decode cX1_cutOf 32 = .ok (.iload 4, 2) := by decide +kernel
theorem dX1_cutOf_34 : decode cX1_cutOf 34 = .ok (.invokevirtual 46, 3) := by decide +kernel
theorem dX1_cutOf_37 : decode cX1_cutOf 37 = .ok (.if_icmp .ge 43, 3) := by decide +kernel
theorem dX1_cutOf_40 : decode cX1_cutOf 40 = .ok (.iload_n 3, 1) := by decide +kernel
theorem dX1_cutOf_41 : decode cX1_cutOf 41 = .ok (.iload 4, 2) := by decide +kernel
theorem dX1_cutOf_43 : decode cX1_cutOf 43 = .ok (.invokestatic 42, 3) := by decide +kernel
theorem dX1_cutOf_46 : decode cX1_cutOf 46 = .ok (.ifCond .eq 28, 3) := by decide +kernel
theorem dX1_cutOf_49 : decode cX1_cutOf 49 = .ok (.aload_n 0, 1) := by decide +kernel
theorem dX1_cutOf_50 : decode cX1_cutOf 50 = .ok (.aload_n 1, 1) := by decide +kernel
theorem dX1_cutOf_51 : decode cX1_cutOf 51 = .ok (.iload 4, 2) := by decide +kernel
theorem dX1_cutOf_53 : decode cX1_cutOf 53 = .ok (.iload 5, 2) := by decide +kernel
theorem dX1_cutOf_55 : decode cX1_cutOf 55 = .ok (.invokevirtual 49, 3) := by decide +kernel
theorem dX1_cutOf_58 : decode cX1_cutOf 58 = .ok (.iload_n 2, 1) := by decide +kernel
theorem dX1_cutOf_59 : decode cX1_cutOf 59 = .ok (.invokestatic 42, 3) := by decide +kernel
theorem dX1_cutOf_62 : decode cX1_cutOf 62 = .ok (.ifCond .ne 12, 3) := by decide +kernel
theorem dX1_cutOf_65 : decode cX1_cutOf 65 = .ok (.bipush 10, 2) := by decide +kernel
theorem dX1_cutOf_67 : decode cX1_cutOf 67 = .ok (.iload 4, 2) := by decide +kernel
theorem dX1_cutOf_69 : decode cX1_cutOf 69 = .ok (.imul, 1) := by decide +kernel
theorem dX1_cutOf_70 : decode cX1_cutOf 70 = .ok (.iload 5, 2) := by decide +kernel
theorem dX1_cutOf_72 : decode cX1_cutOf 72 = .ok (.iadd, 1) := by decide +kernel
theorem dX1_cutOf_73 : decode cX1_cutOf 73 = .ok (.ireturn, 1) := by decide +kernel
theorem dX1_cutOf_74 : decode cX1_cutOf 74 = .ok (.iinc 5 1, 3) := by decide +kernel
theorem dX1_cutOf_77 : decode cX1_cutOf 77 = .ok (.goto (-48), 3) := by decide +kernel
theorem dX1_cutOf_80 : decode cX1_cutOf 80 = .ok (.iinc 4 1, 3) := by decide +kernel
theorem dX1_cutOf_83 : decode cX1_cutOf 83 = .ok (.goto (-64), 3) := by decide +kernel
theorem dX1_cutOf_86 : decode cX1_cutOf 86 = .ok (.bipush (-5), 2) := by decide +kernel
theorem dX1_cutOf_88 : decode cX1_cutOf 88 = .ok (.ireturn, 1) := by decide +kernel
theorem dX1_farOf_0 : decode cX1_farOf 0 = .ok (.aload_n 0, 1) := by decide +kernel
theorem dX1_farOf_1 : decode cX1_farOf 1 = .ok (.getfield 15, 3) := by decide +kernel
theorem dX1_farOf_4 : decode cX1_farOf 4 = .ok (.istore_n 2, 1) := by decide +kernel
theorem dX1_farOf_5 : decode cX1_farOf 5 = .ok (.iconst 0, 1) := by decide +kernel
theorem dX1_farOf_6 : decode cX1_farOf 6 = .ok (.istore_n 3, 1) := by decide +kernel
theorem dX1_farOf_7 : decode cX1_farOf 7 = .ok (.iload_n 3, 1) := by decide +kernel
theorem dX1_farOf_8 : decode cX1_farOf 8 = .ok (.bipush 24, 2) := by decide +kernel
theorem dX1_farOf_10 : decode cX1_farOf 10 = .ok (.if_icmp .ge 62, 3) := by decide +kernel
theorem dX1_farOf_13 : decode cX1_farOf 13 = .ok (.iload_n 2, 1) := by decide +kernel
theorem dX1_farOf_14 : decode cX1_farOf 14 = .ok (.iload_n 1, 1) := by decide +kernel
theorem dX1_farOf_15 : decode cX1_farOf 15 = .ok (.invokestatic 42, 3) := by decide +kernel
theorem dX1_farOf_18 : decode cX1_farOf 18 = .ok (.ifCond .eq 5, 3) := by decide +kernel
theorem dX1_farOf_21 : decode cX1_farOf 21 = .ok (.iload_n 3, 1) := by decide +kernel
theorem dX1_farOf_22 : decode cX1_farOf 22 = .ok (.ireturn, 1) := by decide +kernel
theorem dX1_farOf_23 : decode cX1_farOf 23 = .ok (.iload_n 2, 1) := by decide +kernel
theorem dX1_farOf_24 : decode cX1_farOf 24 = .ok (.istore 4, 2) := by decide +kernel
theorem dX1_farOf_26 : decode cX1_farOf 26 = .ok (.iconst 0, 1) := by decide +kernel
theorem dX1_farOf_27 : decode cX1_farOf 27 = .ok (.istore 5, 2) := by decide +kernel
theorem dX1_farOf_29 : decode cX1_farOf 29 = .ok (.iload 5, 2) := by decide +kernel
theorem dX1_farOf_31 : decode cX1_farOf 31 = .ok (.bipush 24, 2) := by decide +kernel
theorem dX1_farOf_33 : decode cX1_farOf 33 = .ok (.if_icmp .ge 33, 3) := by decide +kernel
theorem dX1_farOf_36 : decode cX1_farOf 36 = .ok (.iload_n 2, 1) := by decide +kernel
theorem dX1_farOf_37 : decode cX1_farOf 37 = .ok (.iload 4, 2) := by decide +kernel
theorem dX1_farOf_39 : decode cX1_farOf 39 = .ok (.iload 5, 2) := by decide +kernel
theorem dX1_farOf_41 : decode cX1_farOf 41 = .ok (.invokestatic 42, 3) := by decide +kernel
theorem dX1_farOf_44 : decode cX1_farOf 44 = .ok (.ifCond .eq 13, 3) := by decide +kernel
theorem dX1_farOf_47 : decode cX1_farOf 47 = .ok (.aload_n 0, 1) := by decide +kernel
theorem dX1_farOf_48 : decode cX1_farOf 48 = .ok (.getfield 9, 3) := by decide +kernel
theorem dX1_farOf_51 : decode cX1_farOf 51 = .ok (.iload 5, 2) := by decide +kernel
theorem dX1_farOf_53 : decode cX1_farOf 53 = .ok (.iaload, 1) := by decide +kernel
theorem dX1_farOf_54 : decode cX1_farOf 54 = .ok (.goto 4, 3) := by decide +kernel
theorem dX1_farOf_57 : decode cX1_farOf 57 = .ok (.iconst 0, 1) := by decide +kernel
theorem dX1_farOf_58 : decode cX1_farOf 58 = .ok (.ior, 1) := by decide +kernel
theorem dX1_farOf_59 : decode cX1_farOf 59 = .ok (.istore_n 2, 1) := by decide +kernel
theorem dX1_farOf_60 : decode cX1_farOf 60 = .ok (.iinc 5 1, 3) := by decide +kernel
theorem dX1_farOf_63 : decode cX1_farOf 63 = .ok (.goto (-34), 3) := by decide +kernel
theorem dX1_farOf_66 : decode cX1_farOf 66 = .ok (.iinc 3 1, 3) := by decide +kernel
theorem dX1_farOf_69 : decode cX1_farOf 69 = .ok (.goto (-62), 3) := by decide +kernel
theorem dX1_farOf_72 : decode cX1_farOf 72 = .ok (.bipush (-5), 2) := by decide +kernel
theorem dX1_farOf_74 : decode cX1_farOf 74 = .ok (.ireturn, 1) := by decide +kernel
theorem dX2_init_0 : decode cX2_init 0 = .ok (.aload_n 0, 1) := by decide +kernel
theorem dX2_init_1 : decode cX2_init 1 = .ok (.invokespecial 3, 3) := by decide +kernel
theorem dX2_init_4 : decode cX2_init 4 = .ok (.aload_n 0, 1) := by decide +kernel
theorem dX2_init_5 : decode cX2_init 5 = .ok (.iconst 0, 1) := by decide +kernel
theorem dX2_init_6 : decode cX2_init 6 = .ok (.putfield 9, 3) := by decide +kernel
theorem dX2_init_9 : decode cX2_init 9 = .ok (.aload_n 0, 1) := by decide +kernel
theorem dX2_init_10 : decode cX2_init 10 = .ok (.iconst 0, 1) := by decide +kernel
theorem dX2_init_11 : decode cX2_init 11 = .ok (.putfield 15, 3) := by decide +kernel
theorem dX2_init_14 : decode cX2_init 14 = .ok (.aload_n 0, 1) := by decide +kernel
theorem dX2_init_15 : decode cX2_init 15 = .ok (.iconst 0, 1) := by decide +kernel
theorem dX2_init_16 : decode cX2_init 16 = .ok (.putfield 18, 3) := by decide +kernel
theorem dX2_init_19 : decode cX2_init 19 = .ok (.aload_n 0, 1) := by decide +kernel
theorem dX2_init_20 : decode cX2_init 20 = .ok (.iconst 0, 1) := by decide +kernel
theorem dX2_init_21 : decode cX2_init 21 = .ok (.putfield 22, 3) := by decide +kernel
theorem dX2_init_24 : decode cX2_init 24 = .ok (.aload_n 0, 1) := by decide +kernel
theorem dX2_init_25 : decode cX2_init 25 = .ok (.bipush (-5), 2) := by decide +kernel
theorem dX2_init_27 : decode cX2_init 27 = .ok (.putfield 25, 3) := by decide +kernel
theorem dX2_init_30 : decode cX2_init 30 = .ok (.aload_n 0, 1) := by decide +kernel
theorem dX2_init_31 : decode cX2_init 31 = .ok (.iconst 0, 1) := by decide +kernel
theorem dX2_init_32 : decode cX2_init 32 = .ok (.putfield 28, 3) := by decide +kernel
theorem dX2_init_35 : decode cX2_init 35 = .ok (.aload_n 0, 1) := by decide +kernel
theorem dX2_init_36 : decode cX2_init 36 = .ok (.iconst 0, 1) := by decide +kernel
theorem dX2_init_37 : decode cX2_init 37 = .ok (.putfield 31, 3) := by decide +kernel
theorem dX2_init_40 : decode cX2_init 40 = .ok (.aload_n 0, 1) := by decide +kernel
theorem dX2_init_41 : decode cX2_init 41 = .ok (.iconst 0, 1) := by decide +kernel
theorem dX2_init_42 : decode cX2_init 42 = .ok (.putfield 34, 3) := by decide +kernel
theorem dX2_init_45 : decode cX2_init 45 = .ok (.aload_n 0, 1) := by decide +kernel
theorem dX2_init_46 : decode cX2_init 46 = .ok (.iconst 0, 1) := by decide +kernel
theorem dX2_init_47 : decode cX2_init 47 = .ok (.putfield 37, 3) := by decide +kernel
theorem dX2_init_50 : decode cX2_init 50 = .ok (.aload_n 0, 1) := by decide +kernel
theorem dX2_init_51 : decode cX2_init 51 = .ok (.iconst 0, 1) := by decide +kernel
theorem dX2_init_52 : decode cX2_init 52 = .ok (.putfield 40, 3) := by decide +kernel
theorem dX2_init_55 : decode cX2_init 55 = .ok (.aload_n 0, 1) := by decide +kernel
theorem dX2_init_56 : decode cX2_init 56 = .ok (.iconst 0, 1) := by decide +kernel
theorem dX2_init_57 : decode cX2_init 57 = .ok (.putfield 43, 3) := by decide +kernel
theorem dX2_init_60 : decode cX2_init 60 = .ok (.aload_n 0, 1) := by decide +kernel
theorem dX2_init_61 : decode cX2_init 61 = .ok (.iconst 0, 1) := by decide +kernel
theorem dX2_init_62 : decode cX2_init 62 = .ok (.putfield 46, 3) := by decide +kernel
theorem dX2_init_65 : decode cX2_init 65 = .ok (.aload_n 0, 1) := by decide +kernel
theorem dX2_init_66 : decode cX2_init 66 = .ok (.iconst 0, 1) := by decide +kernel
theorem dX2_init_67 : decode cX2_init 67 = .ok (.putfield 49, 3) := by decide +kernel
theorem dX2_init_70 : decode cX2_init 70 = .ok (.aload_n 0, 1) := by decide +kernel
theorem dX2_init_71 : decode cX2_init 71 = .ok (.bipush 24, 2) := by decide +kernel
theorem dX2_init_73 : decode cX2_init 73 = .ok (.newarray .int, 2) := by decide +kernel
theorem dX2_init_75 : decode cX2_init 75 = .ok (.putfield 52, 3) := by decide +kernel
theorem dX2_init_78 : decode cX2_init 78 = .ok (.aload_n 0, 1) := by decide +kernel
theorem dX2_init_79 : decode cX2_init 79 = .ok (.bipush 24, 2) := by decide +kernel
theorem dX2_init_81 : decode cX2_init 81 = .ok (.newarray .int, 2) := by decide +kernel
theorem dX2_init_83 : decode cX2_init 83 = .ok (.putfield 56, 3) := by decide +kernel
theorem dX2_init_86 : decode cX2_init 86 = .ok (.return_, 1) := by decide +kernel
theorem dX2_copyFrom_0 : decode cX2_copyFrom 0 = .ok (.aload_n 0, 1) := by decide +kernel
theorem dX2_copyFrom_1 : decode cX2_copyFrom 1 = .ok (.aload_n 1, 1) := by decide +kernel
theorem dX2_copyFrom_2 : decode cX2_copyFrom 2 = .ok (.getfield 9, 3) := by decide +kernel
theorem dX2_copyFrom_5 : decode cX2_copyFrom 5 = .ok (.putfield 9, 3) := by decide +kernel
theorem dX2_copyFrom_8 : decode cX2_copyFrom 8 = .ok (.aload_n 0, 1) := by decide +kernel
theorem dX2_copyFrom_9 : decode cX2_copyFrom 9 = .ok (.aload_n 1, 1) := by decide +kernel
theorem dX2_copyFrom_10 : decode cX2_copyFrom 10 = .ok (.getfield 15, 3) := by decide +kernel
theorem dX2_copyFrom_13 : decode cX2_copyFrom 13 = .ok (.putfield 15, 3) := by decide +kernel
theorem dX2_copyFrom_16 : decode cX2_copyFrom 16 = .ok (.aload_n 0, 1) := by decide +kernel
theorem dX2_copyFrom_17 : decode cX2_copyFrom 17 = .ok (.aload_n 1, 1) := by decide +kernel
theorem dX2_copyFrom_18 : decode cX2_copyFrom 18 = .ok (.getfield 18, 3) := by decide +kernel
theorem dX2_copyFrom_21 : decode cX2_copyFrom 21 = .ok (.putfield 18, 3) := by decide +kernel
theorem dX2_copyFrom_24 : decode cX2_copyFrom 24 = .ok (.aload_n 0, 1) := by decide +kernel
theorem dX2_copyFrom_25 : decode cX2_copyFrom 25 = .ok (.aload_n 1, 1) := by decide +kernel
theorem dX2_copyFrom_26 : decode cX2_copyFrom 26 = .ok (.getfield 22, 3) := by decide +kernel
theorem dX2_copyFrom_29 : decode cX2_copyFrom 29 = .ok (.putfield 22, 3) := by decide +kernel
theorem dX2_copyFrom_32 : decode cX2_copyFrom 32 = .ok (.aload_n 0, 1) := by decide +kernel
theorem dX2_copyFrom_33 : decode cX2_copyFrom 33 = .ok (.aload_n 1, 1) := by decide +kernel
theorem dX2_copyFrom_34 : decode cX2_copyFrom 34 = .ok (.getfield 25, 3) := by decide +kernel
theorem dX2_copyFrom_37 : decode cX2_copyFrom 37 = .ok (.putfield 25, 3) := by decide +kernel
theorem dX2_copyFrom_40 : decode cX2_copyFrom 40 = .ok (.aload_n 0, 1) := by decide +kernel
theorem dX2_copyFrom_41 : decode cX2_copyFrom 41 = .ok (.aload_n 1, 1) := by decide +kernel
theorem dX2_copyFrom_42 : decode cX2_copyFrom 42 = .ok (.getfield 28, 3) := by decide +kernel
theorem dX2_copyFrom_45 : decode cX2_copyFrom 45 = .ok (.putfield 28, 3) := by decide +kernel
theorem dX2_copyFrom_48 : decode cX2_copyFrom 48 = .ok (.aload_n 0, 1) := by decide +kernel
theorem dX2_copyFrom_49 : decode cX2_copyFrom 49 = .ok (.aload_n 1, 1) := by decide +kernel
theorem dX2_copyFrom_50 : decode cX2_copyFrom 50 = .ok (.getfield 31, 3) := by decide +kernel
theorem dX2_copyFrom_53 : decode cX2_copyFrom 53 = .ok (.putfield 31, 3) := by decide +kernel
theorem dX2_copyFrom_56 : decode cX2_copyFrom 56 = .ok (.aload_n 0, 1) := by decide +kernel
theorem dX2_copyFrom_57 : decode cX2_copyFrom 57 = .ok (.aload_n 1, 1) := by decide +kernel
theorem dX2_copyFrom_58 : decode cX2_copyFrom 58 = .ok (.getfield 34, 3) := by decide +kernel
theorem dX2_copyFrom_61 : decode cX2_copyFrom 61 = .ok (.putfield 34, 3) := by decide +kernel
theorem dX2_copyFrom_64 : decode cX2_copyFrom 64 = .ok (.aload_n 0, 1) := by decide +kernel
theorem dX2_copyFrom_65 : decode cX2_copyFrom 65 = .ok (.aload_n 1, 1) := by decide +kernel
theorem dX2_copyFrom_66 : decode cX2_copyFrom 66 = .ok (.getfield 37, 3) := by decide +kernel
theorem dX2_copyFrom_69 : decode cX2_copyFrom 69 = .ok (.putfield 37, 3) := by decide +kernel
theorem dX2_copyFrom_72 : decode cX2_copyFrom 72 = .ok (.aload_n 0, 1) := by decide +kernel
theorem dX2_copyFrom_73 : decode cX2_copyFrom 73 = .ok (.aload_n 1, 1) := by decide +kernel
theorem dX2_copyFrom_74 : decode cX2_copyFrom 74 = .ok (.getfield 40, 3) := by decide +kernel
theorem dX2_copyFrom_77 : decode cX2_copyFrom 77 = .ok (.putfield 40, 3) := by decide +kernel
theorem dX2_copyFrom_80 : decode cX2_copyFrom 80 = .ok (.aload_n 0, 1) := by decide +kernel
theorem dX2_copyFrom_81 : decode cX2_copyFrom 81 = .ok (.aload_n 1, 1) := by decide +kernel
theorem dX2_copyFrom_82 : decode cX2_copyFrom 82 = .ok (.getfield 43, 3) := by decide +kernel
theorem dX2_copyFrom_85 : decode cX2_copyFrom 85 = .ok (.putfield 43, 3) := by decide +kernel
theorem dX2_copyFrom_88 : decode cX2_copyFrom 88 = .ok (.aload_n 0, 1) := by decide +kernel
theorem dX2_copyFrom_89 : decode cX2_copyFrom 89 = .ok (.aload_n 1, 1) := by decide +kernel
theorem dX2_copyFrom_90 : decode cX2_copyFrom 90 = .ok (.getfield 46, 3) := by decide +kernel
theorem dX2_copyFrom_93 : decode cX2_copyFrom 93 = .ok (.putfield 46, 3) := by decide +kernel
theorem dX2_copyFrom_96 : decode cX2_copyFrom 96 = .ok (.aload_n 0, 1) := by decide +kernel
theorem dX2_copyFrom_97 : decode cX2_copyFrom 97 = .ok (.aload_n 1, 1) := by decide +kernel
theorem dX2_copyFrom_98 : decode cX2_copyFrom 98 = .ok (.getfield 49, 3) := by decide +kernel
theorem dX2_copyFrom_101 : decode cX2_copyFrom 101 = .ok (.putfield 49, 3) := by decide +kernel
theorem dX2_copyFrom_104 : decode cX2_copyFrom 104 = .ok (.aload_n 1, 1) := by decide +kernel
theorem dX2_copyFrom_105 : decode cX2_copyFrom 105 = .ok (.getfield 52, 3) := by decide +kernel
theorem dX2_copyFrom_108 : decode cX2_copyFrom 108 = .ok (.iconst 0, 1) := by decide +kernel
theorem dX2_copyFrom_109 : decode cX2_copyFrom 109 = .ok (.aload_n 0, 1) := by decide +kernel
theorem dX2_copyFrom_110 : decode cX2_copyFrom 110 = .ok (.getfield 52, 3) := by decide +kernel
theorem dX2_copyFrom_113 : decode cX2_copyFrom 113 = .ok (.iconst 0, 1) := by decide +kernel
theorem dX2_copyFrom_114 : decode cX2_copyFrom 114 = .ok (.bipush 24, 2) := by decide +kernel
theorem dX2_copyFrom_116 : decode cX2_copyFrom 116 = .ok (.invokestatic 59, 3) := by decide +kernel
theorem dX2_copyFrom_119 : decode cX2_copyFrom 119 = .ok (.aload_n 1, 1) := by decide +kernel
theorem dX2_copyFrom_120 : decode cX2_copyFrom 120 = .ok (.getfield 56, 3) := by decide +kernel
theorem dX2_copyFrom_123 : decode cX2_copyFrom 123 = .ok (.iconst 0, 1) := by decide +kernel
theorem dX2_copyFrom_124 : decode cX2_copyFrom 124 = .ok (.aload_n 0, 1) := by decide +kernel
theorem dX2_copyFrom_125 : decode cX2_copyFrom 125 = .ok (.getfield 56, 3) := by decide +kernel
theorem dX2_copyFrom_128 : decode cX2_copyFrom 128 = .ok (.iconst 0, 1) := by decide +kernel
theorem dX2_copyFrom_129 : decode cX2_copyFrom 129 = .ok (.bipush 24, 2) := by decide +kernel
theorem dX2_copyFrom_131 : decode cX2_copyFrom 131 = .ok (.invokestatic 59, 3) := by decide +kernel
theorem dX2_copyFrom_134 : decode cX2_copyFrom 134 = .ok (.return_, 1) := by decide +kernel
theorem dX2_start_0 : decode cX2_start 0 = .ok (.aload_n 0, 1) := by decide +kernel
theorem dX2_start_1 : decode cX2_start 1 = .ok (.iconst 1, 1) := by decide +kernel
theorem dX2_start_2 : decode cX2_start 2 = .ok (.putfield 9, 3) := by decide +kernel
theorem dX2_start_5 : decode cX2_start 5 = .ok (.aload_n 0, 1) := by decide +kernel
theorem dX2_start_6 : decode cX2_start 6 = .ok (.iconst 0, 1) := by decide +kernel
theorem dX2_start_7 : decode cX2_start 7 = .ok (.putfield 15, 3) := by decide +kernel
theorem dX2_start_10 : decode cX2_start 10 = .ok (.aload_n 0, 1) := by decide +kernel
theorem dX2_start_11 : decode cX2_start 11 = .ok (.iconst 0, 1) := by decide +kernel
theorem dX2_start_12 : decode cX2_start 12 = .ok (.putfield 18, 3) := by decide +kernel
theorem dX2_start_15 : decode cX2_start 15 = .ok (.aload_n 0, 1) := by decide +kernel
theorem dX2_start_16 : decode cX2_start 16 = .ok (.iconst 0, 1) := by decide +kernel
theorem dX2_start_17 : decode cX2_start 17 = .ok (.putfield 22, 3) := by decide +kernel
theorem dX2_start_20 : decode cX2_start 20 = .ok (.aload_n 0, 1) := by decide +kernel
theorem dX2_start_21 : decode cX2_start 21 = .ok (.bipush (-5), 2) := by decide +kernel
theorem dX2_start_23 : decode cX2_start 23 = .ok (.putfield 25, 3) := by decide +kernel
theorem dX2_start_26 : decode cX2_start 26 = .ok (.aload_n 0, 1) := by decide +kernel
theorem dX2_start_27 : decode cX2_start 27 = .ok (.iconst 0, 1) := by decide +kernel
theorem dX2_start_28 : decode cX2_start 28 = .ok (.putfield 28, 3) := by decide +kernel
theorem dX2_start_31 : decode cX2_start 31 = .ok (.aload_n 0, 1) := by decide +kernel
theorem dX2_start_32 : decode cX2_start 32 = .ok (.iconst 0, 1) := by decide +kernel
theorem dX2_start_33 : decode cX2_start 33 = .ok (.putfield 31, 3) := by decide +kernel
theorem dX2_start_36 : decode cX2_start 36 = .ok (.aload_n 0, 1) := by decide +kernel
theorem dX2_start_37 : decode cX2_start 37 = .ok (.iload_n 1, 1) := by decide +kernel
theorem dX2_start_38 : decode cX2_start 38 = .ok (.putfield 34, 3) := by decide +kernel
theorem dX2_start_41 : decode cX2_start 41 = .ok (.aload_n 0, 1) := by decide +kernel
theorem dX2_start_42 : decode cX2_start 42 = .ok (.iconst 0, 1) := by decide +kernel
theorem dX2_start_43 : decode cX2_start 43 = .ok (.putfield 37, 3) := by decide +kernel
theorem dX2_start_46 : decode cX2_start 46 = .ok (.aload_n 0, 1) := by decide +kernel
theorem dX2_start_47 : decode cX2_start 47 = .ok (.iconst 0, 1) := by decide +kernel
theorem dX2_start_48 : decode cX2_start 48 = .ok (.putfield 40, 3) := by decide +kernel
theorem dX2_start_51 : decode cX2_start 51 = .ok (.aload_n 0, 1) := by decide +kernel
theorem dX2_start_52 : decode cX2_start 52 = .ok (.iconst 0, 1) := by decide +kernel
theorem dX2_start_53 : decode cX2_start 53 = .ok (.putfield 43, 3) := by decide +kernel
theorem dX2_start_56 : decode cX2_start 56 = .ok (.aload_n 0, 1) := by decide +kernel
theorem dX2_start_57 : decode cX2_start 57 = .ok (.iconst 0, 1) := by decide +kernel
theorem dX2_start_58 : decode cX2_start 58 = .ok (.putfield 46, 3) := by decide +kernel
theorem dX2_start_61 : decode cX2_start 61 = .ok (.aload_n 0, 1) := by decide +kernel
theorem dX2_start_62 : decode cX2_start 62 = .ok (.iconst 0, 1) := by decide +kernel
theorem dX2_start_63 : decode cX2_start 63 = .ok (.putfield 49, 3) := by decide +kernel
theorem dX2_start_66 : decode cX2_start 66 = .ok (.return_, 1) := by decide +kernel
theorem dX2_breakOff_0 : decode cX2_breakOff 0 = .ok (.aload_n 0, 1) := by decide +kernel
theorem dX2_breakOff_1 : decode cX2_breakOff 1 = .ok (.iconst 0, 1) := by decide +kernel
theorem dX2_breakOff_2 : decode cX2_breakOff 2 = .ok (.putfield 9, 3) := by decide +kernel
theorem dX2_breakOff_5 : decode cX2_breakOff 5 = .ok (.aload_n 0, 1) := by decide +kernel
theorem dX2_breakOff_6 : decode cX2_breakOff 6 = .ok (.bipush (-5), 2) := by decide +kernel
theorem dX2_breakOff_8 : decode cX2_breakOff 8 = .ok (.putfield 25, 3) := by decide +kernel
theorem dX2_breakOff_11 : decode cX2_breakOff 11 = .ok (.aload_n 0, 1) := by decide +kernel
theorem dX2_breakOff_12 : decode cX2_breakOff 12 = .ok (.iconst 0, 1) := by decide +kernel
theorem dX2_breakOff_13 : decode cX2_breakOff 13 = .ok (.putfield 28, 3) := by decide +kernel
theorem dX2_breakOff_16 : decode cX2_breakOff 16 = .ok (.return_, 1) := by decide +kernel
theorem dX2_run_0 : decode cX2_run 0 = .ok (.aload_n 0, 1) := by decide +kernel
theorem dX2_run_1 : decode cX2_run 1 = .ok (.getfield 31, 3) := by decide +kernel
theorem dX2_run_4 : decode cX2_run 4 = .ok (.istore_n 3, 1) := by decide +kernel
theorem dX2_run_5 : decode cX2_run 5 = .ok (.iconst 0, 1) := by decide +kernel
theorem dX2_run_6 : decode cX2_run 6 = .ok (.istore 4, 2) := by decide +kernel
theorem dX2_run_8 : decode cX2_run 8 = .ok (.iload 4, 2) := by decide +kernel
theorem dX2_run_10 : decode cX2_run 10 = .ok (.iload_n 2, 1) := by decide +kernel
theorem dX2_run_11 : decode cX2_run 11 = .ok (.if_icmp .ge 74, 3) := by decide +kernel
theorem dX2_run_14 : decode cX2_run 14 = .ok (.aload_n 0, 1) := by decide +kernel
theorem dX2_run_15 : decode cX2_run 15 = .ok (.getfield 9, 3) := by decide +kernel
theorem dX2_run_18 : decode cX2_run 18 = .ok (.ifCond .eq 67, 3) := by decide +kernel
theorem dX2_run_21 : decode cX2_run 21 = .ok (.aload_n 0, 1) := by decide +kernel
theorem dX2_run_22 : decode cX2_run 22 = .ok (.getfield 25, 3) := by decide +kernel
theorem dX2_run_25 : decode cX2_run 25 = .ok (.bipush (-5), 2) := by decide +kernel
theorem dX2_run_27 : decode cX2_run 27 = .ok (.if_icmp .ne 11, 3) := by decide +kernel
theorem dX2_run_30 : decode cX2_run 30 = .ok (.aload_n 0, 1) := by decide +kernel
theorem dX2_run_31 : decode cX2_run 31 = .ok (.aload_n 1, 1) := by decide +kernel
theorem dX2_run_32 : decode cX2_run 32 = .ok (.invokevirtual 65, 3) := by decide +kernel
theorem dX2_run_35 : decode cX2_run 35 = .ok (.goto 34, 3) := by decide +kernel
theorem dX2_run_38 : decode cX2_run 38 = .ok (.aload_n 0, 1) := by decide +kernel
theorem dX2_run_39 : decode cX2_run 39 = .ok (.aload_n 0, 1) := by decide +kernel
theorem dX2_run_40 : decode cX2_run 40 = .ok (.getfield 25, 3) := by decide +kernel
theorem dX2_run_43 : decode cX2_run 43 = .ok (.invokevirtual 69, 3) := by decide +kernel
theorem dX2_run_46 : decode cX2_run 46 = .ok (.aload_n 1, 1) := by decide +kernel
theorem dX2_run_47 : decode cX2_run 47 = .ok (.aload_n 0, 1) := by decide +kernel
theorem dX2_run_48 : decode cX2_run 48 = .ok (.getfield 25, 3) := by decide +kernel
theorem dX2_run_51 : decode cX2_run 51 = .ok (.invokevirtual 73, 3) := by decide +kernel
theorem dX2_run_54 : decode cX2_run 54 = .ok (.if_icmp .ge 11, 3) := by decide +kernel
theorem dX2_run_57 : decode cX2_run 57 = .ok (.aload_n 0, 1) := by decide +kernel
theorem dX2_run_58 : decode cX2_run 58 = .ok (.aload_n 1, 1) := by decide +kernel
theorem dX2_run_59 : decode cX2_run 59 = .ok (.invokevirtual 78, 3) := by decide +kernel
theorem dX2_run_62 : decode cX2_run 62 = .ok (.goto 7, 3) := by decide +kernel
theorem dX2_run_65 : decode cX2_run 65 = .ok (.aload_n 0, 1) := by decide +kernel
theorem dX2_run_66 : decode cX2_run 66 = .ok (.invokevirtual 81, 3) := by decide +kernel
theorem dX2_run_69 : decode cX2_run 69 = .ok (.aload_n 0, 1) := by decide +kernel
theorem dX2_run_70 : decode cX2_run 70 = .ok (.dup, 1) := by decide +kernel
theorem dX2_run_71 : decode cX2_run 71 = .ok (.getfield 31, 3) := by decide +kernel
theorem dX2_run_74 : decode cX2_run 74 = .ok (.iconst 1, 1) := by decide +kernel
theorem dX2_run_75 : decode cX2_run 75 = .ok (.iadd, 1) := by decide +kernel
theorem dX2_run_76 : decode cX2_run 76 = .ok (.putfield 31, 3) := by decide +kernel
theorem dX2_run_79 : decode cX2_run 79 = .ok (.iinc 4 1, 3) := by decide +kernel
theorem dX2_run_82 : decode cX2_run 82 = .ok (.goto (-74), 3) := by decide +kernel
theorem dX2_run_85 : decode cX2_run 85 = .ok (.aload_n 0, 1) := by decide +kernel
theorem dX2_run_86 : decode cX2_run 86 = .ok (.getfield 31, 3) := by decide +kernel
theorem dX2_run_89 : decode cX2_run 89 = .ok (.iload_n 3, 1) := by decide +kernel
theorem dX2_run_90 : decode cX2_run 90 = .ok (.isub, 1) := by decide +kernel
theorem dX2_run_91 : decode cX2_run 91 = .ok (.ireturn, 1) := by decide +kernel
theorem dX2_setOut_0 : decode cX2_setOut 0 = .ok (.aload_n 0, 1) := by decide +kernel
theorem dX2_setOut_1 : decode cX2_setOut 1 = .ok (.getfield 37, 3) := by decide +kernel
theorem dX2_setOut_4 : decode cX2_setOut 4 = .ok (.iconst 4, 1) := by decide +kernel
theorem dX2_setOut_5 : decode cX2_setOut 5 = .ok (.if_icmp .ge 52, 3) := by decide +kernel
theorem dX2_setOut_8 : decode cX2_setOut 8 = .ok (.aload_n 1, 1) := by decide +kernel
theorem dX2_setOut_9 : decode cX2_setOut 9 = .ok (.aload_n 0, 1) := by decide +kernel
theorem dX2_setOut_10 : decode cX2_setOut 10 = .ok (.getfield 37, 3) := by decide +kernel
theorem dX2_setOut_13 : decode cX2_setOut 13 = .ok (.invokevirtual 84, 3) := by decide +kernel
theorem dX2_setOut_16 : decode cX2_setOut 16 = .ok (.istore_n 2, 1) := by decide +kernel
theorem dX2_setOut_17 : decode cX2_setOut 17 = .ok (.iload_n 2, 1) := by decide +kernel
theorem dX2_setOut_18 : decode cX2_setOut 18 = .ok (.bipush (-5), 2) := by decide +kernel
theorem dX2_setOut_20 : decode cX2_setOut 20 = .ok (.if_icmp .eq 24, 3) := by decide +kernel
theorem dX2_setOut_23 : decode cX2_setOut 23 = .ok (.aload_n 0, 1) := by decide +kernel
theorem dX2_setOut_24 : decode cX2_setOut 24 = .ok (.getfield 18, 3) := by decide +kernel
theorem dX2_setOut_27 : decode cX2_setOut 27 = .ok (.iload_n 2, 1) := by decide +kernel
theorem dX2_setOut_28 : decode cX2_setOut 28 = .ok (.invokestatic 87, 3) := by decide +kernel
theorem dX2_setOut_31 : decode cX2_setOut 31 = .ok (.ifCond .ne 13, 3) := by decide +kernel
theorem dX2_setOut_34 : decode cX2_setOut 34 = .ok (.aload_n 0, 1) := by decide +kernel
theorem dX2_setOut_35 : decode cX2_setOut 35 = .ok (.iload_n 2, 1) := by decide +kernel
theorem dX2_setOut_36 : decode cX2_setOut 36 = .ok (.invokevirtual 91, 3) := by decide +kernel
theorem dX2_setOut_39 : decode cX2_setOut 39 = .ok (.aload_n 0, 1) := by decide +kernel
theorem dX2_setOut_40 : decode cX2_setOut 40 = .ok (.iload_n 2, 1) := by decide +kernel
theorem dX2_setOut_41 : decode cX2_setOut 41 = .ok (.putfield 25, 3) := by decide +kernel
theorem dX2_setOut_44 : decode cX2_setOut 44 = .ok (.aload_n 0, 1) := by decide +kernel
theorem dX2_setOut_45 : decode cX2_setOut 45 = .ok (.dup, 1) := by decide +kernel
theorem dX2_setOut_46 : decode cX2_setOut 46 = .ok (.getfield 37, 3) := by decide +kernel
theorem dX2_setOut_49 : decode cX2_setOut 49 = .ok (.iconst 1, 1) := by decide +kernel
theorem dX2_setOut_50 : decode cX2_setOut 50 = .ok (.iadd, 1) := by decide +kernel
theorem dX2_setOut_51 : decode cX2_setOut 51 = .ok (.putfield 37, 3) := by decide +kernel
theorem dX2_setOut_54 : decode cX2_setOut 54 = .ok (.goto 61, 3) := by decide +kernel
theorem dX2_setOut_57 : decode cX2_setOut 57 = .ok (.aload_n 0, 1) := by decide +kernel
theorem dX2_setOut_58 : decode cX2_setOut 58 = .ok (.getfield 22, 3) := by decide +kernel
theorem dX2_setOut_61 : decode cX2_setOut 61 = .ok (.ifCond .eq 44, 3) := by decide +kernel
theorem dX2_setOut_64 : decode cX2_setOut 64 = .ok (.aload_n 0, 1) := by decide +kernel
theorem dX2_setOut_65 : decode cX2_setOut 65 = .ok (.aload_n 0, 1) := by decide +kernel
theorem dX2_setOut_66 : decode cX2_setOut 66 = .ok (.getfield 22, 3) := by decide +kernel
theorem dX2_setOut_69 : decode cX2_setOut 69 = .ok (.invokestatic 95, 3) := by decide +kernel
theorem dX2_setOut_72 : decode cX2_setOut 72 = .ok (.putfield 25, 3) := by decide +kernel
theorem dX2_setOut_75 : decode cX2_setOut 75 = .ok (.aload_n 0, 1) := by decide +kernel
theorem dX2_setOut_76 : decode cX2_setOut 76 = .ok (.dup, 1) := by decide +kernel
theorem dX2_setOut_77 : decode cX2_setOut 77 = .ok (.getfield 22, 3) := by decide +kernel
theorem dX2_setOut_80 : decode cX2_setOut 80 = .ok (.aload_n 0, 1) := by decide +kernel
theorem dX2_setOut_81 : decode cX2_setOut 81 = .ok (.getfield 25, 3) := by decide +kernel
theorem dX2_setOut_84 : decode cX2_setOut 84 = .ok (.invokestatic 98, 3) := by decide +kernel
theorem dX2_setOut_87 : decode cX2_setOut 87 = .ok (.iconst (-1), 1) := by decide +kernel
theorem dX2_setOut_88 : decode cX2_setOut 88 = .ok (.ixor, 1) := by decide +kernel
theorem dX2_setOut_89 : decode cX2_setOut 89 = .ok (.iand, 1) := by decide +kernel
theorem dX2_setOut_90 : decode cX2_setOut 90 = .ok (.putfield 22, 3) := by decide +kernel
theorem dX2_setOut_93 : decode cX2_setOut 93 = .ok (.aload_n 0, 1) := by decide +kernel
theorem dX2_setOut_94 : decode cX2_setOut 94 = .ok (.aload_n 0, 1) := by decide +kernel
theorem dX2_setOut_95 : decode cX2_setOut 95 = .ok (.getfield 25, 3) := by decide +kernel
theorem dX2_setOut_98 : decode cX2_setOut 98 = .ok (.iconst 0, 1) := by decide +kernel
theorem dX2_setOut_99 : decode cX2_setOut 99 = .ok (.invokevirtual 101, 3) := by decide +kernel
theorem dX2_setOut_102 : decode cX2_setOut 102 = .ok (.goto 13, 3) := by decide +kernel
theorem dX2_setOut_105 : decode cX2_setOut 105 = .ok (.aload_n 0, 1) := by decide +kernel
theorem dX2_setOut_106 : decode cX2_setOut 106 = .ok (.iconst 0, 1) := by decide +kernel
theorem dX2_setOut_107 : decode cX2_setOut 107 = .ok (.putfield 9, 3) := by decide +kernel
theorem dX2_setOut_110 : decode cX2_setOut 110 = .ok (.aload_n 0, 1) := by decide +kernel
theorem dX2_setOut_111 : decode cX2_setOut 111 = .ok (.iconst 1, 1) := by decide +kernel
theorem dX2_setOut_112 : decode cX2_setOut 112 = .ok (.putfield 15, 3) := by decide +kernel
theorem dX2_setOut_115 : decode cX2_setOut 115 = .ok (.return_, 1) := by decide +kernel
theorem dX2_goOn_0 : decode cX2_goOn 0 = .ok (.aload_n 1, 1) := by decide +kernel
theorem dX2_goOn_1 : decode cX2_goOn 1 = .ok (.aload_n 0, 1) := by decide +kernel
theorem dX2_goOn_2 : decode cX2_goOn 2 = .ok (.getfield 25, 3) := by decide +kernel
theorem dX2_goOn_5 : decode cX2_goOn 5 = .ok (.aload_n 0, 1) := by decide +kernel
theorem dX2_goOn_6 : decode cX2_goOn 6 = .ok (.aload_n 0, 1) := by decide +kernel
theorem dX2_goOn_7 : decode cX2_goOn 7 = .ok (.getfield 25, 3) := by decide +kernel
theorem dX2_goOn_10 : decode cX2_goOn 10 = .ok (.invokevirtual 69, 3) := by decide +kernel
theorem dX2_goOn_13 : decode cX2_goOn 13 = .ok (.invokevirtual 105, 3) := by decide +kernel
theorem dX2_goOn_16 : decode cX2_goOn 16 = .ok (.istore_n 2, 1) := by decide +kernel
theorem dX2_goOn_17 : decode cX2_goOn 17 = .ok (.iload_n 2, 1) := by decide +kernel
theorem dX2_goOn_18 : decode cX2_goOn 18 = .ok (.bipush (-5), 2) := by decide +kernel
theorem dX2_goOn_20 : decode cX2_goOn 20 = .ok (.if_icmp .eq 14, 3) := by decide +kernel
theorem dX2_goOn_23 : decode cX2_goOn 23 = .ok (.aload_n 0, 1) := by decide +kernel
theorem dX2_goOn_24 : decode cX2_goOn 24 = .ok (.getfield 18, 3) := by decide +kernel
theorem dX2_goOn_27 : decode cX2_goOn 27 = .ok (.iload_n 2, 1) := by decide +kernel
theorem dX2_goOn_28 : decode cX2_goOn 28 = .ok (.invokestatic 87, 3) := by decide +kernel
theorem dX2_goOn_31 : decode cX2_goOn 31 = .ok (.ifCond .eq 22, 3) := by decide +kernel
theorem dX2_goOn_34 : decode cX2_goOn 34 = .ok (.aload_n 0, 1) := by decide +kernel
theorem dX2_goOn_35 : decode cX2_goOn 35 = .ok (.aload_n 0, 1) := by decide +kernel
theorem dX2_goOn_36 : decode cX2_goOn 36 = .ok (.getfield 25, 3) := by decide +kernel
theorem dX2_goOn_39 : decode cX2_goOn 39 = .ok (.aload_n 0, 1) := by decide +kernel
theorem dX2_goOn_40 : decode cX2_goOn 40 = .ok (.aload_n 0, 1) := by decide +kernel
theorem dX2_goOn_41 : decode cX2_goOn 41 = .ok (.getfield 25, 3) := by decide +kernel
theorem dX2_goOn_44 : decode cX2_goOn 44 = .ok (.invokevirtual 69, 3) := by decide +kernel
theorem dX2_goOn_47 : decode cX2_goOn 47 = .ok (.iconst 1, 1) := by decide +kernel
theorem dX2_goOn_48 : decode cX2_goOn 48 = .ok (.iadd, 1) := by decide +kernel
theorem dX2_goOn_49 : decode cX2_goOn 49 = .ok (.invokevirtual 101, 3) := by decide +kernel
theorem dX2_goOn_52 : decode cX2_goOn 52 = .ok (.return_, 1) := by decide +kernel
theorem dX2_goOn_53 : decode cX2_goOn 53 = .ok (.aload_n 0, 1) := by decide +kernel
theorem dX2_goOn_54 : decode cX2_goOn 54 = .ok (.iload_n 2, 1) := by decide +kernel
theorem dX2_goOn_55 : decode cX2_goOn 55 = .ok (.invokevirtual 91, 3) := by decide +kernel
theorem dX2_goOn_58 : decode cX2_goOn 58 = .ok (.aload_n 0, 1) := by decide +kernel
theorem dX2_goOn_59 : decode cX2_goOn 59 = .ok (.getfield 28, 3) := by decide +kernel
theorem dX2_goOn_62 : decode cX2_goOn 62 = .ok (.aload_n 0, 1) := by decide +kernel
theorem dX2_goOn_63 : decode cX2_goOn 63 = .ok (.getfield 34, 3) := by decide +kernel
theorem dX2_goOn_66 : decode cX2_goOn 66 = .ok (.if_icmp .ge 21, 3) := by decide +kernel
theorem dX2_goOn_69 : decode cX2_goOn 69 = .ok (.aload_n 0, 1) := by decide +kernel
theorem dX2_goOn_70 : decode cX2_goOn 70 = .ok (.dup, 1) := by decide +kernel
theorem dX2_goOn_71 : decode cX2_goOn 71 = .ok (.getfield 43, 3) := by decide +kernel
theorem dX2_goOn_74 : decode cX2_goOn 74 = .ok (.iconst 1, 1) := by decide +kernel
theorem dX2_goOn_75 : decode cX2_goOn 75 = .ok (.iadd, 1) := by decide +kernel
theorem dX2_goOn_76 : decode cX2_goOn 76 = .ok (.putfield 43, 3) := by decide +kernel
theorem dX2_goOn_79 : decode cX2_goOn 79 = .ok (.aload_n 0, 1) := by decide +kernel
theorem dX2_goOn_80 : decode cX2_goOn 80 = .ok (.iload_n 2, 1) := by decide +kernel
theorem dX2_goOn_81 : decode cX2_goOn 81 = .ok (.invokevirtual 109, 3) := by decide +kernel
theorem dX2_goOn_84 : decode cX2_goOn 84 = .ok (.goto 76, 3) := by decide +kernel
theorem dX2_goOn_87 : decode cX2_goOn 87 = .ok (.aload_n 1, 1) := by decide +kernel
theorem dX2_goOn_88 : decode cX2_goOn 88 = .ok (.getfield 112, 3) := by decide +kernel
theorem dX2_goOn_91 : decode cX2_goOn 91 = .ok (.aload_n 0, 1) := by decide +kernel
theorem dX2_goOn_92 : decode cX2_goOn 92 = .ok (.getfield 25, 3) := by decide +kernel
theorem dX2_goOn_95 : decode cX2_goOn 95 = .ok (.invokestatic 87, 3) := by decide +kernel
theorem dX2_goOn_98 : decode cX2_goOn 98 = .ok (.ifCond .ne 21, 3) := by decide +kernel
theorem dX2_goOn_101 : decode cX2_goOn 101 = .ok (.aload_n 0, 1) := by decide +kernel
theorem dX2_goOn_102 : decode cX2_goOn 102 = .ok (.dup, 1) := by decide +kernel
theorem dX2_goOn_103 : decode cX2_goOn 103 = .ok (.getfield 40, 3) := by decide +kernel
theorem dX2_goOn_106 : decode cX2_goOn 106 = .ok (.iconst 1, 1) := by decide +kernel
theorem dX2_goOn_107 : decode cX2_goOn 107 = .ok (.iadd, 1) := by decide +kernel
theorem dX2_goOn_108 : decode cX2_goOn 108 = .ok (.putfield 40, 3) := by decide +kernel
theorem dX2_goOn_111 : decode cX2_goOn 111 = .ok (.aload_n 0, 1) := by decide +kernel
theorem dX2_goOn_112 : decode cX2_goOn 112 = .ok (.iload_n 2, 1) := by decide +kernel
theorem dX2_goOn_113 : decode cX2_goOn 113 = .ok (.invokevirtual 109, 3) := by decide +kernel
theorem dX2_goOn_116 : decode cX2_goOn 116 = .ok (.goto 44, 3) := by decide +kernel
theorem dX2_goOn_119 : decode cX2_goOn 119 = .ok (.aload_n 0, 1) := by decide +kernel
theorem dX2_goOn_120 : decode cX2_goOn 120 = .ok (.dup, 1) := by decide +kernel
theorem dX2_goOn_121 : decode cX2_goOn 121 = .ok (.getfield 46, 3) := by decide +kernel
theorem dX2_goOn_124 : decode cX2_goOn 124 = .ok (.iconst 1, 1) := by decide +kernel
theorem dX2_goOn_125 : decode cX2_goOn 125 = .ok (.iadd, 1) := by decide +kernel
theorem dX2_goOn_126 : decode cX2_goOn 126 = .ok (.putfield 46, 3) := by decide +kernel
theorem dX2_goOn_129 : decode cX2_goOn 129 = .ok (.aload_n 0, 1) := by decide +kernel
theorem dX2_goOn_130 : decode cX2_goOn 130 = .ok (.dup, 1) := by decide +kernel
theorem dX2_goOn_131 : decode cX2_goOn 131 = .ok (.getfield 22, 3) := by decide +kernel
theorem dX2_goOn_134 : decode cX2_goOn 134 = .ok (.iload_n 2, 1) := by decide +kernel
theorem dX2_goOn_135 : decode cX2_goOn 135 = .ok (.invokestatic 98, 3) := by decide +kernel
theorem dX2_goOn_138 : decode cX2_goOn 138 = .ok (.ior, 1) := by decide +kernel
theorem dX2_goOn_139 : decode cX2_goOn 139 = .ok (.putfield 22, 3) := by decide +kernel
theorem dX2_goOn_142 : decode cX2_goOn 142 = .ok (.aload_n 0, 1) := by decide +kernel
theorem dX2_goOn_143 : decode cX2_goOn 143 = .ok (.aload_n 0, 1) := by decide +kernel
theorem dX2_goOn_144 : decode cX2_goOn 144 = .ok (.getfield 25, 3) := by decide +kernel
theorem dX2_goOn_147 : decode cX2_goOn 147 = .ok (.aload_n 0, 1) := by decide +kernel
theorem dX2_goOn_148 : decode cX2_goOn 148 = .ok (.aload_n 0, 1) := by decide +kernel
theorem dX2_goOn_149 : decode cX2_goOn 149 = .ok (.getfield 25, 3) := by decide +kernel
theorem dX2_goOn_152 : decode cX2_goOn 152 = .ok (.invokevirtual 69, 3) := by decide +kernel
theorem dX2_goOn_155 : decode cX2_goOn 155 = .ok (.iconst 1, 1) := by decide +kernel
theorem dX2_goOn_156 : decode cX2_goOn 156 = .ok (.iadd, 1) := by decide +kernel
theorem dX2_goOn_157 : decode cX2_goOn 157 = .ok (.invokevirtual 101, 3) := by decide +kernel
theorem dX2_goOn_160 : decode cX2_goOn 160 = .ok (.return_, 1) := by decide +kernel
theorem dX2_goDown_0 : decode cX2_goDown 0 = .ok (.aload_n 0, 1) := by decide +kernel
theorem dX2_goDown_1 : decode cX2_goDown 1 = .ok (.getfield 28, 3) := by decide +kernel
theorem dX2_goDown_4 : decode cX2_goDown 4 = .ok (.ifCond .lt 35, 3) := by decide +kernel
theorem dX2_goDown_7 : decode cX2_goDown 7 = .ok (.aload_n 0, 1) := by decide +kernel
theorem dX2_goDown_8 : decode cX2_goDown 8 = .ok (.getfield 28, 3) := by decide +kernel
theorem dX2_goDown_11 : decode cX2_goDown 11 = .ok (.bipush 24, 2) := by decide +kernel
theorem dX2_goDown_13 : decode cX2_goDown 13 = .ok (.if_icmp .ge 26, 3) := by decide +kernel
theorem dX2_goDown_16 : decode cX2_goDown 16 = .ok (.aload_n 0, 1) := by decide +kernel
theorem dX2_goDown_17 : decode cX2_goDown 17 = .ok (.getfield 52, 3) := by decide +kernel
theorem dX2_goDown_20 : decode cX2_goDown 20 = .ok (.aload_n 0, 1) := by decide +kernel
theorem dX2_goDown_21 : decode cX2_goDown 21 = .ok (.getfield 28, 3) := by decide +kernel
theorem dX2_goDown_24 : decode cX2_goDown 24 = .ok (.aload_n 0, 1) := by decide +kernel
theorem dX2_goDown_25 : decode cX2_goDown 25 = .ok (.getfield 25, 3) := by decide +kernel
theorem dX2_goDown_28 : decode cX2_goDown 28 = .ok (.iastore, 1) := by decide +kernel
theorem dX2_goDown_29 : decode cX2_goDown 29 = .ok (.aload_n 0, 1) := by decide +kernel
theorem dX2_goDown_30 : decode cX2_goDown 30 = .ok (.dup, 1) := by decide +kernel
theorem dX2_goDown_31 : decode cX2_goDown 31 = .ok (.getfield 28, 3) := by decide +kernel
theorem dX2_goDown_34 : decode cX2_goDown 34 = .ok (.iconst 1, 1) := by decide +kernel
theorem dX2_goDown_35 : decode cX2_goDown 35 = .ok (.iadd, 1) := by decide +kernel
theorem dX2_goDown_36 : decode cX2_goDown 36 = .ok (.putfield 28, 3) := by decide +kernel
theorem dX2_goDown_39 : decode cX2_goDown 39 = .ok (.aload_n 0, 1) := by decide +kernel
theorem dX2_goDown_40 : decode cX2_goDown 40 = .ok (.aload_n 0, 1) := by decide +kernel
theorem dX2_goDown_41 : decode cX2_goDown 41 = .ok (.getfield 49, 3) := by decide +kernel
theorem dX2_goDown_44 : decode cX2_goDown 44 = .ok (.aload_n 0, 1) := by decide +kernel
theorem dX2_goDown_45 : decode cX2_goDown 45 = .ok (.getfield 28, 3) := by decide +kernel
theorem dX2_goDown_48 : decode cX2_goDown 48 = .ok (.invokestatic 115, 3) := by decide +kernel
theorem dX2_goDown_51 : decode cX2_goDown 51 = .ok (.putfield 49, 3) := by decide +kernel
theorem dX2_goDown_54 : decode cX2_goDown 54 = .ok (.aload_n 0, 1) := by decide +kernel
theorem dX2_goDown_55 : decode cX2_goDown 55 = .ok (.iload_n 1, 1) := by decide +kernel
theorem dX2_goDown_56 : decode cX2_goDown 56 = .ok (.putfield 25, 3) := by decide +kernel
theorem dX2_goDown_59 : decode cX2_goDown 59 = .ok (.return_, 1) := by decide +kernel
theorem dX2_comeUp_0 : decode cX2_comeUp 0 = .ok (.aload_n 0, 1) := by decide +kernel
theorem dX2_comeUp_1 : decode cX2_comeUp 1 = .ok (.getfield 28, 3) := by decide +kernel
theorem dX2_comeUp_4 : decode cX2_comeUp 4 = .ok (.ifCond .le 56, 3) := by decide +kernel
theorem dX2_comeUp_7 : decode cX2_comeUp 7 = .ok (.aload_n 0, 1) := by decide +kernel
theorem dX2_comeUp_8 : decode cX2_comeUp 8 = .ok (.getfield 28, 3) := by decide +kernel
theorem dX2_comeUp_11 : decode cX2_comeUp 11 = .ok (.bipush 24, 2) := by decide +kernel
theorem dX2_comeUp_13 : decode cX2_comeUp 13 = .ok (.if_icmp .gt 47, 3) := by decide +kernel
theorem dX2_comeUp_16 : decode cX2_comeUp 16 = .ok (.aload_n 0, 1) := by decide +kernel
theorem dX2_comeUp_17 : decode cX2_comeUp 17 = .ok (.dup, 1) := by decide +kernel
theorem dX2_comeUp_18 : decode cX2_comeUp 18 = .ok (.getfield 28, 3) := by decide +kernel
theorem dX2_comeUp_21 : decode cX2_comeUp 21 = .ok (.iconst 1, 1) := by decide +kernel
theorem dX2_comeUp_22 : decode cX2_comeUp 22 = .ok (.isub, 1) := by decide +kernel
theorem dX2_comeUp_23 : decode cX2_comeUp 23 = .ok (.putfield 28, 3) := by decide +kernel
theorem dX2_comeUp_26 : decode cX2_comeUp 26 = .ok (.aload_n 0, 1) := by decide +kernel
theorem dX2_comeUp_27 : decode cX2_comeUp 27 = .ok (.aload_n 0, 1) := by decide +kernel
theorem dX2_comeUp_28 : decode cX2_comeUp 28 = .ok (.getfield 52, 3) := by decide +kernel
theorem dX2_comeUp_31 : decode cX2_comeUp 31 = .ok (.aload_n 0, 1) := by decide +kernel
theorem dX2_comeUp_32 : decode cX2_comeUp 32 = .ok (.getfield 28, 3) := by decide +kernel
theorem dX2_comeUp_35 : decode cX2_comeUp 35 = .ok (.iaload, 1) := by decide +kernel
theorem dX2_comeUp_36 : decode cX2_comeUp 36 = .ok (.putfield 25, 3) := by decide +kernel
theorem dX2_comeUp_39 : decode cX2_comeUp 39 = .ok (.aload_n 0, 1) := by decide +kernel
theorem dX2_comeUp_40 : decode cX2_comeUp 40 = .ok (.aload_n 0, 1) := by decide +kernel
theorem dX2_comeUp_41 : decode cX2_comeUp 41 = .ok (.getfield 25, 3) := by decide +kernel
theorem dX2_comeUp_44 : decode cX2_comeUp 44 = .ok (.aload_n 0, 1) := by decide +kernel
theorem dX2_comeUp_45 : decode cX2_comeUp 45 = .ok (.aload_n 0, 1) := by decide +kernel
theorem dX2_comeUp_46 : decode cX2_comeUp 46 = .ok (.getfield 25, 3) := by decide +kernel
theorem dX2_comeUp_49 : decode cX2_comeUp 49 = .ok (.invokevirtual 69, 3) := by decide +kernel
theorem dX2_comeUp_52 : decode cX2_comeUp 52 = .ok (.iconst 1, 1) := by decide +kernel
theorem dX2_comeUp_53 : decode cX2_comeUp 53 = .ok (.iadd, 1) := by decide +kernel
theorem dX2_comeUp_54 : decode cX2_comeUp 54 = .ok (.invokevirtual 101, 3) := by decide +kernel
theorem dX2_comeUp_57 : decode cX2_comeUp 57 = .ok (.goto 9, 3) := by decide +kernel
theorem dX2_comeUp_60 : decode cX2_comeUp 60 = .ok (.aload_n 0, 1) := by decide +kernel
theorem dX2_comeUp_61 : decode cX2_comeUp 61 = .ok (.bipush (-5), 2) := by decide +kernel
theorem dX2_comeUp_63 : decode cX2_comeUp 63 = .ok (.putfield 25, 3) := by decide +kernel
theorem dX2_comeUp_66 : decode cX2_comeUp 66 = .ok (.return_, 1) := by decide +kernel
theorem dX2_mark_0 : decode cX2_mark 0 = .ok (.aload_n 0, 1) := by decide +kernel
theorem dX2_mark_1 : decode cX2_mark 1 = .ok (.dup, 1) := by decide +kernel
theorem dX2_mark_2 : decode cX2_mark 2 = .ok (.getfield 18, 3) := by decide +kernel
theorem dX2_mark_5 : decode cX2_mark 5 = .ok (.iload_n 1, 1) := by decide +kernel
theorem dX2_mark_6 : decode cX2_mark 6 = .ok (.invokestatic 98, 3) := by decide +kernel
theorem dX2_mark_9 : decode cX2_mark 9 = .ok (.ior, 1) := by decide +kernel
theorem dX2_mark_10 : decode cX2_mark 10 = .ok (.putfield 18, 3) := by decide +kernel
theorem dX2_mark_13 : decode cX2_mark 13 = .ok (.aload_n 0, 1) := by decide +kernel
theorem dX2_mark_14 : decode cX2_mark 14 = .ok (.iload_n 1, 1) := by decide +kernel
theorem dX2_mark_15 : decode cX2_mark 15 = .ok (.iconst 0, 1) := by decide +kernel
theorem dX2_mark_16 : decode cX2_mark 16 = .ok (.invokevirtual 101, 3) := by decide +kernel
theorem dX2_mark_19 : decode cX2_mark 19 = .ok (.return_, 1) := by decide +kernel
theorem dX2_putCount_0 : decode cX2_putCount 0 = .ok (.iload_n 1, 1) := by decide +kernel
theorem dX2_putCount_1 : decode cX2_putCount 1 = .ok (.invokestatic 98, 3) := by decide +kernel
theorem dX2_putCount_4 : decode cX2_putCount 4 = .ok (.ifCond .eq 10, 3) := by decide +kernel
theorem dX2_putCount_7 : decode cX2_putCount 7 = .ok (.aload_n 0, 1) := by decide +kernel
theorem dX2_putCount_8 : decode cX2_putCount 8 = .ok (.getfield 56, 3) := by decide +kernel
theorem dX2_putCount_11 : decode cX2_putCount 11 = .ok (.iload_n 1, 1) := by decide +kernel
theorem dX2_putCount_12 : decode cX2_putCount 12 = .ok (.iload_n 2, 1) := by decide +kernel
theorem dX2_putCount_13 : decode cX2_putCount 13 = .ok (.iastore, 1) := by decide +kernel
theorem dX2_putCount_14 : decode cX2_putCount 14 = .ok (.return_, 1) := by decide +kernel
theorem dX2_countOf_0 : decode cX2_countOf 0 = .ok (.iload_n 1, 1) := by decide +kernel
theorem dX2_countOf_1 : decode cX2_countOf 1 = .ok (.invokestatic 98, 3) := by decide +kernel
theorem dX2_countOf_4 : decode cX2_countOf 4 = .ok (.ifCond .eq 12, 3) := by decide +kernel
theorem dX2_countOf_7 : decode cX2_countOf 7 = .ok (.aload_n 0, 1) := by decide +kernel
theorem dX2_countOf_8 : decode cX2_countOf 8 = .ok (.getfield 56, 3) := by decide +kernel
theorem dX2_countOf_11 : decode cX2_countOf 11 = .ok (.iload_n 1, 1) := by decide +kernel
theorem dX2_countOf_12 : decode cX2_countOf 12 = .ok (.iaload, 1) := by decide +kernel
theorem dX2_countOf_13 : decode cX2_countOf 13 = .ok (.goto 4, 3) := by decide +kernel
theorem dX2_countOf_16 : decode cX2_countOf 16 = .ok (.iconst 0, 1) := by decide +kernel
theorem dX2_countOf_17 : decode cX2_countOf 17 = .ok (.ireturn, 1) := by decide +kernel
theorem dX2_tally_0 : decode cX2_tally 0 = .ok (.iload_n 1, 1) := by decide +kernel
theorem dX2_tally_1 : decode cX2_tally 1 = .ok (.tableswitch 51 0 3 #[31, 36, 41, 46], 31) := by decide +kernel
theorem dX2_tally_32 : decode cX2_tally 32 = .ok (.aload_n 0, 1) := by decide +kernel
theorem dX2_tally_33 : decode cX2_tally 33 = .ok (.getfield 31, 3) := by decide +kernel
theorem dX2_tally_36 : decode cX2_tally 36 = .ok (.ireturn, 1) := by decide +kernel
theorem dX2_tally_37 : decode cX2_tally 37 = .ok (.aload_n 0, 1) := by decide +kernel
theorem dX2_tally_38 : decode cX2_tally 38 = .ok (.getfield 40, 3) := by decide +kernel
theorem dX2_tally_41 : decode cX2_tally 41 = .ok (.ireturn, 1) := by decide +kernel
theorem dX2_tally_42 : decode cX2_tally 42 = .ok (.aload_n 0, 1) := by decide +kernel
theorem dX2_tally_43 : decode cX2_tally 43 = .ok (.getfield 43, 3) := by decide +kernel
theorem dX2_tally_46 : decode cX2_tally 46 = .ok (.ireturn, 1) := by decide +kernel
theorem dX2_tally_47 : decode cX2_tally 47 = .ok (.aload_n 0, 1) := by decide +kernel
theorem dX2_tally_48 : decode cX2_tally 48 = .ok (.getfield 46, 3) := by decide +kernel
theorem dX2_tally_51 : decode cX2_tally 51 = .ok (.ireturn, 1) := by decide +kernel
theorem dX2_tally_52 : decode cX2_tally 52 = .ok (.aload_n 0, 1) := by decide +kernel
theorem dX2_tally_53 : decode cX2_tally 53 = .ok (.getfield 49, 3) := by decide +kernel
theorem dX2_tally_56 : decode cX2_tally 56 = .ok (.ireturn, 1) := by decide +kernel
theorem dX2_turnedNow_0 : decode cX2_turnedNow 0 = .ok (.aload_n 0, 1) := by decide +kernel
theorem dX2_turnedNow_1 : decode cX2_turnedNow 1 = .ok (.getfield 28, 3) := by decide +kernel
theorem dX2_turnedNow_4 : decode cX2_turnedNow 4 = .ok (.aload_n 0, 1) := by decide +kernel
theorem dX2_turnedNow_5 : decode cX2_turnedNow 5 = .ok (.getfield 34, 3) := by decide +kernel
theorem dX2_turnedNow_8 : decode cX2_turnedNow 8 = .ok (.isub, 1) := by decide +kernel
theorem dX2_turnedNow_9 : decode cX2_turnedNow 9 = .ok (.iconst 0, 1) := by decide +kernel
theorem dX2_turnedNow_10 : decode cX2_turnedNow 10 = .ok (.invokestatic 115, 3) := by decide +kernel
theorem dX2_turnedNow_13 : decode cX2_turnedNow 13 = .ok (.ireturn, 1) := by decide +kernel
theorem dX2_back_0 : decode cX2_back 0 = .ok (.aload_n 0, 1) := by decide +kernel
theorem dX2_back_1 : decode cX2_back 1 = .ok (.aload_n 0, 1) := by decide +kernel
theorem dX2_back_2 : decode cX2_back 2 = .ok (.getfield 28, 3) := by decide +kernel
theorem dX2_back_5 : decode cX2_back 5 = .ok (.iconst 1, 1) := by decide +kernel
theorem dX2_back_6 : decode cX2_back 6 = .ok (.isub, 1) := by decide +kernel
theorem dX2_back_7 : decode cX2_back 7 = .ok (.invokevirtual 120, 3) := by decide +kernel
theorem dX2_back_10 : decode cX2_back 10 = .ok (.ifCond .eq 17, 3) := by decide +kernel
theorem dX2_back_13 : decode cX2_back 13 = .ok (.aload_n 0, 1) := by decide +kernel
theorem dX2_back_14 : decode cX2_back 14 = .ok (.getfield 52, 3) := by decide +kernel
theorem dX2_back_17 : decode cX2_back 17 = .ok (.aload_n 0, 1) := by decide +kernel
theorem dX2_back_18 : decode cX2_back 18 = .ok (.getfield 28, 3) := by decide +kernel
theorem dX2_back_21 : decode cX2_back 21 = .ok (.iconst 1, 1) := by decide +kernel
theorem dX2_back_22 : decode cX2_back 22 = .ok (.isub, 1) := by decide +kernel
theorem dX2_back_23 : decode cX2_back 23 = .ok (.iaload, 1) := by decide +kernel
theorem dX2_back_24 : decode cX2_back 24 = .ok (.goto 5, 3) := by decide +kernel
theorem dX2_back_27 : decode cX2_back 27 = .ok (.bipush (-5), 2) := by decide +kernel
theorem dX2_back_29 : decode cX2_back 29 = .ok (.ireturn, 1) := by decide +kernel
theorem dX2_hasTurned_0 : decode cX2_hasTurned 0 = .ok (.aload_n 0, 1) := by decide +kernel
theorem dX2_hasTurned_1 : decode cX2_hasTurned 1 = .ok (.aload_n 0, 1) := by decide +kernel
theorem dX2_hasTurned_2 : decode cX2_hasTurned 2 = .ok (.iload_n 1, 1) := by decide +kernel
theorem dX2_hasTurned_3 : decode cX2_hasTurned 3 = .ok (.invokevirtual 124, 3) := by decide +kernel
theorem dX2_hasTurned_6 : decode cX2_hasTurned 6 = .ok (.invokevirtual 120, 3) := by decide +kernel
theorem dX2_hasTurned_9 : decode cX2_hasTurned 9 = .ok (.ireturn, 1) := by decide +kernel
theorem dX2_isTurned_0 : decode cX2_isTurned 0 = .ok (.aload_n 0, 1) := by decide +kernel
theorem dX2_isTurned_1 : decode cX2_isTurned 1 = .ok (.iload_n 1, 1) := by decide +kernel
theorem dX2_isTurned_2 : decode cX2_isTurned 2 = .ok (.invokevirtual 127, 3) := by decide +kernel
theorem dX2_isTurned_5 : decode cX2_isTurned 5 = .ok (.ifCond .eq 16, 3) := by decide +kernel
theorem dX2_isTurned_8 : decode cX2_isTurned 8 = .ok (.aload_n 0, 1) := by decide +kernel
theorem dX2_isTurned_9 : decode cX2_isTurned 9 = .ok (.iload_n 1, 1) := by decide +kernel
theorem dX2_isTurned_10 : decode cX2_isTurned 10 = .ok (.invokevirtual 69, 3) := by decide +kernel
theorem dX2_isTurned_13 : decode cX2_isTurned 13 = .ok (.iload_n 2, 1) := by decide +kernel
theorem dX2_isTurned_14 : decode cX2_isTurned 14 = .ok (.if_icmp .ne 7, 3) := by decide +kernel
theorem dX2_isTurned_17 : decode cX2_isTurned 17 = .ok (.iconst 1, 1) := by decide +kernel
theorem dX2_isTurned_18 : decode cX2_isTurned 18 = .ok (.goto 4, 3) := by decide +kernel
theorem dX2_isTurned_21 : decode cX2_isTurned 21 = .ok (.iconst 0, 1) := by decide +kernel
theorem dX2_isTurned_22 : decode cX2_isTurned 22 = .ok (.ireturn, 1) := by decide +kernel
theorem dX2_backFrom_0 : decode cX2_backFrom 0 = .ok (.aload_n 0, 1) := by decide +kernel
theorem dX2_backFrom_1 : decode cX2_backFrom 1 = .ok (.iload_n 1, 1) := by decide +kernel
theorem dX2_backFrom_2 : decode cX2_backFrom 2 = .ok (.invokevirtual 124, 3) := by decide +kernel
theorem dX2_backFrom_5 : decode cX2_backFrom 5 = .ok (.istore_n 2, 1) := by decide +kernel
theorem dX2_backFrom_6 : decode cX2_backFrom 6 = .ok (.aload_n 0, 1) := by decide +kernel
theorem dX2_backFrom_7 : decode cX2_backFrom 7 = .ok (.iload_n 2, 1) := by decide +kernel
theorem dX2_backFrom_8 : decode cX2_backFrom 8 = .ok (.iconst 1, 1) := by decide +kernel
theorem dX2_backFrom_9 : decode cX2_backFrom 9 = .ok (.isub, 1) := by decide +kernel
theorem dX2_backFrom_10 : decode cX2_backFrom 10 = .ok (.invokevirtual 120, 3) := by decide +kernel
theorem dX2_backFrom_13 : decode cX2_backFrom 13 = .ok (.ifCond .eq 14, 3) := by decide +kernel
theorem dX2_backFrom_16 : decode cX2_backFrom 16 = .ok (.aload_n 0, 1) := by decide +kernel
theorem dX2_backFrom_17 : decode cX2_backFrom 17 = .ok (.getfield 52, 3) := by decide +kernel
theorem dX2_backFrom_20 : decode cX2_backFrom 20 = .ok (.iload_n 2, 1) := by decide +kernel
theorem dX2_backFrom_21 : decode cX2_backFrom 21 = .ok (.iconst 1, 1) := by decide +kernel
theorem dX2_backFrom_22 : decode cX2_backFrom 22 = .ok (.isub, 1) := by decide +kernel
theorem dX2_backFrom_23 : decode cX2_backFrom 23 = .ok (.iaload, 1) := by decide +kernel
theorem dX2_backFrom_24 : decode cX2_backFrom 24 = .ok (.goto 5, 3) := by decide +kernel
theorem dX2_backFrom_27 : decode cX2_backFrom 27 = .ok (.bipush (-5), 2) := by decide +kernel
theorem dX2_backFrom_29 : decode cX2_backFrom 29 = .ok (.ireturn, 1) := by decide +kernel
theorem dX2_turnedAt_0 : decode cX2_turnedAt 0 = .ok (.iload_n 1, 1) := by decide +kernel
theorem dX2_turnedAt_1 : decode cX2_turnedAt 1 = .ok (.ifCond .lt 29, 3) := by decide +kernel
theorem dX2_turnedAt_4 : decode cX2_turnedAt 4 = .ok (.iload_n 1, 1) := by decide +kernel
theorem dX2_turnedAt_5 : decode cX2_turnedAt 5 = .ok (.aload_n 0, 1) := by decide +kernel
theorem dX2_turnedAt_6 : decode cX2_turnedAt 6 = .ok (.getfield 34, 3) := by decide +kernel
theorem dX2_turnedAt_9 : decode cX2_turnedAt 9 = .ok (.if_icmp .lt 21, 3) := by decide +kernel
theorem dX2_turnedAt_12 : decode cX2_turnedAt 12 = .ok (.iload_n 1, 1) := by decide +kernel
theorem dX2_turnedAt_13 : decode cX2_turnedAt 13 = .ok (.aload_n 0, 1) := by decide +kernel
theorem dX2_turnedAt_14 : decode cX2_turnedAt 14 = .ok (.getfield 28, 3) := by decide +kernel
theorem dX2_turnedAt_17 : decode cX2_turnedAt 17 = .ok (.if_icmp .ge 13, 3) := by decide +kernel
theorem dX2_turnedAt_20 : decode cX2_turnedAt 20 = .ok (.iload_n 1, 1) := by decide +kernel
theorem dX2_turnedAt_21 : decode cX2_turnedAt 21 = .ok (.bipush 24, 2) := by decide +kernel
theorem dX2_turnedAt_23 : decode cX2_turnedAt 23 = .ok (.if_icmp .ge 7, 3) := by decide +kernel
theorem dX2_turnedAt_26 : decode cX2_turnedAt 26 = .ok (.iconst 1, 1) := by decide +kernel
theorem dX2_turnedAt_27 : decode cX2_turnedAt 27 = .ok (.goto 4, 3) := by decide +kernel
theorem dX2_turnedAt_30 : decode cX2_turnedAt 30 = .ok (.iconst 0, 1) := by decide +kernel
theorem dX2_turnedAt_31 : decode cX2_turnedAt 31 = .ok (.ireturn, 1) := by decide +kernel
theorem dX2_placeOf_0 : decode cX2_placeOf 0 = .ok (.iconst 0, 1) := by decide +kernel
theorem dX2_placeOf_1 : decode cX2_placeOf 1 = .ok (.istore_n 2, 1) := by decide +kernel
theorem dX2_placeOf_2 : decode cX2_placeOf 2 = .ok (.iload_n 2, 1) := by decide +kernel
theorem dX2_placeOf_3 : decode cX2_placeOf 3 = .ok (.aload_n 0, 1) := by decide +kernel
theorem dX2_placeOf_4 : decode cX2_placeOf 4 = .ok (.getfield 28, 3) := by decide +kernel
theorem dX2_placeOf_7 : decode cX2_placeOf 7 = .ok (.if_icmp .ge 27, 3) := by decide +kernel
theorem dX2_placeOf_10 : decode cX2_placeOf 10 = .ok (.iload_n 2, 1) := by decide +kernel
theorem dX2_placeOf_11 : decode cX2_placeOf 11 = .ok (.bipush 24, 2) := by decide +kernel
theorem dX2_placeOf_13 : decode cX2_placeOf 13 = .ok (.if_icmp .ge 21, 3) := by decide +kernel
theorem dX2_placeOf_16 : decode cX2_placeOf 16 = .ok (.aload_n 0, 1) := by decide +kernel
theorem dX2_placeOf_17 : decode cX2_placeOf 17 = .ok (.getfield 52, 3) := by decide +kernel
theorem dX2_placeOf_20 : decode cX2_placeOf 20 = .ok (.iload_n 2, 1) := by decide +kernel
theorem dX2_placeOf_21 : decode cX2_placeOf 21 = .ok (.iaload, 1) := by decide +kernel
theorem dX2_placeOf_22 : decode cX2_placeOf 22 = .ok (.iload_n 1, 1) := by decide +kernel
theorem dX2_placeOf_23 : decode cX2_placeOf 23 = .ok (.if_icmp .ne 5, 3) := by decide +kernel
theorem dX2_placeOf_26 : decode cX2_placeOf 26 = .ok (.iload_n 2, 1) := by decide +kernel
theorem dX2_placeOf_27 : decode cX2_placeOf 27 = .ok (.ireturn, 1) := by decide +kernel
theorem dX2_placeOf_28 : decode cX2_placeOf 28 = .ok (.iinc 2 1, 3) := by decide +kernel
theorem dX2_placeOf_31 : decode cX2_placeOf 31 = .ok (.goto (-29), 3) := by decide +kernel
theorem dX2_placeOf_34 : decode cX2_placeOf 34 = .ok (.iconst (-1), 1) := by decide +kernel
theorem dX2_placeOf_35 : decode cX2_placeOf 35 = .ok (.ireturn, 1) := by decide +kernel
theorem dX3_init_0 : decode cX3_init 0 = .ok (.aload_n 0, 1) := by decide +kernel
theorem dX3_init_1 : decode cX3_init 1 = .ok (.invokespecial 3, 3) := by decide +kernel
theorem dX3_init_4 : decode cX3_init 4 = .ok (.aload_n 0, 1) := by decide +kernel
theorem dX3_init_5 : decode cX3_init 5 = .ok (.iconst 0, 1) := by decide +kernel
theorem dX3_init_6 : decode cX3_init 6 = .ok (.putfield 9, 3) := by decide +kernel
theorem dX3_init_9 : decode cX3_init 9 = .ok (.aload_n 0, 1) := by decide +kernel
theorem dX3_init_10 : decode cX3_init 10 = .ok (.bipush 30, 2) := by decide +kernel
theorem dX3_init_12 : decode cX3_init 12 = .ok (.newarray .int, 2) := by decide +kernel
theorem dX3_init_14 : decode cX3_init 14 = .ok (.putfield 15, 3) := by decide +kernel
theorem dX3_init_17 : decode cX3_init 17 = .ok (.return_, 1) := by decide +kernel
theorem dX3_copyFrom_0 : decode cX3_copyFrom 0 = .ok (.aload_n 0, 1) := by decide +kernel
theorem dX3_copyFrom_1 : decode cX3_copyFrom 1 = .ok (.aload_n 1, 1) := by decide +kernel
theorem dX3_copyFrom_2 : decode cX3_copyFrom 2 = .ok (.getfield 9, 3) := by decide +kernel
theorem dX3_copyFrom_5 : decode cX3_copyFrom 5 = .ok (.putfield 9, 3) := by decide +kernel
theorem dX3_copyFrom_8 : decode cX3_copyFrom 8 = .ok (.aload_n 1, 1) := by decide +kernel
theorem dX3_copyFrom_9 : decode cX3_copyFrom 9 = .ok (.getfield 15, 3) := by decide +kernel
theorem dX3_copyFrom_12 : decode cX3_copyFrom 12 = .ok (.iconst 0, 1) := by decide +kernel
theorem dX3_copyFrom_13 : decode cX3_copyFrom 13 = .ok (.aload_n 0, 1) := by decide +kernel
theorem dX3_copyFrom_14 : decode cX3_copyFrom 14 = .ok (.getfield 15, 3) := by decide +kernel
theorem dX3_copyFrom_17 : decode cX3_copyFrom 17 = .ok (.iconst 0, 1) := by decide +kernel
theorem dX3_copyFrom_18 : decode cX3_copyFrom 18 = .ok (.bipush 30, 2) := by decide +kernel
theorem dX3_copyFrom_20 : decode cX3_copyFrom 20 = .ok (.invokestatic 19, 3) := by decide +kernel
theorem dX3_copyFrom_23 : decode cX3_copyFrom 23 = .ok (.return_, 1) := by decide +kernel
theorem dX3_clear_0 : decode cX3_clear 0 = .ok (.aload_n 0, 1) := by decide +kernel
theorem dX3_clear_1 : decode cX3_clear 1 = .ok (.iconst 0, 1) := by decide +kernel
theorem dX3_clear_2 : decode cX3_clear 2 = .ok (.putfield 9, 3) := by decide +kernel
theorem dX3_clear_5 : decode cX3_clear 5 = .ok (.aload_n 0, 1) := by decide +kernel
theorem dX3_clear_6 : decode cX3_clear 6 = .ok (.getfield 9, 3) := by decide +kernel
theorem dX3_clear_9 : decode cX3_clear 9 = .ok (.ireturn, 1) := by decide +kernel
theorem dX3_add_0 : decode cX3_add 0 = .ok (.aload_n 0, 1) := by decide +kernel
theorem dX3_add_1 : decode cX3_add 1 = .ok (.getfield 9, 3) := by decide +kernel
theorem dX3_add_4 : decode cX3_add 4 = .ok (.ifCond .lt 62, 3) := by decide +kernel
theorem dX3_add_7 : decode cX3_add 7 = .ok (.aload_n 0, 1) := by decide +kernel
theorem dX3_add_8 : decode cX3_add 8 = .ok (.getfield 9, 3) := by decide +kernel
theorem dX3_add_11 : decode cX3_add 11 = .ok (.bipush 10, 2) := by decide +kernel
theorem dX3_add_13 : decode cX3_add 13 = .ok (.if_icmp .ge 53, 3) := by decide +kernel
theorem dX3_add_16 : decode cX3_add 16 = .ok (.aload_n 0, 1) := by decide +kernel
theorem dX3_add_17 : decode cX3_add 17 = .ok (.getfield 15, 3) := by decide +kernel
theorem dX3_add_20 : decode cX3_add 20 = .ok (.aload_n 0, 1) := by decide +kernel
theorem dX3_add_21 : decode cX3_add 21 = .ok (.getfield 9, 3) := by decide +kernel
theorem dX3_add_24 : decode cX3_add 24 = .ok (.iconst 3, 1) := by decide +kernel
theorem dX3_add_25 : decode cX3_add 25 = .ok (.imul, 1) := by decide +kernel
theorem dX3_add_26 : decode cX3_add 26 = .ok (.iload_n 1, 1) := by decide +kernel
theorem dX3_add_27 : decode cX3_add 27 = .ok (.iastore, 1) := by decide +kernel
theorem dX3_add_28 : decode cX3_add 28 = .ok (.aload_n 0, 1) := by decide +kernel
theorem dX3_add_29 : decode cX3_add 29 = .ok (.getfield 15, 3) := by decide +kernel
theorem dX3_add_32 : decode cX3_add 32 = .ok (.aload_n 0, 1) := by decide +kernel
theorem dX3_add_33 : decode cX3_add 33 = .ok (.getfield 9, 3) := by decide +kernel
theorem dX3_add_36 : decode cX3_add 36 = .ok (.iconst 3, 1) := by decide +kernel
theorem dX3_add_37 : decode cX3_add 37 = .ok (.imul, 1) := by decide +kernel
theorem dX3_add_38 : decode cX3_add 38 = .ok (.iconst 1, 1) := by decide +kernel
theorem dX3_add_39 : decode cX3_add 39 = .ok (.iadd, 1) := by decide +kernel
theorem dX3_add_40 : decode cX3_add 40 = .ok (.iload_n 2, 1) := by decide +kernel
theorem dX3_add_41 : decode cX3_add 41 = .ok (.iastore, 1) := by decide +kernel
theorem dX3_add_42 : decode cX3_add 42 = .ok (.aload_n 0, 1) := by decide +kernel
theorem dX3_add_43 : decode cX3_add 43 = .ok (.getfield 15, 3) := by decide +kernel
theorem dX3_add_46 : decode cX3_add 46 = .ok (.aload_n 0, 1) := by decide +kernel
theorem dX3_add_47 : decode cX3_add 47 = .ok (.getfield 9, 3) := by decide +kernel
theorem dX3_add_50 : decode cX3_add 50 = .ok (.iconst 3, 1) := by decide +kernel
theorem dX3_add_51 : decode cX3_add 51 = .ok (.imul, 1) := by decide +kernel
theorem dX3_add_52 : decode cX3_add 52 = .ok (.iconst 2, 1) := by decide +kernel
theorem dX3_add_53 : decode cX3_add 53 = .ok (.iadd, 1) := by decide +kernel
theorem dX3_add_54 : decode cX3_add 54 = .ok (.iload_n 3, 1) := by decide +kernel
theorem dX3_add_55 : decode cX3_add 55 = .ok (.iastore, 1) := by decide +kernel
theorem dX3_add_56 : decode cX3_add 56 = .ok (.aload_n 0, 1) := by decide +kernel
theorem dX3_add_57 : decode cX3_add 57 = .ok (.dup, 1) := by decide +kernel
theorem dX3_add_58 : decode cX3_add 58 = .ok (.getfield 9, 3) := by decide +kernel
theorem dX3_add_61 : decode cX3_add 61 = .ok (.iconst 1, 1) := by decide +kernel
theorem dX3_add_62 : decode cX3_add 62 = .ok (.iadd, 1) := by decide +kernel
theorem dX3_add_63 : decode cX3_add 63 = .ok (.putfield 9, 3) := by decide +kernel
theorem dX3_add_66 : decode cX3_add 66 = .ok (.aload_n 0, 1) := by decide +kernel
theorem dX3_add_67 : decode cX3_add 67 = .ok (.getfield 9, 3) := by decide +kernel
theorem dX3_add_70 : decode cX3_add 70 = .ok (.ireturn, 1) := by decide +kernel
theorem dX3_number_0 : decode cX3_number 0 = .ok (.iload_n 1, 1) := by decide +kernel
theorem dX3_number_1 : decode cX3_number 1 = .ok (.ifCond .lt 30, 3) := by decide +kernel
theorem dX3_number_4 : decode cX3_number 4 = .ok (.iload_n 1, 1) := by decide +kernel
theorem dX3_number_5 : decode cX3_number 5 = .ok (.aload_n 0, 1) := by decide +kernel
theorem dX3_number_6 : decode cX3_number 6 = .ok (.getfield 9, 3) := by decide +kernel
theorem dX3_number_9 : decode cX3_number 9 = .ok (.if_icmp .ge 22, 3) := by decide +kernel
theorem dX3_number_12 : decode cX3_number 12 = .ok (.iload_n 1, 1) := by decide +kernel
theorem dX3_number_13 : decode cX3_number 13 = .ok (.bipush 10, 2) := by decide +kernel
theorem dX3_number_15 : decode cX3_number 15 = .ok (.if_icmp .ge 16, 3) := by decide +kernel
theorem dX3_number_18 : decode cX3_number 18 = .ok (.iload_n 2, 1) := by decide +kernel
theorem dX3_number_19 : decode cX3_number 19 = .ok (.ifCond .lt 12, 3) := by decide +kernel
theorem dX3_number_22 : decode cX3_number 22 = .ok (.iload_n 2, 1) := by decide +kernel
theorem dX3_number_23 : decode cX3_number 23 = .ok (.iconst 3, 1) := by decide +kernel
theorem dX3_number_24 : decode cX3_number 24 = .ok (.if_icmp .ge 7, 3) := by decide +kernel
theorem dX3_number_27 : decode cX3_number 27 = .ok (.iconst 1, 1) := by decide +kernel
theorem dX3_number_28 : decode cX3_number 28 = .ok (.goto 4, 3) := by decide +kernel
theorem dX3_number_31 : decode cX3_number 31 = .ok (.iconst 0, 1) := by decide +kernel
theorem dX3_number_32 : decode cX3_number 32 = .ok (.istore_n 3, 1) := by decide +kernel
theorem dX3_number_33 : decode cX3_number 33 = .ok (.iload_n 3, 1) := by decide +kernel
theorem dX3_number_34 : decode cX3_number 34 = .ok (.ifCond .eq 16, 3) := by decide +kernel
theorem dX3_number_37 : decode cX3_number 37 = .ok (.aload_n 0, 1) := by decide +kernel
theorem dX3_number_38 : decode cX3_number 38 = .ok (.getfield 15, 3) := by decide +kernel
theorem dX3_number_41 : decode cX3_number 41 = .ok (.iload_n 1, 1) := by decide +kernel
theorem dX3_number_42 : decode cX3_number 42 = .ok (.iconst 3, 1) := by decide +kernel
theorem dX3_number_43 : decode cX3_number 43 = .ok (.imul, 1) := by decide +kernel
theorem dX3_number_44 : decode cX3_number 44 = .ok (.iload_n 2, 1) := by decide +kernel
theorem dX3_number_45 : decode cX3_number 45 = .ok (.iadd, 1) := by decide +kernel
theorem dX3_number_46 : decode cX3_number 46 = .ok (.iaload, 1) := by decide +kernel
theorem dX3_number_47 : decode cX3_number 47 = .ok (.goto 5, 3) := by decide +kernel
theorem dX3_number_50 : decode cX3_number 50 = .ok (.bipush (-5), 2) := by decide +kernel
theorem dX3_number_52 : decode cX3_number 52 = .ok (.ireturn, 1) := by decide +kernel
theorem dX4_init_0 : decode cX4_init 0 = .ok (.aload_n 0, 1) := by decide +kernel
theorem dX4_init_1 : decode cX4_init 1 = .ok (.invokespecial 1, 3) := by decide +kernel
theorem dX4_init_4 : decode cX4_init 4 = .ok (.aload_n 0, 1) := by decide +kernel
theorem dX4_init_5 : decode cX4_init 5 = .ok (.new 7, 3) := by decide +kernel
theorem dX4_init_8 : decode cX4_init 8 = .ok (.dup, 1) := by decide +kernel
theorem dX4_init_9 : decode cX4_init 9 = .ok (.invokespecial 9, 3) := by decide +kernel
theorem dX4_init_12 : decode cX4_init 12 = .ok (.putfield 10, 3) := by decide +kernel
theorem dX4_init_15 : decode cX4_init 15 = .ok (.aload_n 0, 1) := by decide +kernel
theorem dX4_init_16 : decode cX4_init 16 = .ok (.new 16, 3) := by decide +kernel
theorem dX4_init_19 : decode cX4_init 19 = .ok (.dup, 1) := by decide +kernel
theorem dX4_init_20 : decode cX4_init 20 = .ok (.invokespecial 18, 3) := by decide +kernel
theorem dX4_init_23 : decode cX4_init 23 = .ok (.putfield 19, 3) := by decide +kernel
theorem dX4_init_26 : decode cX4_init 26 = .ok (.aload_n 0, 1) := by decide +kernel
theorem dX4_init_27 : decode cX4_init 27 = .ok (.new 23, 3) := by decide +kernel
theorem dX4_init_30 : decode cX4_init 30 = .ok (.dup, 1) := by decide +kernel
theorem dX4_init_31 : decode cX4_init 31 = .ok (.invokespecial 25, 3) := by decide +kernel
theorem dX4_init_34 : decode cX4_init 34 = .ok (.putfield 26, 3) := by decide +kernel
theorem dX4_init_37 : decode cX4_init 37 = .ok (.aload_n 0, 1) := by decide +kernel
theorem dX4_init_38 : decode cX4_init 38 = .ok (.new 23, 3) := by decide +kernel
theorem dX4_init_41 : decode cX4_init 41 = .ok (.dup, 1) := by decide +kernel
theorem dX4_init_42 : decode cX4_init 42 = .ok (.invokespecial 25, 3) := by decide +kernel
theorem dX4_init_45 : decode cX4_init 45 = .ok (.putfield 30, 3) := by decide +kernel
theorem dX4_init_48 : decode cX4_init 48 = .ok (.aload_n 0, 1) := by decide +kernel
theorem dX4_init_49 : decode cX4_init 49 = .ok (.new 23, 3) := by decide +kernel
theorem dX4_init_52 : decode cX4_init 52 = .ok (.dup, 1) := by decide +kernel
theorem dX4_init_53 : decode cX4_init 53 = .ok (.invokespecial 25, 3) := by decide +kernel
theorem dX4_init_56 : decode cX4_init 56 = .ok (.putfield 33, 3) := by decide +kernel
theorem dX4_init_59 : decode cX4_init 59 = .ok (.return_, 1) := by decide +kernel
theorem dX4_copyFrom_0 : decode cX4_copyFrom 0 = .ok (.aload_n 0, 1) := by decide +kernel
theorem dX4_copyFrom_1 : decode cX4_copyFrom 1 = .ok (.getfield 10, 3) := by decide +kernel
theorem dX4_copyFrom_4 : decode cX4_copyFrom 4 = .ok (.aload_n 1, 1) := by decide +kernel
theorem dX4_copyFrom_5 : decode cX4_copyFrom 5 = .ok (.getfield 10, 3) := by decide +kernel
theorem dX4_copyFrom_8 : decode cX4_copyFrom 8 = .ok (.invokevirtual 36, 3) := by decide +kernel
theorem dX4_copyFrom_11 : decode cX4_copyFrom 11 = .ok (.aload_n 0, 1) := by decide +kernel
theorem dX4_copyFrom_12 : decode cX4_copyFrom 12 = .ok (.getfield 19, 3) := by decide +kernel
theorem dX4_copyFrom_15 : decode cX4_copyFrom 15 = .ok (.aload_n 1, 1) := by decide +kernel
theorem dX4_copyFrom_16 : decode cX4_copyFrom 16 = .ok (.getfield 19, 3) := by decide +kernel
theorem dX4_copyFrom_19 : decode cX4_copyFrom 19 = .ok (.invokevirtual 40, 3) := by decide +kernel
theorem dX4_copyFrom_22 : decode cX4_copyFrom 22 = .ok (.aload_n 0, 1) := by decide +kernel
theorem dX4_copyFrom_23 : decode cX4_copyFrom 23 = .ok (.getfield 26, 3) := by decide +kernel
theorem dX4_copyFrom_26 : decode cX4_copyFrom 26 = .ok (.aload_n 1, 1) := by decide +kernel
theorem dX4_copyFrom_27 : decode cX4_copyFrom 27 = .ok (.getfield 26, 3) := by decide +kernel
theorem dX4_copyFrom_30 : decode cX4_copyFrom 30 = .ok (.invokevirtual 43, 3) := by decide +kernel
theorem dX4_copyFrom_33 : decode cX4_copyFrom 33 = .ok (.aload_n 0, 1) := by decide +kernel
theorem dX4_copyFrom_34 : decode cX4_copyFrom 34 = .ok (.getfield 30, 3) := by decide +kernel
theorem dX4_copyFrom_37 : decode cX4_copyFrom 37 = .ok (.aload_n 1, 1) := by decide +kernel
theorem dX4_copyFrom_38 : decode cX4_copyFrom 38 = .ok (.getfield 30, 3) := by decide +kernel
theorem dX4_copyFrom_41 : decode cX4_copyFrom 41 = .ok (.invokevirtual 43, 3) := by decide +kernel
theorem dX4_copyFrom_44 : decode cX4_copyFrom 44 = .ok (.aload_n 0, 1) := by decide +kernel
theorem dX4_copyFrom_45 : decode cX4_copyFrom 45 = .ok (.getfield 33, 3) := by decide +kernel
theorem dX4_copyFrom_48 : decode cX4_copyFrom 48 = .ok (.aload_n 1, 1) := by decide +kernel
theorem dX4_copyFrom_49 : decode cX4_copyFrom 49 = .ok (.getfield 33, 3) := by decide +kernel
theorem dX4_copyFrom_52 : decode cX4_copyFrom 52 = .ok (.invokevirtual 43, 3) := by decide +kernel
theorem dX4_copyFrom_55 : decode cX4_copyFrom 55 = .ok (.return_, 1) := by decide +kernel
theorem dX5_init_0 : decode cX5_init 0 = .ok (.aload_n 0, 1) := by decide +kernel
theorem dX5_init_1 : decode cX5_init 1 = .ok (.invokespecial 3, 3) := by decide +kernel
theorem dX5_init_4 : decode cX5_init 4 = .ok (.aload_n 0, 1) := by decide +kernel
theorem dX5_init_5 : decode cX5_init 5 = .ok (.bipush 6, 2) := by decide +kernel
theorem dX5_init_7 : decode cX5_init 7 = .ok (.newarray .int, 2) := by decide +kernel
theorem dX5_init_9 : decode cX5_init 9 = .ok (.putfield 9, 3) := by decide +kernel
theorem dX5_init_12 : decode cX5_init 12 = .ok (.aload_n 0, 1) := by decide +kernel
theorem dX5_init_13 : decode cX5_init 13 = .ok (.bipush 6, 2) := by decide +kernel
theorem dX5_init_15 : decode cX5_init 15 = .ok (.newarray .int, 2) := by decide +kernel
theorem dX5_init_17 : decode cX5_init 17 = .ok (.putfield 15, 3) := by decide +kernel
theorem dX5_init_20 : decode cX5_init 20 = .ok (.aload_n 0, 1) := by decide +kernel
theorem dX5_init_21 : decode cX5_init 21 = .ok (.sipush 360, 3) := by decide +kernel
theorem dX5_init_24 : decode cX5_init 24 = .ok (.newarray .long, 2) := by decide +kernel
theorem dX5_init_26 : decode cX5_init 26 = .ok (.putfield 18, 3) := by decide +kernel
theorem dX5_init_29 : decode cX5_init 29 = .ok (.aload_n 0, 1) := by decide +kernel
theorem dX5_init_30 : decode cX5_init 30 = .ok (.getfield 9, 3) := by decide +kernel
theorem dX5_init_33 : decode cX5_init 33 = .ok (.bipush (-5), 2) := by decide +kernel
theorem dX5_init_35 : decode cX5_init 35 = .ok (.invokestatic 22, 3) := by decide +kernel
theorem dX5_init_38 : decode cX5_init 38 = .ok (.return_, 1) := by decide +kernel
theorem dX5_sortOf_0 : decode cX5_sortOf 0 = .ok (.iload_n 1, 1) := by decide +kernel
theorem dX5_sortOf_1 : decode cX5_sortOf 1 = .ok (.invokestatic 28, 3) := by decide +kernel
theorem dX5_sortOf_4 : decode cX5_sortOf 4 = .ok (.ifCond .eq 12, 3) := by decide +kernel
theorem dX5_sortOf_7 : decode cX5_sortOf 7 = .ok (.aload_n 0, 1) := by decide +kernel
theorem dX5_sortOf_8 : decode cX5_sortOf 8 = .ok (.getfield 9, 3) := by decide +kernel
theorem dX5_sortOf_11 : decode cX5_sortOf 11 = .ok (.iload_n 1, 1) := by decide +kernel
theorem dX5_sortOf_12 : decode cX5_sortOf 12 = .ok (.iaload, 1) := by decide +kernel
theorem dX5_sortOf_13 : decode cX5_sortOf 13 = .ok (.goto 5, 3) := by decide +kernel
theorem dX5_sortOf_16 : decode cX5_sortOf 16 = .ok (.bipush (-5), 2) := by decide +kernel
theorem dX5_sortOf_18 : decode cX5_sortOf 18 = .ok (.ireturn, 1) := by decide +kernel
theorem dX5_isPlace_0 : decode cX5_isPlace 0 = .ok (.iload_n 1, 1) := by decide +kernel
theorem dX5_isPlace_1 : decode cX5_isPlace 1 = .ok (.invokestatic 28, 3) := by decide +kernel
theorem dX5_isPlace_4 : decode cX5_isPlace 4 = .ok (.ifCond .eq 21, 3) := by decide +kernel
theorem dX5_isPlace_7 : decode cX5_isPlace 7 = .ok (.iload_n 2, 1) := by decide +kernel
theorem dX5_isPlace_8 : decode cX5_isPlace 8 = .ok (.ifCond .lt 17, 3) := by decide +kernel
theorem dX5_isPlace_11 : decode cX5_isPlace 11 = .ok (.iload_n 2, 1) := by decide +kernel
theorem dX5_isPlace_12 : decode cX5_isPlace 12 = .ok (.aload_n 0, 1) := by decide +kernel
theorem dX5_isPlace_13 : decode cX5_isPlace 13 = .ok (.getfield 15, 3) := by decide +kernel
theorem dX5_isPlace_16 : decode cX5_isPlace 16 = .ok (.iload_n 1, 1) := by decide +kernel
theorem dX5_isPlace_17 : decode cX5_isPlace 17 = .ok (.iaload, 1) := by decide +kernel
theorem dX5_isPlace_18 : decode cX5_isPlace 18 = .ok (.if_icmp .ge 7, 3) := by decide +kernel
theorem dX5_isPlace_21 : decode cX5_isPlace 21 = .ok (.iconst 1, 1) := by decide +kernel
theorem dX5_isPlace_22 : decode cX5_isPlace 22 = .ok (.goto 4, 3) := by decide +kernel
theorem dX5_isPlace_25 : decode cX5_isPlace 25 = .ok (.iconst 0, 1) := by decide +kernel
theorem dX5_isPlace_26 : decode cX5_isPlace 26 = .ok (.ireturn, 1) := by decide +kernel
theorem dX5_isSpan_0 : decode cX5_isSpan 0 = .ok (.iload_n 1, 1) := by decide +kernel
theorem dX5_isSpan_1 : decode cX5_isSpan 1 = .ok (.invokestatic 28, 3) := by decide +kernel
theorem dX5_isSpan_4 : decode cX5_isSpan 4 = .ok (.ifCond .eq 37, 3) := by decide +kernel
theorem dX5_isSpan_7 : decode cX5_isSpan 7 = .ok (.iload_n 3, 1) := by decide +kernel
theorem dX5_isSpan_8 : decode cX5_isSpan 8 = .ok (.ifCond .lt 33, 3) := by decide +kernel
theorem dX5_isSpan_11 : decode cX5_isSpan 11 = .ok (.iload_n 2, 1) := by decide +kernel
theorem dX5_isSpan_12 : decode cX5_isSpan 12 = .ok (.ifCond .lt 29, 3) := by decide +kernel
theorem dX5_isSpan_15 : decode cX5_isSpan 15 = .ok (.iload_n 2, 1) := by decide +kernel
theorem dX5_isSpan_16 : decode cX5_isSpan 16 = .ok (.aload_n 0, 1) := by decide +kernel
theorem dX5_isSpan_17 : decode cX5_isSpan 17 = .ok (.getfield 15, 3) := by decide +kernel
theorem dX5_isSpan_20 : decode cX5_isSpan 20 = .ok (.iload_n 1, 1) := by decide +kernel
theorem dX5_isSpan_21 : decode cX5_isSpan 21 = .ok (.iaload, 1) := by decide +kernel
theorem dX5_isSpan_22 : decode cX5_isSpan 22 = .ok (.if_icmp .gt 19, 3) := by decide +kernel
theorem dX5_isSpan_25 : decode cX5_isSpan 25 = .ok (.iload_n 3, 1) := by decide +kernel
theorem dX5_isSpan_26 : decode cX5_isSpan 26 = .ok (.aload_n 0, 1) := by decide +kernel
theorem dX5_isSpan_27 : decode cX5_isSpan 27 = .ok (.getfield 15, 3) := by decide +kernel
theorem dX5_isSpan_30 : decode cX5_isSpan 30 = .ok (.iload_n 1, 1) := by decide +kernel
theorem dX5_isSpan_31 : decode cX5_isSpan 31 = .ok (.iaload, 1) := by decide +kernel
theorem dX5_isSpan_32 : decode cX5_isSpan 32 = .ok (.iload_n 2, 1) := by decide +kernel
theorem dX5_isSpan_33 : decode cX5_isSpan 33 = .ok (.isub, 1) := by decide +kernel
theorem dX5_isSpan_34 : decode cX5_isSpan 34 = .ok (.if_icmp .gt 7, 3) := by decide +kernel
theorem dX5_isSpan_37 : decode cX5_isSpan 37 = .ok (.iconst 1, 1) := by decide +kernel
theorem dX5_isSpan_38 : decode cX5_isSpan 38 = .ok (.goto 4, 3) := by decide +kernel
theorem dX5_isSpan_41 : decode cX5_isSpan 41 = .ok (.iconst 0, 1) := by decide +kernel
theorem dX5_isSpan_42 : decode cX5_isSpan 42 = .ok (.ireturn, 1) := by decide +kernel
theorem dX5_lay_0 : decode cX5_lay 0 = .ok (.iload_n 1, 1) := by decide +kernel
theorem dX5_lay_1 : decode cX5_lay 1 = .ok (.invokestatic 28, 3) := by decide +kernel
theorem dX5_lay_4 : decode cX5_lay 4 = .ok (.ifCond .eq 45, 3) := by decide +kernel
theorem dX5_lay_7 : decode cX5_lay 7 = .ok (.iload_n 3, 1) := by decide +kernel
theorem dX5_lay_8 : decode cX5_lay 8 = .ok (.ifCond .lt 41, 3) := by decide +kernel
theorem dX5_lay_11 : decode cX5_lay 11 = .ok (.iload_n 3, 1) := by decide +kernel
theorem dX5_lay_12 : decode cX5_lay 12 = .ok (.bipush 60, 2) := by decide +kernel
theorem dX5_lay_14 : decode cX5_lay 14 = .ok (.if_icmp .gt 35, 3) := by decide +kernel
theorem dX5_lay_17 : decode cX5_lay 17 = .ok (.aload_n 0, 1) := by decide +kernel
theorem dX5_lay_18 : decode cX5_lay 18 = .ok (.getfield 9, 3) := by decide +kernel
theorem dX5_lay_21 : decode cX5_lay 21 = .ok (.iload_n 1, 1) := by decide +kernel
theorem dX5_lay_22 : decode cX5_lay 22 = .ok (.iload_n 2, 1) := by decide +kernel
theorem dX5_lay_23 : decode cX5_lay 23 = .ok (.iastore, 1) := by decide +kernel
theorem dX5_lay_24 : decode cX5_lay 24 = .ok (.aload_n 0, 1) := by decide +kernel
theorem dX5_lay_25 : decode cX5_lay 25 = .ok (.getfield 15, 3) := by decide +kernel
theorem dX5_lay_28 : decode cX5_lay 28 = .ok (.iload_n 1, 1) := by decide +kernel
theorem dX5_lay_29 : decode cX5_lay 29 = .ok (.iload_n 3, 1) := by decide +kernel
theorem dX5_lay_30 : decode cX5_lay 30 = .ok (.iastore, 1) := by decide +kernel
theorem dX5_lay_31 : decode cX5_lay 31 = .ok (.aload_n 0, 1) := by decide +kernel
theorem dX5_lay_32 : decode cX5_lay 32 = .ok (.getfield 18, 3) := by decide +kernel
theorem dX5_lay_35 : decode cX5_lay 35 = .ok (.iload_n 1, 1) := by decide +kernel
theorem dX5_lay_36 : decode cX5_lay 36 = .ok (.bipush 60, 2) := by decide +kernel
theorem dX5_lay_38 : decode cX5_lay 38 = .ok (.imul, 1) := by decide +kernel
theorem dX5_lay_39 : decode cX5_lay 39 = .ok (.iload_n 1, 1) := by decide +kernel
theorem dX5_lay_40 : decode cX5_lay 40 = .ok (.bipush 60, 2) := by decide +kernel
theorem dX5_lay_42 : decode cX5_lay 42 = .ok (.imul, 1) := by decide +kernel
theorem dX5_lay_43 : decode cX5_lay 43 = .ok (.iload_n 3, 1) := by decide +kernel
theorem dX5_lay_44 : decode cX5_lay 44 = .ok (.iadd, 1) := by decide +kernel
theorem dX5_lay_45 : decode cX5_lay 45 = .ok (.lconst 0, 1) := by decide +kernel
theorem dX5_lay_46 : decode cX5_lay 46 = .ok (.invokestatic 32, 3) := by decide +kernel
theorem dX5_lay_49 : decode cX5_lay 49 = .ok (.return_, 1) := by decide +kernel
theorem dX5_itemAt_0 : decode cX5_itemAt 0 = .ok (.aload_n 0, 1) := by decide +kernel
theorem dX5_itemAt_1 : decode cX5_itemAt 1 = .ok (.iload_n 1, 1) := by decide +kernel
theorem dX5_itemAt_2 : decode cX5_itemAt 2 = .ok (.iload_n 2, 1) := by decide +kernel
theorem dX5_itemAt_3 : decode cX5_itemAt 3 = .ok (.invokevirtual 35, 3) := by decide +kernel
theorem dX5_itemAt_6 : decode cX5_itemAt 6 = .ok (.ifCond .eq 17, 3) := by decide +kernel
theorem dX5_itemAt_9 : decode cX5_itemAt 9 = .ok (.aload_n 0, 1) := by decide +kernel
theorem dX5_itemAt_10 : decode cX5_itemAt 10 = .ok (.getfield 18, 3) := by decide +kernel
theorem dX5_itemAt_13 : decode cX5_itemAt 13 = .ok (.iload_n 1, 1) := by decide +kernel
theorem dX5_itemAt_14 : decode cX5_itemAt 14 = .ok (.bipush 60, 2) := by decide +kernel
theorem dX5_itemAt_16 : decode cX5_itemAt 16 = .ok (.imul, 1) := by decide +kernel
theorem dX5_itemAt_17 : decode cX5_itemAt 17 = .ok (.iload_n 2, 1) := by decide +kernel
theorem dX5_itemAt_18 : decode cX5_itemAt 18 = .ok (.iadd, 1) := by decide +kernel
theorem dX5_itemAt_19 : decode cX5_itemAt 19 = .ok (.laload, 1) := by decide +kernel
theorem dX5_itemAt_20 : decode cX5_itemAt 20 = .ok (.goto 4, 3) := by decide +kernel
theorem dX5_itemAt_23 : decode cX5_itemAt 23 = .ok (.lconst 0, 1) := by decide +kernel
theorem dX5_itemAt_24 : decode cX5_itemAt 24 = .ok (.lreturn, 1) := by decide +kernel
theorem dX5_write_0 : decode cX5_write 0 = .ok (.aload_n 0, 1) := by decide +kernel
theorem dX5_write_1 : decode cX5_write 1 = .ok (.iload_n 1, 1) := by decide +kernel
theorem dX5_write_2 : decode cX5_write 2 = .ok (.iload_n 2, 1) := by decide +kernel
theorem dX5_write_3 : decode cX5_write 3 = .ok (.invokevirtual 35, 3) := by decide +kernel
theorem dX5_write_6 : decode cX5_write 6 = .ok (.ifCond .eq 24, 3) := by decide +kernel
theorem dX5_write_9 : decode cX5_write 9 = .ok (.aload_n 0, 1) := by decide +kernel
theorem dX5_write_10 : decode cX5_write 10 = .ok (.getfield 18, 3) := by decide +kernel
theorem dX5_write_13 : decode cX5_write 13 = .ok (.iload_n 1, 1) := by decide +kernel
theorem dX5_write_14 : decode cX5_write 14 = .ok (.bipush 60, 2) := by decide +kernel
theorem dX5_write_16 : decode cX5_write 16 = .ok (.imul, 1) := by decide +kernel
theorem dX5_write_17 : decode cX5_write 17 = .ok (.iload_n 2, 1) := by decide +kernel
theorem dX5_write_18 : decode cX5_write 18 = .ok (.iadd, 1) := by decide +kernel
theorem dX5_write_19 : decode cX5_write 19 = .ok (.aload_n 0, 1) := by decide +kernel
theorem dX5_write_20 : decode cX5_write 20 = .ok (.getfield 9, 3) := by decide +kernel
theorem dX5_write_23 : decode cX5_write 23 = .ok (.iload_n 1, 1) := by decide +kernel
theorem dX5_write_24 : decode cX5_write 24 = .ok (.iaload, 1) := by decide +kernel
theorem dX5_write_25 : decode cX5_write 25 = .ok (.lload_n 3, 1) := by decide +kernel
theorem dX5_write_26 : decode cX5_write 26 = .ok (.invokestatic 39, 3) := by decide +kernel
theorem dX5_write_29 : decode cX5_write 29 = .ok (.lastore, 1) := by decide +kernel
theorem dX5_write_30 : decode cX5_write 30 = .ok (.return_, 1) := by decide +kernel
theorem dX5_move_0 : decode cX5_move 0 = .ok (.aload_n 0, 1) := by decide +kernel
theorem dX5_move_1 : decode cX5_move 1 = .ok (.iload_n 1, 1) := by decide +kernel
theorem dX5_move_2 : decode cX5_move 2 = .ok (.iload_n 2, 1) := by decide +kernel
theorem dX5_move_3 : decode cX5_move 3 = .ok (.iload 5, 2) := by decide +kernel
theorem dX5_move_5 : decode cX5_move 5 = .ok (.invokevirtual 43, 3) := by decide +kernel
theorem dX5_move_8 : decode cX5_move 8 = .ok (.ifCond .eq 41, 3) := by decide +kernel
theorem dX5_move_11 : decode cX5_move 11 = .ok (.aload_n 0, 1) := by decide +kernel
theorem dX5_move_12 : decode cX5_move 12 = .ok (.iload_n 3, 1) := by decide +kernel
theorem dX5_move_13 : decode cX5_move 13 = .ok (.iload 4, 2) := by decide +kernel
theorem dX5_move_15 : decode cX5_move 15 = .ok (.iload 5, 2) := by decide +kernel
theorem dX5_move_17 : decode cX5_move 17 = .ok (.invokevirtual 43, 3) := by decide +kernel
theorem dX5_move_20 : decode cX5_move 20 = .ok (.ifCond .eq 29, 3) := by decide +kernel
theorem dX5_move_23 : decode cX5_move 23 = .ok (.aload_n 0, 1) := by decide +kernel
theorem dX5_move_24 : decode cX5_move 24 = .ok (.getfield 18, 3) := by decide +kernel
theorem dX5_move_27 : decode cX5_move 27 = .ok (.iload_n 1, 1) := by decide +kernel
theorem dX5_move_28 : decode cX5_move 28 = .ok (.bipush 60, 2) := by decide +kernel
theorem dX5_move_30 : decode cX5_move 30 = .ok (.imul, 1) := by decide +kernel
theorem dX5_move_31 : decode cX5_move 31 = .ok (.iload_n 2, 1) := by decide +kernel
theorem dX5_move_32 : decode cX5_move 32 = .ok (.iadd, 1) := by decide +kernel
theorem dX5_move_33 : decode cX5_move 33 = .ok (.aload_n 0, 1) := by decide +kernel
theorem dX5_move_34 : decode cX5_move 34 = .ok (.getfield 18, 3) := by decide +kernel
theorem dX5_move_37 : decode cX5_move 37 = .ok (.iload_n 3, 1) := by decide +kernel
theorem dX5_move_38 : decode cX5_move 38 = .ok (.bipush 60, 2) := by decide +kernel
theorem dX5_move_40 : decode cX5_move 40 = .ok (.imul, 1) := by decide +kernel
theorem dX5_move_41 : decode cX5_move 41 = .ok (.iload 4, 2) := by decide +kernel
theorem dX5_move_43 : decode cX5_move 43 = .ok (.iadd, 1) := by decide +kernel
theorem dX5_move_44 : decode cX5_move 44 = .ok (.iload 5, 2) := by decide +kernel
theorem dX5_move_46 : decode cX5_move 46 = .ok (.invokestatic 47, 3) := by decide +kernel
theorem dX5_move_49 : decode cX5_move 49 = .ok (.return_, 1) := by decide +kernel
theorem dX5_cutDown_0 : decode cX5_cutDown 0 = .ok (.iload_n 0, 1) := by decide +kernel
theorem dX5_cutDown_1 : decode cX5_cutDown 1 = .ok (.tableswitch 47 0 3 #[31, 36, 41, 45], 31) := by decide +kernel
theorem dX5_cutDown_32 : decode cX5_cutDown 32 = .ok (.lload_n 1, 1) := by decide +kernel
theorem dX5_cutDown_33 : decode cX5_cutDown 33 = .ok (.l2i, 1) := by decide +kernel
theorem dX5_cutDown_34 : decode cX5_cutDown 34 = .ok (.i2b, 1) := by decide +kernel
theorem dX5_cutDown_35 : decode cX5_cutDown 35 = .ok (.i2l, 1) := by decide +kernel
theorem dX5_cutDown_36 : decode cX5_cutDown 36 = .ok (.lreturn, 1) := by decide +kernel
theorem dX5_cutDown_37 : decode cX5_cutDown 37 = .ok (.lload_n 1, 1) := by decide +kernel
theorem dX5_cutDown_38 : decode cX5_cutDown 38 = .ok (.l2i, 1) := by decide +kernel
theorem dX5_cutDown_39 : decode cX5_cutDown 39 = .ok (.i2s, 1) := by decide +kernel
theorem dX5_cutDown_40 : decode cX5_cutDown 40 = .ok (.i2l, 1) := by decide +kernel
theorem dX5_cutDown_41 : decode cX5_cutDown 41 = .ok (.lreturn, 1) := by decide +kernel
theorem dX5_cutDown_42 : decode cX5_cutDown 42 = .ok (.lload_n 1, 1) := by decide +kernel
theorem dX5_cutDown_43 : decode cX5_cutDown 43 = .ok (.l2i, 1) := by decide +kernel
theorem dX5_cutDown_44 : decode cX5_cutDown 44 = .ok (.i2l, 1) := by decide +kernel
theorem dX5_cutDown_45 : decode cX5_cutDown 45 = .ok (.lreturn, 1) := by decide +kernel
theorem dX5_cutDown_46 : decode cX5_cutDown 46 = .ok (.lload_n 1, 1) := by decide +kernel
theorem dX5_cutDown_47 : decode cX5_cutDown 47 = .ok (.lreturn, 1) := by decide +kernel
theorem dX5_cutDown_48 : decode cX5_cutDown 48 = .ok (.lload_n 1, 1) := by decide +kernel
theorem dX5_cutDown_49 : decode cX5_cutDown 49 = .ok (.lconst 0, 1) := by decide +kernel
theorem dX5_cutDown_50 : decode cX5_cutDown 50 = .ok (.lcmp, 1) := by decide +kernel
theorem dX5_cutDown_51 : decode cX5_cutDown 51 = .ok (.ifCond .eq 7, 3) := by decide +kernel
theorem dX5_cutDown_54 : decode cX5_cutDown 54 = .ok (.lconst 1, 1) := by decide +kernel
theorem dX5_cutDown_55 : decode cX5_cutDown 55 = .ok (.goto 4, 3) := by decide +kernel
theorem dX5_cutDown_58 : decode cX5_cutDown 58 = .ok (.lconst 0, 1) := by decide +kernel
theorem dX5_cutDown_59 : decode cX5_cutDown 59 = .ok (.lreturn, 1) := by decide +kernel
theorem dX6_init_0 : decode cX6_init 0 = .ok (.aload_n 0, 1) := by decide +kernel
theorem dX6_init_1 : decode cX6_init 1 = .ok (.invokespecial 3, 3) := by decide +kernel
theorem dX6_init_4 : decode cX6_init 4 = .ok (.aload_n 0, 1) := by decide +kernel
theorem dX6_init_5 : decode cX6_init 5 = .ok (.iconst 0, 1) := by decide +kernel
theorem dX6_init_6 : decode cX6_init 6 = .ok (.putfield 9, 3) := by decide +kernel
theorem dX6_init_9 : decode cX6_init 9 = .ok (.aload_n 0, 1) := by decide +kernel
theorem dX6_init_10 : decode cX6_init 10 = .ok (.iconst 0, 1) := by decide +kernel
theorem dX6_init_11 : decode cX6_init 11 = .ok (.putfield 15, 3) := by decide +kernel
theorem dX6_init_14 : decode cX6_init 14 = .ok (.aload_n 0, 1) := by decide +kernel
theorem dX6_init_15 : decode cX6_init 15 = .ok (.bipush (-5), 2) := by decide +kernel
theorem dX6_init_17 : decode cX6_init 17 = .ok (.putfield 18, 3) := by decide +kernel
theorem dX6_init_20 : decode cX6_init 20 = .ok (.aload_n 0, 1) := by decide +kernel
theorem dX6_init_21 : decode cX6_init 21 = .ok (.bipush 100, 2) := by decide +kernel
theorem dX6_init_23 : decode cX6_init 23 = .ok (.newarray .int, 2) := by decide +kernel
theorem dX6_init_25 : decode cX6_init 25 = .ok (.putfield 21, 3) := by decide +kernel
theorem dX6_init_28 : decode cX6_init 28 = .ok (.aload_n 0, 1) := by decide +kernel
theorem dX6_init_29 : decode cX6_init 29 = .ok (.bipush 6, 2) := by decide +kernel
theorem dX6_init_31 : decode cX6_init 31 = .ok (.newarray .int, 2) := by decide +kernel
theorem dX6_init_33 : decode cX6_init 33 = .ok (.putfield 25, 3) := by decide +kernel
theorem dX6_init_36 : decode cX6_init 36 = .ok (.aload_n 0, 1) := by decide +kernel
theorem dX6_init_37 : decode cX6_init 37 = .ok (.bipush 6, 2) := by decide +kernel
theorem dX6_init_39 : decode cX6_init 39 = .ok (.newarray .int, 2) := by decide +kernel
theorem dX6_init_41 : decode cX6_init 41 = .ok (.putfield 28, 3) := by decide +kernel
theorem dX6_init_44 : decode cX6_init 44 = .ok (.aload_n 0, 1) := by decide +kernel
theorem dX6_init_45 : decode cX6_init 45 = .ok (.bipush 6, 2) := by decide +kernel
theorem dX6_init_47 : decode cX6_init 47 = .ok (.newarray .int, 2) := by decide +kernel
theorem dX6_init_49 : decode cX6_init 49 = .ok (.putfield 31, 3) := by decide +kernel
theorem dX6_init_52 : decode cX6_init 52 = .ok (.aload_n 0, 1) := by decide +kernel
theorem dX6_init_53 : decode cX6_init 53 = .ok (.iconst 0, 1) := by decide +kernel
theorem dX6_init_54 : decode cX6_init 54 = .ok (.putfield 34, 3) := by decide +kernel
theorem dX6_init_57 : decode cX6_init 57 = .ok (.aload_n 0, 1) := by decide +kernel
theorem dX6_init_58 : decode cX6_init 58 = .ok (.iconst 1, 1) := by decide +kernel
theorem dX6_init_59 : decode cX6_init 59 = .ok (.putfield 37, 3) := by decide +kernel
theorem dX6_init_62 : decode cX6_init 62 = .ok (.return_, 1) := by decide +kernel
theorem dX6_append_0 : decode cX6_append 0 = .ok (.aload_n 0, 1) := by decide +kernel
theorem dX6_append_1 : decode cX6_append 1 = .ok (.getfield 9, 3) := by decide +kernel
theorem dX6_append_4 : decode cX6_append 4 = .ok (.ifCond .lt 12, 3) := by decide +kernel
theorem dX6_append_7 : decode cX6_append 7 = .ok (.aload_n 0, 1) := by decide +kernel
theorem dX6_append_8 : decode cX6_append 8 = .ok (.getfield 9, 3) := by decide +kernel
theorem dX6_append_11 : decode cX6_append 11 = .ok (.bipush 100, 2) := by decide +kernel
theorem dX6_append_13 : decode cX6_append 13 = .ok (.if_icmp .lt 5, 3) := by decide +kernel
theorem dX6_append_16 : decode cX6_append 16 = .ok (.iconst 0, 1) := by decide +kernel
theorem dX6_append_17 : decode cX6_append 17 = .ok (.ireturn, 1) := by decide +kernel
theorem dX6_append_18 : decode cX6_append 18 = .ok (.aload_n 0, 1) := by decide +kernel
theorem dX6_append_19 : decode cX6_append 19 = .ok (.getfield 21, 3) := by decide +kernel
theorem dX6_append_22 : decode cX6_append 22 = .ok (.aload_n 0, 1) := by decide +kernel
theorem dX6_append_23 : decode cX6_append 23 = .ok (.getfield 9, 3) := by decide +kernel
theorem dX6_append_26 : decode cX6_append 26 = .ok (.iload_n 1, 1) := by decide +kernel
theorem dX6_append_27 : decode cX6_append 27 = .ok (.iastore, 1) := by decide +kernel
theorem dX6_append_28 : decode cX6_append 28 = .ok (.aload_n 0, 1) := by decide +kernel
theorem dX6_append_29 : decode cX6_append 29 = .ok (.dup, 1) := by decide +kernel
theorem dX6_append_30 : decode cX6_append 30 = .ok (.getfield 9, 3) := by decide +kernel
theorem dX6_append_33 : decode cX6_append 33 = .ok (.iconst 1, 1) := by decide +kernel
theorem dX6_append_34 : decode cX6_append 34 = .ok (.iadd, 1) := by decide +kernel
theorem dX6_append_35 : decode cX6_append 35 = .ok (.putfield 9, 3) := by decide +kernel
theorem dX6_append_38 : decode cX6_append 38 = .ok (.iconst 1, 1) := by decide +kernel
theorem dX6_append_39 : decode cX6_append 39 = .ok (.ireturn, 1) := by decide +kernel
theorem dX6_readInto_0 : decode cX6_readInto 0 = .ok (.aload_n 0, 1) := by decide +kernel
theorem dX6_readInto_1 : decode cX6_readInto 1 = .ok (.iconst 0, 1) := by decide +kernel
theorem dX6_readInto_2 : decode cX6_readInto 2 = .ok (.putfield 15, 3) := by decide +kernel
theorem dX6_readInto_5 : decode cX6_readInto 5 = .ok (.aload_n 0, 1) := by decide +kernel
theorem dX6_readInto_6 : decode cX6_readInto 6 = .ok (.iconst 0, 1) := by decide +kernel
theorem dX6_readInto_7 : decode cX6_readInto 7 = .ok (.putfield 34, 3) := by decide +kernel
theorem dX6_readInto_10 : decode cX6_readInto 10 = .ok (.aload_n 0, 1) := by decide +kernel
theorem dX6_readInto_11 : decode cX6_readInto 11 = .ok (.iconst 1, 1) := by decide +kernel
theorem dX6_readInto_12 : decode cX6_readInto 12 = .ok (.putfield 37, 3) := by decide +kernel
theorem dX6_readInto_15 : decode cX6_readInto 15 = .ok (.iconst 0, 1) := by decide +kernel
theorem dX6_readInto_16 : decode cX6_readInto 16 = .ok (.istore_n 3, 1) := by decide +kernel
theorem dX6_readInto_17 : decode cX6_readInto 17 = .ok (.iload_n 3, 1) := by decide +kernel
theorem dX6_readInto_18 : decode cX6_readInto 18 = .ok (.aload_n 0, 1) := by decide +kernel
theorem dX6_readInto_19 : decode cX6_readInto 19 = .ok (.getfield 9, 3) := by decide +kernel
theorem dX6_readInto_22 : decode cX6_readInto 22 = .ok (.if_icmp .ge 32, 3) := by decide +kernel
theorem dX6_readInto_25 : decode cX6_readInto 25 = .ok (.iload_n 3, 1) := by decide +kernel
theorem dX6_readInto_26 : decode cX6_readInto 26 = .ok (.bipush 100, 2) := by decide +kernel
theorem dX6_readInto_28 : decode cX6_readInto 28 = .ok (.if_icmp .ge 26, 3) := by decide +kernel
theorem dX6_readInto_31 : decode cX6_readInto 31 = .ok (.aload_n 0, 1) := by decide +kernel
theorem dX6_readInto_32 : decode cX6_readInto 32 = .ok (.aload_n 0, 1) := by decide +kernel
theorem dX6_readInto_33 : decode cX6_readInto 33 = .ok (.getfield 21, 3) := by decide +kernel
theorem dX6_readInto_36 : decode cX6_readInto 36 = .ok (.iload_n 3, 1) := by decide +kernel
theorem dX6_readInto_37 : decode cX6_readInto 37 = .ok (.iaload, 1) := by decide +kernel
theorem dX6_readInto_38 : decode cX6_readInto 38 = .ok (.aload_n 1, 1) := by decide +kernel
theorem dX6_readInto_39 : decode cX6_readInto 39 = .ok (.iload_n 2, 1) := by decide +kernel
theorem dX6_readInto_40 : decode cX6_readInto 40 = .ok (.invokevirtual 41, 3) := by decide +kernel
theorem dX6_readInto_43 : decode cX6_readInto 43 = .ok (.ifCond .ne 5, 3) := by decide +kernel
theorem dX6_readInto_46 : decode cX6_readInto 46 = .ok (.iload_n 3, 1) := by decide +kernel
theorem dX6_readInto_47 : decode cX6_readInto 47 = .ok (.ireturn, 1) := by decide +kernel
theorem dX6_readInto_48 : decode cX6_readInto 48 = .ok (.iinc 3 1, 3) := by decide +kernel
theorem dX6_readInto_51 : decode cX6_readInto 51 = .ok (.goto (-34), 3) := by decide +kernel
theorem dX6_readInto_54 : decode cX6_readInto 54 = .ok (.aload_n 0, 1) := by decide +kernel
theorem dX6_readInto_55 : decode cX6_readInto 55 = .ok (.getfield 34, 3) := by decide +kernel
theorem dX6_readInto_58 : decode cX6_readInto 58 = .ok (.ifCond .ne 14, 3) := by decide +kernel
theorem dX6_readInto_61 : decode cX6_readInto 61 = .ok (.aload_n 0, 1) := by decide +kernel
theorem dX6_readInto_62 : decode cX6_readInto 62 = .ok (.getfield 37, 3) := by decide +kernel
theorem dX6_readInto_65 : decode cX6_readInto 65 = .ok (.ifCond .ne 7, 3) := by decide +kernel
theorem dX6_readInto_68 : decode cX6_readInto 68 = .ok (.iconst (-1), 1) := by decide +kernel
theorem dX6_readInto_69 : decode cX6_readInto 69 = .ok (.goto 7, 3) := by decide +kernel
theorem dX6_readInto_72 : decode cX6_readInto 72 = .ok (.aload_n 0, 1) := by decide +kernel
theorem dX6_readInto_73 : decode cX6_readInto 73 = .ok (.getfield 9, 3) := by decide +kernel
theorem dX6_readInto_76 : decode cX6_readInto 76 = .ok (.ireturn, 1) := by decide +kernel
theorem dX6_take_0 : decode cX6_take 0 = .ok (.aload_n 0, 1) := by decide +kernel
theorem dX6_take_1 : decode cX6_take 1 = .ok (.getfield 37, 3) := by decide +kernel
theorem dX6_take_4 : decode cX6_take 4 = .ok (.ifCond .ne 9, 3) := by decide +kernel
theorem dX6_take_7 : decode cX6_take 7 = .ok (.aload_n 0, 1) := by decide +kernel
theorem dX6_take_8 : decode cX6_take 8 = .ok (.iload_n 1, 1) := by decide +kernel
theorem dX6_take_9 : decode cX6_take 9 = .ok (.invokevirtual 45, 3) := by decide +kernel
theorem dX6_take_12 : decode cX6_take 12 = .ok (.ireturn, 1) := by decide +kernel
theorem dX6_take_13 : decode cX6_take 13 = .ok (.iload_n 1, 1) := by decide +kernel
theorem dX6_take_14 : decode cX6_take 14 = .ok (.bipush 93, 2) := by decide +kernel
theorem dX6_take_16 : decode cX6_take 16 = .ok (.if_icmp .ne 15, 3) := by decide +kernel
theorem dX6_take_19 : decode cX6_take 19 = .ok (.aload_n 0, 1) := by decide +kernel
theorem dX6_take_20 : decode cX6_take 20 = .ok (.invokevirtual 49, 3) := by decide +kernel
theorem dX6_take_23 : decode cX6_take 23 = .ok (.ifCond .eq 8, 3) := by decide +kernel
theorem dX6_take_26 : decode cX6_take 26 = .ok (.aload_n 0, 1) := by decide +kernel
theorem dX6_take_27 : decode cX6_take 27 = .ok (.invokevirtual 53, 3) := by decide +kernel
theorem dX6_take_30 : decode cX6_take 30 = .ok (.ireturn, 1) := by decide +kernel
theorem dX6_take_31 : decode cX6_take 31 = .ok (.iload_n 1, 1) := by decide +kernel
theorem dX6_take_32 : decode cX6_take 32 = .ok (.bipush 40, 2) := by decide +kernel
theorem dX6_take_34 : decode cX6_take 34 = .ok (.if_icmp .eq 15, 3) := by decide +kernel
theorem dX6_take_37 : decode cX6_take 37 = .ok (.iload_n 1, 1) := by decide +kernel
theorem dX6_take_38 : decode cX6_take 38 = .ok (.bipush 91, 2) := by decide +kernel
theorem dX6_take_40 : decode cX6_take 40 = .ok (.if_icmp .eq 9, 3) := by decide +kernel
theorem dX6_take_43 : decode cX6_take 43 = .ok (.iload_n 1, 1) := by decide +kernel
theorem dX6_take_44 : decode cX6_take 44 = .ok (.bipush 60, 2) := by decide +kernel
theorem dX6_take_46 : decode cX6_take 46 = .ok (.if_icmp .ne 10, 3) := by decide +kernel
theorem dX6_take_49 : decode cX6_take 49 = .ok (.aload_n 0, 1) := by decide +kernel
theorem dX6_take_50 : decode cX6_take 50 = .ok (.iload_n 1, 1) := by decide +kernel
theorem dX6_take_51 : decode cX6_take 51 = .ok (.aload_n 2, 1) := by decide +kernel
theorem dX6_take_52 : decode cX6_take 52 = .ok (.invokevirtual 56, 3) := by decide +kernel
theorem dX6_take_55 : decode cX6_take 55 = .ok (.ireturn, 1) := by decide +kernel
theorem dX6_take_56 : decode cX6_take 56 = .ok (.aload_n 0, 1) := by decide +kernel
theorem dX6_take_57 : decode cX6_take 57 = .ok (.iconst 0, 1) := by decide +kernel
theorem dX6_take_58 : decode cX6_take 58 = .ok (.putfield 37, 3) := by decide +kernel
theorem dX6_take_61 : decode cX6_take 61 = .ok (.iload_n 1, 1) := by decide +kernel
theorem dX6_take_62 : decode cX6_take 62 = .ok (.bipush 126, 2) := by decide +kernel
theorem dX6_take_64 : decode cX6_take 64 = .ok (.if_icmp .ne 11, 3) := by decide +kernel
theorem dX6_take_67 : decode cX6_take 67 = .ok (.aload_n 0, 1) := by decide +kernel
theorem dX6_take_68 : decode cX6_take 68 = .ok (.bipush (-5), 2) := by decide +kernel
theorem dX6_take_70 : decode cX6_take 70 = .ok (.aload_n 2, 1) := by decide +kernel
theorem dX6_take_71 : decode cX6_take 71 = .ok (.invokevirtual 60, 3) := by decide +kernel
theorem dX6_take_74 : decode cX6_take 74 = .ok (.ireturn, 1) := by decide +kernel
theorem dX6_take_75 : decode cX6_take 75 = .ok (.iload_n 1, 1) := by decide +kernel
theorem dX6_take_76 : decode cX6_take 76 = .ok (.bipush 48, 2) := by decide +kernel
theorem dX6_take_78 : decode cX6_take 78 = .ok (.if_icmp .lt 35, 3) := by decide +kernel
theorem dX6_take_81 : decode cX6_take 81 = .ok (.iload_n 1, 1) := by decide +kernel
theorem dX6_take_82 : decode cX6_take 82 = .ok (.bipush 57, 2) := by decide +kernel
theorem dX6_take_84 : decode cX6_take 84 = .ok (.if_icmp .gt 29, 3) := by decide +kernel
theorem dX6_take_87 : decode cX6_take 87 = .ok (.aload_n 0, 1) := by decide +kernel
theorem dX6_take_88 : decode cX6_take 88 = .ok (.dup, 1) := by decide +kernel
theorem dX6_take_89 : decode cX6_take 89 = .ok (.getfield 15, 3) := by decide +kernel
theorem dX6_take_92 : decode cX6_take 92 = .ok (.iconst 1, 1) := by decide +kernel
theorem dX6_take_93 : decode cX6_take 93 = .ok (.iadd, 1) := by decide +kernel
theorem dX6_take_94 : decode cX6_take 94 = .ok (.putfield 15, 3) := by decide +kernel
theorem dX6_take_97 : decode cX6_take 97 = .ok (.aload_n 0, 1) := by decide +kernel
theorem dX6_take_98 : decode cX6_take 98 = .ok (.aload_n 2, 1) := by decide +kernel
theorem dX6_take_99 : decode cX6_take 99 = .ok (.iconst 0, 1) := by decide +kernel
theorem dX6_take_100 : decode cX6_take 100 = .ok (.iload_n 1, 1) := by decide +kernel
theorem dX6_take_101 : decode cX6_take 101 = .ok (.bipush 48, 2) := by decide +kernel
theorem dX6_take_103 : decode cX6_take 103 = .ok (.isub, 1) := by decide +kernel
theorem dX6_take_104 : decode cX6_take 104 = .ok (.iconst 0, 1) := by decide +kernel
theorem dX6_take_105 : decode cX6_take 105 = .ok (.invokevirtual 63, 3) := by decide +kernel
theorem dX6_take_108 : decode cX6_take 108 = .ok (.aload_n 2, 1) := by decide +kernel
theorem dX6_take_109 : decode cX6_take 109 = .ok (.invokevirtual 60, 3) := by decide +kernel
theorem dX6_take_112 : decode cX6_take 112 = .ok (.ireturn, 1) := by decide +kernel
theorem dX6_take_113 : decode cX6_take 113 = .ok (.iload_n 1, 1) := by decide +kernel
theorem dX6_take_114 : decode cX6_take 114 = .ok (.bipush 97, 2) := by decide +kernel
theorem dX6_take_116 : decode cX6_take 116 = .ok (.if_icmp .lt 38, 3) := by decide +kernel
theorem dX6_take_119 : decode cX6_take 119 = .ok (.iload_n 1, 1) := by decide +kernel
theorem dX6_take_120 : decode cX6_take 120 = .ok (.bipush 120, 2) := by decide +kernel
theorem dX6_take_122 : decode cX6_take 122 = .ok (.if_icmp .gt 32, 3) := by decide +kernel
theorem dX6_take_125 : decode cX6_take 125 = .ok (.iload_n 3, 1) := by decide +kernel
theorem dX6_take_126 : decode cX6_take 126 = .ok (.iload_n 1, 1) := by decide +kernel
theorem dX6_take_127 : decode cX6_take 127 = .ok (.bipush 97, 2) := by decide +kernel
theorem dX6_take_129 : decode cX6_take 129 = .ok (.isub, 1) := by decide +kernel
theorem dX6_take_130 : decode cX6_take 130 = .ok (.invokestatic 69, 3) := by decide +kernel
theorem dX6_take_133 : decode cX6_take 133 = .ok (.ifCond .eq 19, 3) := by decide +kernel
theorem dX6_take_136 : decode cX6_take 136 = .ok (.aload_n 0, 1) := by decide +kernel
theorem dX6_take_137 : decode cX6_take 137 = .ok (.iload_n 1, 1) := by decide +kernel
theorem dX6_take_138 : decode cX6_take 138 = .ok (.bipush 97, 2) := by decide +kernel
theorem dX6_take_140 : decode cX6_take 140 = .ok (.isub, 1) := by decide +kernel
theorem dX6_take_141 : decode cX6_take 141 = .ok (.aload_n 2, 1) := by decide +kernel
theorem dX6_take_142 : decode cX6_take 142 = .ok (.invokevirtual 60, 3) := by decide +kernel
theorem dX6_take_145 : decode cX6_take 145 = .ok (.ifCond .eq 7, 3) := by decide +kernel
theorem dX6_take_148 : decode cX6_take 148 = .ok (.iconst 1, 1) := by decide +kernel
theorem dX6_take_149 : decode cX6_take 149 = .ok (.goto 4, 3) := by decide +kernel
theorem dX6_take_152 : decode cX6_take 152 = .ok (.iconst 0, 1) := by decide +kernel
theorem dX6_take_153 : decode cX6_take 153 = .ok (.ireturn, 1) := by decide +kernel
theorem dX6_take_154 : decode cX6_take 154 = .ok (.aload_n 0, 1) := by decide +kernel
theorem dX6_take_155 : decode cX6_take 155 = .ok (.getfield 34, 3) := by decide +kernel
theorem dX6_take_158 : decode cX6_take 158 = .ok (.iconst 1, 1) := by decide +kernel
theorem dX6_take_159 : decode cX6_take 159 = .ok (.isub, 1) := by decide +kernel
theorem dX6_take_160 : decode cX6_take 160 = .ok (.iload_n 1, 1) := by decide +kernel
theorem dX6_take_161 : decode cX6_take 161 = .ok (.bipush 65, 2) := by decide +kernel
theorem dX6_take_163 : decode cX6_take 163 = .ok (.isub, 1) := by decide +kernel
theorem dX6_take_164 : decode cX6_take 164 = .ok (.isub, 1) := by decide +kernel
theorem dX6_take_165 : decode cX6_take 165 = .ok (.istore 4, 2) := by decide +kernel
theorem dX6_take_167 : decode cX6_take 167 = .ok (.iload_n 1, 1) := by decide +kernel
theorem dX6_take_168 : decode cX6_take 168 = .ok (.bipush 65, 2) := by decide +kernel
theorem dX6_take_170 : decode cX6_take 170 = .ok (.if_icmp .lt 40, 3) := by decide +kernel
theorem dX6_take_173 : decode cX6_take 173 = .ok (.iload_n 1, 1) := by decide +kernel
theorem dX6_take_174 : decode cX6_take 174 = .ok (.bipush 70, 2) := by decide +kernel
theorem dX6_take_176 : decode cX6_take 176 = .ok (.if_icmp .gt 34, 3) := by decide +kernel
theorem dX6_take_179 : decode cX6_take 179 = .ok (.iload 4, 2) := by decide +kernel
theorem dX6_take_181 : decode cX6_take 181 = .ok (.ifCond .lt 29, 3) := by decide +kernel
theorem dX6_take_184 : decode cX6_take 184 = .ok (.iload 4, 2) := by decide +kernel
theorem dX6_take_186 : decode cX6_take 186 = .ok (.bipush 6, 2) := by decide +kernel
theorem dX6_take_188 : decode cX6_take 188 = .ok (.if_icmp .ge 22, 3) := by decide +kernel
theorem dX6_take_191 : decode cX6_take 191 = .ok (.aload_n 0, 1) := by decide +kernel
theorem dX6_take_192 : decode cX6_take 192 = .ok (.aload_n 0, 1) := by decide +kernel
theorem dX6_take_193 : decode cX6_take 193 = .ok (.getfield 25, 3) := by decide +kernel
theorem dX6_take_196 : decode cX6_take 196 = .ok (.iload 4, 2) := by decide +kernel
theorem dX6_take_198 : decode cX6_take 198 = .ok (.iaload, 1) := by decide +kernel
theorem dX6_take_199 : decode cX6_take 199 = .ok (.aload_n 2, 1) := by decide +kernel
theorem dX6_take_200 : decode cX6_take 200 = .ok (.invokevirtual 60, 3) := by decide +kernel
theorem dX6_take_203 : decode cX6_take 203 = .ok (.ifCond .eq 7, 3) := by decide +kernel
theorem dX6_take_206 : decode cX6_take 206 = .ok (.iconst 1, 1) := by decide +kernel
theorem dX6_take_207 : decode cX6_take 207 = .ok (.goto 4, 3) := by decide +kernel
theorem dX6_take_210 : decode cX6_take 210 = .ok (.iconst 0, 1) := by decide +kernel
theorem dX6_take_211 : decode cX6_take 211 = .ok (.ireturn, 1) := by decide +kernel
theorem dX6_open_0 : decode cX6_open 0 = .ok (.aload_n 0, 1) := by decide +kernel
theorem dX6_open_1 : decode cX6_open 1 = .ok (.getfield 34, 3) := by decide +kernel
theorem dX6_open_4 : decode cX6_open 4 = .ok (.ifCond .lt 12, 3) := by decide +kernel
theorem dX6_open_7 : decode cX6_open 7 = .ok (.aload_n 0, 1) := by decide +kernel
theorem dX6_open_8 : decode cX6_open 8 = .ok (.getfield 34, 3) := by decide +kernel
theorem dX6_open_11 : decode cX6_open 11 = .ok (.bipush 6, 2) := by decide +kernel
theorem dX6_open_13 : decode cX6_open 13 = .ok (.if_icmp .lt 5, 3) := by decide +kernel
theorem dX6_open_16 : decode cX6_open 16 = .ok (.iconst 0, 1) := by decide +kernel
theorem dX6_open_17 : decode cX6_open 17 = .ok (.ireturn, 1) := by decide +kernel
theorem dX6_open_18 : decode cX6_open 18 = .ok (.iload_n 1, 1) := by decide +kernel
theorem dX6_open_19 : decode cX6_open 19 = .ok (.bipush 40, 2) := by decide +kernel
theorem dX6_open_21 : decode cX6_open 21 = .ok (.if_icmp .ne 7, 3) := by decide +kernel
theorem dX6_open_24 : decode cX6_open 24 = .ok (.iconst 1, 1) := by decide +kernel
theorem dX6_open_25 : decode cX6_open 25 = .ok (.goto 14, 3) := by decide +kernel
theorem dX6_open_28 : decode cX6_open 28 = .ok (.iload_n 1, 1) := by decide +kernel
theorem dX6_open_29 : decode cX6_open 29 = .ok (.bipush 91, 2) := by decide +kernel
theorem dX6_open_31 : decode cX6_open 31 = .ok (.if_icmp .ne 7, 3) := by decide +kernel
theorem dX6_open_34 : decode cX6_open 34 = .ok (.iconst 2, 1) := by decide +kernel
theorem dX6_open_35 : decode cX6_open 35 = .ok (.goto 4, 3) := by decide +kernel
theorem dX6_open_38 : decode cX6_open 38 = .ok (.iconst 3, 1) := by decide +kernel
theorem dX6_open_39 : decode cX6_open 39 = .ok (.istore_n 3, 1) := by decide +kernel
theorem dX6_open_40 : decode cX6_open 40 = .ok (.aload_n 2, 1) := by decide +kernel
theorem dX6_open_41 : decode cX6_open 41 = .ok (.iload_n 3, 1) := by decide +kernel
theorem dX6_open_42 : decode cX6_open 42 = .ok (.iconst 0, 1) := by decide +kernel
theorem dX6_open_43 : decode cX6_open 43 = .ok (.iload_n 3, 1) := by decide +kernel
theorem dX6_open_44 : decode cX6_open 44 = .ok (.iconst 0, 1) := by decide +kernel
theorem dX6_open_45 : decode cX6_open 45 = .ok (.invokestatic 73, 3) := by decide +kernel
theorem dX6_open_48 : decode cX6_open 48 = .ok (.invokevirtual 63, 3) := by decide +kernel
theorem dX6_open_51 : decode cX6_open 51 = .ok (.istore 4, 2) := by decide +kernel
theorem dX6_open_53 : decode cX6_open 53 = .ok (.aload_n 0, 1) := by decide +kernel
theorem dX6_open_54 : decode cX6_open 54 = .ok (.dup, 1) := by decide +kernel
theorem dX6_open_55 : decode cX6_open 55 = .ok (.getfield 15, 3) := by decide +kernel
theorem dX6_open_58 : decode cX6_open 58 = .ok (.iconst 1, 1) := by decide +kernel
theorem dX6_open_59 : decode cX6_open 59 = .ok (.iadd, 1) := by decide +kernel
theorem dX6_open_60 : decode cX6_open 60 = .ok (.putfield 15, 3) := by decide +kernel
theorem dX6_open_63 : decode cX6_open 63 = .ok (.aload_n 0, 1) := by decide +kernel
theorem dX6_open_64 : decode cX6_open 64 = .ok (.iload 4, 2) := by decide +kernel
theorem dX6_open_66 : decode cX6_open 66 = .ok (.aload_n 2, 1) := by decide +kernel
theorem dX6_open_67 : decode cX6_open 67 = .ok (.invokevirtual 60, 3) := by decide +kernel
theorem dX6_open_70 : decode cX6_open 70 = .ok (.pop, 1) := by decide +kernel
theorem dX6_open_71 : decode cX6_open 71 = .ok (.aload_n 0, 1) := by decide +kernel
theorem dX6_open_72 : decode cX6_open 72 = .ok (.getfield 25, 3) := by decide +kernel
theorem dX6_open_75 : decode cX6_open 75 = .ok (.aload_n 0, 1) := by decide +kernel
theorem dX6_open_76 : decode cX6_open 76 = .ok (.getfield 34, 3) := by decide +kernel
theorem dX6_open_79 : decode cX6_open 79 = .ok (.iload 4, 2) := by decide +kernel
theorem dX6_open_81 : decode cX6_open 81 = .ok (.iastore, 1) := by decide +kernel
theorem dX6_open_82 : decode cX6_open 82 = .ok (.aload_n 0, 1) := by decide +kernel
theorem dX6_open_83 : decode cX6_open 83 = .ok (.getfield 28, 3) := by decide +kernel
theorem dX6_open_86 : decode cX6_open 86 = .ok (.aload_n 0, 1) := by decide +kernel
theorem dX6_open_87 : decode cX6_open 87 = .ok (.getfield 34, 3) := by decide +kernel
theorem dX6_open_90 : decode cX6_open 90 = .ok (.iload_n 3, 1) := by decide +kernel
theorem dX6_open_91 : decode cX6_open 91 = .ok (.iastore, 1) := by decide +kernel
theorem dX6_open_92 : decode cX6_open 92 = .ok (.aload_n 0, 1) := by decide +kernel
theorem dX6_open_93 : decode cX6_open 93 = .ok (.getfield 31, 3) := by decide +kernel
theorem dX6_open_96 : decode cX6_open 96 = .ok (.aload_n 0, 1) := by decide +kernel
theorem dX6_open_97 : decode cX6_open 97 = .ok (.getfield 34, 3) := by decide +kernel
theorem dX6_open_100 : decode cX6_open 100 = .ok (.iconst 0, 1) := by decide +kernel
theorem dX6_open_101 : decode cX6_open 101 = .ok (.iastore, 1) := by decide +kernel
theorem dX6_open_102 : decode cX6_open 102 = .ok (.aload_n 0, 1) := by decide +kernel
theorem dX6_open_103 : decode cX6_open 103 = .ok (.dup, 1) := by decide +kernel
theorem dX6_open_104 : decode cX6_open 104 = .ok (.getfield 34, 3) := by decide +kernel
theorem dX6_open_107 : decode cX6_open 107 = .ok (.iconst 1, 1) := by decide +kernel
theorem dX6_open_108 : decode cX6_open 108 = .ok (.iadd, 1) := by decide +kernel
theorem dX6_open_109 : decode cX6_open 109 = .ok (.putfield 34, 3) := by decide +kernel
theorem dX6_open_112 : decode cX6_open 112 = .ok (.iconst 1, 1) := by decide +kernel
theorem dX6_open_113 : decode cX6_open 113 = .ok (.ireturn, 1) := by decide +kernel
theorem dX6_put_0 : decode cX6_put 0 = .ok (.aload_n 0, 1) := by decide +kernel
theorem dX6_put_1 : decode cX6_put 1 = .ok (.getfield 34, 3) := by decide +kernel
theorem dX6_put_4 : decode cX6_put 4 = .ok (.ifCond .le 12, 3) := by decide +kernel
theorem dX6_put_7 : decode cX6_put 7 = .ok (.aload_n 0, 1) := by decide +kernel
theorem dX6_put_8 : decode cX6_put 8 = .ok (.getfield 34, 3) := by decide +kernel
theorem dX6_put_11 : decode cX6_put 11 = .ok (.bipush 6, 2) := by decide +kernel
theorem dX6_put_13 : decode cX6_put 13 = .ok (.if_icmp .le 10, 3) := by decide +kernel
theorem dX6_put_16 : decode cX6_put 16 = .ok (.aload_n 0, 1) := by decide +kernel
theorem dX6_put_17 : decode cX6_put 17 = .ok (.iload_n 1, 1) := by decide +kernel
theorem dX6_put_18 : decode cX6_put 18 = .ok (.putfield 18, 3) := by decide +kernel
theorem dX6_put_21 : decode cX6_put 21 = .ok (.iconst 1, 1) := by decide +kernel
theorem dX6_put_22 : decode cX6_put 22 = .ok (.ireturn, 1) := by decide +kernel
theorem dX6_put_23 : decode cX6_put 23 = .ok (.aload_n 0, 1) := by decide +kernel
theorem dX6_put_24 : decode cX6_put 24 = .ok (.getfield 34, 3) := by decide +kernel
theorem dX6_put_27 : decode cX6_put 27 = .ok (.iconst 1, 1) := by decide +kernel
theorem dX6_put_28 : decode cX6_put 28 = .ok (.isub, 1) := by decide +kernel
theorem dX6_put_29 : decode cX6_put 29 = .ok (.istore_n 3, 1) := by decide +kernel
theorem dX6_put_30 : decode cX6_put 30 = .ok (.aload_n 0, 1) := by decide +kernel
theorem dX6_put_31 : decode cX6_put 31 = .ok (.getfield 28, 3) := by decide +kernel
theorem dX6_put_34 : decode cX6_put 34 = .ok (.iload_n 3, 1) := by decide +kernel
theorem dX6_put_35 : decode cX6_put 35 = .ok (.iaload, 1) := by decide +kernel
theorem dX6_put_36 : decode cX6_put 36 = .ok (.iconst 2, 1) := by decide +kernel
theorem dX6_put_37 : decode cX6_put 37 = .ok (.if_icmp .ne 13, 3) := by decide +kernel
theorem dX6_put_40 : decode cX6_put 40 = .ok (.aload_n 2, 1) := by decide +kernel
theorem dX6_put_41 : decode cX6_put 41 = .ok (.aload_n 0, 1) := by decide +kernel
theorem dX6_put_42 : decode cX6_put 42 = .ok (.getfield 25, 3) := by decide +kernel
theorem dX6_put_45 : decode cX6_put 45 = .ok (.iload_n 3, 1) := by decide +kernel
theorem dX6_put_46 : decode cX6_put 46 = .ok (.iaload, 1) := by decide +kernel
theorem dX6_put_47 : decode cX6_put 47 = .ok (.invokevirtual 77, 3) := by decide +kernel
theorem dX6_put_50 : decode cX6_put 50 = .ok (.aload_n 2, 1) := by decide +kernel
theorem dX6_put_51 : decode cX6_put 51 = .ok (.aload_n 0, 1) := by decide +kernel
theorem dX6_put_52 : decode cX6_put 52 = .ok (.getfield 25, 3) := by decide +kernel
theorem dX6_put_55 : decode cX6_put 55 = .ok (.iload_n 3, 1) := by decide +kernel
theorem dX6_put_56 : decode cX6_put 56 = .ok (.iaload, 1) := by decide +kernel
theorem dX6_put_57 : decode cX6_put 57 = .ok (.aload_n 0, 1) := by decide +kernel
theorem dX6_put_58 : decode cX6_put 58 = .ok (.getfield 31, 3) := by decide +kernel
theorem dX6_put_61 : decode cX6_put 61 = .ok (.iload_n 3, 1) := by decide +kernel
theorem dX6_put_62 : decode cX6_put 62 = .ok (.iaload, 1) := by decide +kernel
theorem dX6_put_63 : decode cX6_put 63 = .ok (.iload_n 1, 1) := by decide +kernel
theorem dX6_put_64 : decode cX6_put 64 = .ok (.invokevirtual 81, 3) := by decide +kernel
theorem dX6_put_67 : decode cX6_put 67 = .ok (.aload_n 0, 1) := by decide +kernel
theorem dX6_put_68 : decode cX6_put 68 = .ok (.getfield 31, 3) := by decide +kernel
theorem dX6_put_71 : decode cX6_put 71 = .ok (.iload_n 3, 1) := by decide +kernel
theorem dX6_put_72 : decode cX6_put 72 = .ok (.dup2, 1) := by decide +kernel
theorem dX6_put_73 : decode cX6_put 73 = .ok (.iaload, 1) := by decide +kernel
theorem dX6_put_74 : decode cX6_put 74 = .ok (.iconst 1, 1) := by decide +kernel
theorem dX6_put_75 : decode cX6_put 75 = .ok (.iadd, 1) := by decide +kernel
theorem dX6_put_76 : decode cX6_put 76 = .ok (.iastore, 1) := by decide +kernel
theorem dX6_put_77 : decode cX6_put 77 = .ok (.iconst 1, 1) := by decide +kernel
theorem dX6_put_78 : decode cX6_put 78 = .ok (.ireturn, 1) := by decide +kernel
theorem dX6_goOn_0 : decode cX6_goOn 0 = .ok (.aload_n 0, 1) := by decide +kernel
theorem dX6_goOn_1 : decode cX6_goOn 1 = .ok (.getfield 34, 3) := by decide +kernel
theorem dX6_goOn_4 : decode cX6_goOn 4 = .ok (.ifCond .le 12, 3) := by decide +kernel
theorem dX6_goOn_7 : decode cX6_goOn 7 = .ok (.aload_n 0, 1) := by decide +kernel
theorem dX6_goOn_8 : decode cX6_goOn 8 = .ok (.getfield 34, 3) := by decide +kernel
theorem dX6_goOn_11 : decode cX6_goOn 11 = .ok (.bipush 6, 2) := by decide +kernel
theorem dX6_goOn_13 : decode cX6_goOn 13 = .ok (.if_icmp .le 5, 3) := by decide +kernel
theorem dX6_goOn_16 : decode cX6_goOn 16 = .ok (.iconst 0, 1) := by decide +kernel
theorem dX6_goOn_17 : decode cX6_goOn 17 = .ok (.ireturn, 1) := by decide +kernel
theorem dX6_goOn_18 : decode cX6_goOn 18 = .ok (.aload_n 0, 1) := by decide +kernel
theorem dX6_goOn_19 : decode cX6_goOn 19 = .ok (.getfield 34, 3) := by decide +kernel
theorem dX6_goOn_22 : decode cX6_goOn 22 = .ok (.iconst 1, 1) := by decide +kernel
theorem dX6_goOn_23 : decode cX6_goOn 23 = .ok (.isub, 1) := by decide +kernel
theorem dX6_goOn_24 : decode cX6_goOn 24 = .ok (.istore_n 2, 1) := by decide +kernel
theorem dX6_goOn_25 : decode cX6_goOn 25 = .ok (.aload_n 0, 1) := by decide +kernel
theorem dX6_goOn_26 : decode cX6_goOn 26 = .ok (.getfield 28, 3) := by decide +kernel
theorem dX6_goOn_29 : decode cX6_goOn 29 = .ok (.iload_n 2, 1) := by decide +kernel
theorem dX6_goOn_30 : decode cX6_goOn 30 = .ok (.iaload, 1) := by decide +kernel
theorem dX6_goOn_31 : decode cX6_goOn 31 = .ok (.lookupswitch 118 #[(1, 25), (2, 75)], 25) := by decide +kernel
theorem dX6_goOn_56 : decode cX6_goOn 56 = .ok (.aload_n 0, 1) := by decide +kernel
theorem dX6_goOn_57 : decode cX6_goOn 57 = .ok (.getfield 31, 3) := by decide +kernel
theorem dX6_goOn_60 : decode cX6_goOn 60 = .ok (.iload_n 2, 1) := by decide +kernel
theorem dX6_goOn_61 : decode cX6_goOn 61 = .ok (.iaload, 1) := by decide +kernel
theorem dX6_goOn_62 : decode cX6_goOn 62 = .ok (.iconst 2, 1) := by decide +kernel
theorem dX6_goOn_63 : decode cX6_goOn 63 = .ok (.if_icmp .ge 24, 3) := by decide +kernel
theorem dX6_goOn_66 : decode cX6_goOn 66 = .ok (.iload_n 1, 1) := by decide +kernel
theorem dX6_goOn_67 : decode cX6_goOn 67 = .ok (.bipush 46, 2) := by decide +kernel
theorem dX6_goOn_69 : decode cX6_goOn 69 = .ok (.if_icmp .ne 14, 3) := by decide +kernel
theorem dX6_goOn_72 : decode cX6_goOn 72 = .ok (.aload_n 0, 1) := by decide +kernel
theorem dX6_goOn_73 : decode cX6_goOn 73 = .ok (.invokevirtual 85, 3) := by decide +kernel
theorem dX6_goOn_76 : decode cX6_goOn 76 = .ok (.ifCond .eq 7, 3) := by decide +kernel
theorem dX6_goOn_79 : decode cX6_goOn 79 = .ok (.iconst 1, 1) := by decide +kernel
theorem dX6_goOn_80 : decode cX6_goOn 80 = .ok (.goto 25, 3) := by decide +kernel
theorem dX6_goOn_83 : decode cX6_goOn 83 = .ok (.iconst 0, 1) := by decide +kernel
theorem dX6_goOn_84 : decode cX6_goOn 84 = .ok (.goto 21, 3) := by decide +kernel
theorem dX6_goOn_87 : decode cX6_goOn 87 = .ok (.iload_n 1, 1) := by decide +kernel
theorem dX6_goOn_88 : decode cX6_goOn 88 = .ok (.bipush 41, 2) := by decide +kernel
theorem dX6_goOn_90 : decode cX6_goOn 90 = .ok (.if_icmp .ne 14, 3) := by decide +kernel
theorem dX6_goOn_93 : decode cX6_goOn 93 = .ok (.aload_n 0, 1) := by decide +kernel
theorem dX6_goOn_94 : decode cX6_goOn 94 = .ok (.invokevirtual 53, 3) := by decide +kernel
theorem dX6_goOn_97 : decode cX6_goOn 97 = .ok (.ifCond .eq 7, 3) := by decide +kernel
theorem dX6_goOn_100 : decode cX6_goOn 100 = .ok (.iconst 1, 1) := by decide +kernel
theorem dX6_goOn_101 : decode cX6_goOn 101 = .ok (.goto 4, 3) := by decide +kernel
theorem dX6_goOn_104 : decode cX6_goOn 104 = .ok (.iconst 0, 1) := by decide +kernel
theorem dX6_goOn_105 : decode cX6_goOn 105 = .ok (.ireturn, 1) := by decide +kernel
theorem dX6_goOn_106 : decode cX6_goOn 106 = .ok (.iload_n 1, 1) := by decide +kernel
theorem dX6_goOn_107 : decode cX6_goOn 107 = .ok (.bipush 93, 2) := by decide +kernel
theorem dX6_goOn_109 : decode cX6_goOn 109 = .ok (.if_icmp .ne 10, 3) := by decide +kernel
theorem dX6_goOn_112 : decode cX6_goOn 112 = .ok (.aload_n 0, 1) := by decide +kernel
theorem dX6_goOn_113 : decode cX6_goOn 113 = .ok (.invokevirtual 53, 3) := by decide +kernel
theorem dX6_goOn_116 : decode cX6_goOn 116 = .ok (.goto 32, 3) := by decide +kernel
theorem dX6_goOn_119 : decode cX6_goOn 119 = .ok (.iload_n 1, 1) := by decide +kernel
theorem dX6_goOn_120 : decode cX6_goOn 120 = .ok (.bipush 44, 2) := by decide +kernel
theorem dX6_goOn_122 : decode cX6_goOn 122 = .ok (.if_icmp .ne 25, 3) := by decide +kernel
theorem dX6_goOn_125 : decode cX6_goOn 125 = .ok (.aload_n 0, 1) := by decide +kernel
theorem dX6_goOn_126 : decode cX6_goOn 126 = .ok (.getfield 31, 3) := by decide +kernel
theorem dX6_goOn_129 : decode cX6_goOn 129 = .ok (.iload_n 2, 1) := by decide +kernel
theorem dX6_goOn_130 : decode cX6_goOn 130 = .ok (.iaload, 1) := by decide +kernel
theorem dX6_goOn_131 : decode cX6_goOn 131 = .ok (.bipush 6, 2) := by decide +kernel
theorem dX6_goOn_133 : decode cX6_goOn 133 = .ok (.if_icmp .ge 14, 3) := by decide +kernel
theorem dX6_goOn_136 : decode cX6_goOn 136 = .ok (.aload_n 0, 1) := by decide +kernel
theorem dX6_goOn_137 : decode cX6_goOn 137 = .ok (.invokevirtual 85, 3) := by decide +kernel
theorem dX6_goOn_140 : decode cX6_goOn 140 = .ok (.ifCond .eq 7, 3) := by decide +kernel
theorem dX6_goOn_143 : decode cX6_goOn 143 = .ok (.iconst 1, 1) := by decide +kernel
theorem dX6_goOn_144 : decode cX6_goOn 144 = .ok (.goto 4, 3) := by decide +kernel
theorem dX6_goOn_147 : decode cX6_goOn 147 = .ok (.iconst 0, 1) := by decide +kernel
theorem dX6_goOn_148 : decode cX6_goOn 148 = .ok (.ireturn, 1) := by decide +kernel
theorem dX6_goOn_149 : decode cX6_goOn 149 = .ok (.iload_n 1, 1) := by decide +kernel
theorem dX6_goOn_150 : decode cX6_goOn 150 = .ok (.bipush 62, 2) := by decide +kernel
theorem dX6_goOn_152 : decode cX6_goOn 152 = .ok (.if_icmp .ne 14, 3) := by decide +kernel
theorem dX6_goOn_155 : decode cX6_goOn 155 = .ok (.aload_n 0, 1) := by decide +kernel
theorem dX6_goOn_156 : decode cX6_goOn 156 = .ok (.invokevirtual 53, 3) := by decide +kernel
theorem dX6_goOn_159 : decode cX6_goOn 159 = .ok (.ifCond .eq 7, 3) := by decide +kernel
theorem dX6_goOn_162 : decode cX6_goOn 162 = .ok (.iconst 1, 1) := by decide +kernel
theorem dX6_goOn_163 : decode cX6_goOn 163 = .ok (.goto 4, 3) := by decide +kernel
theorem dX6_goOn_166 : decode cX6_goOn 166 = .ok (.iconst 0, 1) := by decide +kernel
theorem dX6_goOn_167 : decode cX6_goOn 167 = .ok (.ireturn, 1) := by decide +kernel
theorem dX6_isRowJustOpened_0 : decode cX6_isRowJustOpened 0 = .ok (.aload_n 0, 1) := by decide +kernel
theorem dX6_isRowJustOpened_1 : decode cX6_isRowJustOpened 1 = .ok (.getfield 34, 3) := by decide +kernel
theorem dX6_isRowJustOpened_4 : decode cX6_isRowJustOpened 4 = .ok (.ifCond .le 45, 3) := by decide +kernel
theorem dX6_isRowJustOpened_7 : decode cX6_isRowJustOpened 7 = .ok (.aload_n 0, 1) := by decide +kernel
theorem dX6_isRowJustOpened_8 : decode cX6_isRowJustOpened 8 = .ok (.getfield 34, 3) := by decide +kernel
theorem dX6_isRowJustOpened_11 : decode cX6_isRowJustOpened 11 = .ok (.bipush 6, 2) := by decide +kernel
theorem dX6_isRowJustOpened_13 : decode cX6_isRowJustOpened 13 = .ok (.if_icmp .gt 36, 3) := by decide +kernel
theorem dX6_isRowJustOpened_16 : decode cX6_isRowJustOpened 16 = .ok (.aload_n 0, 1) := by decide +kernel
theorem dX6_isRowJustOpened_17 : decode cX6_isRowJustOpened 17 = .ok (.getfield 28, 3) := by decide +kernel
theorem dX6_isRowJustOpened_20 : decode cX6_isRowJustOpened 20 = .ok (.aload_n 0, 1) := by decide +kernel
theorem dX6_isRowJustOpened_21 : decode cX6_isRowJustOpened 21 = .ok (.getfield 34, 3) := by decide +kernel
theorem dX6_isRowJustOpened_24 : decode cX6_isRowJustOpened 24 = .ok (.iconst 1, 1) := by decide +kernel
theorem dX6_isRowJustOpened_25 : decode cX6_isRowJustOpened 25 = .ok (.isub, 1) := by decide +kernel
theorem dX6_isRowJustOpened_26 : decode cX6_isRowJustOpened 26 = .ok (.iaload, 1) := by decide +kernel
theorem dX6_isRowJustOpened_27 : decode cX6_isRowJustOpened 27 = .ok (.iconst 2, 1) := by decide +kernel
theorem dX6_isRowJustOpened_28 : decode cX6_isRowJustOpened 28 = .ok (.if_icmp .ne 21, 3) := by decide +kernel
theorem dX6_isRowJustOpened_31 : decode cX6_isRowJustOpened 31 = .ok (.aload_n 0, 1) := by decide +kernel
theorem dX6_isRowJustOpened_32 : decode cX6_isRowJustOpened 32 = .ok (.getfield 31, 3) := by decide +kernel
theorem dX6_isRowJustOpened_35 : decode cX6_isRowJustOpened 35 = .ok (.aload_n 0, 1) := by decide +kernel
theorem dX6_isRowJustOpened_36 : decode cX6_isRowJustOpened 36 = .ok (.getfield 34, 3) := by decide +kernel
theorem dX6_isRowJustOpened_39 : decode cX6_isRowJustOpened 39 = .ok (.iconst 1, 1) := by decide +kernel
theorem dX6_isRowJustOpened_40 : decode cX6_isRowJustOpened 40 = .ok (.isub, 1) := by decide +kernel
theorem dX6_isRowJustOpened_41 : decode cX6_isRowJustOpened 41 = .ok (.iaload, 1) := by decide +kernel
theorem dX6_isRowJustOpened_42 : decode cX6_isRowJustOpened 42 = .ok (.ifCond .ne 7, 3) := by decide +kernel
theorem dX6_isRowJustOpened_45 : decode cX6_isRowJustOpened 45 = .ok (.iconst 1, 1) := by decide +kernel
theorem dX6_isRowJustOpened_46 : decode cX6_isRowJustOpened 46 = .ok (.goto 4, 3) := by decide +kernel
theorem dX6_isRowJustOpened_49 : decode cX6_isRowJustOpened 49 = .ok (.iconst 0, 1) := by decide +kernel
theorem dX6_isRowJustOpened_50 : decode cX6_isRowJustOpened 50 = .ok (.ireturn, 1) := by decide +kernel
theorem dX6_wantMore_0 : decode cX6_wantMore 0 = .ok (.aload_n 0, 1) := by decide +kernel
theorem dX6_wantMore_1 : decode cX6_wantMore 1 = .ok (.iconst 1, 1) := by decide +kernel
theorem dX6_wantMore_2 : decode cX6_wantMore 2 = .ok (.putfield 37, 3) := by decide +kernel
theorem dX6_wantMore_5 : decode cX6_wantMore 5 = .ok (.iconst 1, 1) := by decide +kernel
theorem dX6_wantMore_6 : decode cX6_wantMore 6 = .ok (.ireturn, 1) := by decide +kernel
theorem dX6_close_0 : decode cX6_close 0 = .ok (.aload_n 0, 1) := by decide +kernel
theorem dX6_close_1 : decode cX6_close 1 = .ok (.dup, 1) := by decide +kernel
theorem dX6_close_2 : decode cX6_close 2 = .ok (.getfield 34, 3) := by decide +kernel
theorem dX6_close_5 : decode cX6_close 5 = .ok (.iconst 1, 1) := by decide +kernel
theorem dX6_close_6 : decode cX6_close 6 = .ok (.isub, 1) := by decide +kernel
theorem dX6_close_7 : decode cX6_close 7 = .ok (.putfield 34, 3) := by decide +kernel
theorem dX6_close_10 : decode cX6_close 10 = .ok (.aload_n 0, 1) := by decide +kernel
theorem dX6_close_11 : decode cX6_close 11 = .ok (.iconst 0, 1) := by decide +kernel
theorem dX6_close_12 : decode cX6_close 12 = .ok (.putfield 37, 3) := by decide +kernel
theorem dX6_close_15 : decode cX6_close 15 = .ok (.iconst 1, 1) := by decide +kernel
theorem dX6_close_16 : decode cX6_close 16 = .ok (.ireturn, 1) := by decide +kernel
theorem dX7_init_0 : decode cX7_init 0 = .ok (.aload_n 0, 1) := by decide +kernel
theorem dX7_init_1 : decode cX7_init 1 = .ok (.invokespecial 3, 3) := by decide +kernel
theorem dX7_init_4 : decode cX7_init 4 = .ok (.aload_n 0, 1) := by decide +kernel
theorem dX7_init_5 : decode cX7_init 5 = .ok (.new 9, 3) := by decide +kernel
theorem dX7_init_8 : decode cX7_init 8 = .ok (.dup, 1) := by decide +kernel
theorem dX7_init_9 : decode cX7_init 9 = .ok (.invokespecial 11, 3) := by decide +kernel
theorem dX7_init_12 : decode cX7_init 12 = .ok (.putfield 12, 3) := by decide +kernel
theorem dX7_init_15 : decode cX7_init 15 = .ok (.aload_n 0, 1) := by decide +kernel
theorem dX7_init_16 : decode cX7_init 16 = .ok (.new 9, 3) := by decide +kernel
theorem dX7_init_19 : decode cX7_init 19 = .ok (.dup, 1) := by decide +kernel
theorem dX7_init_20 : decode cX7_init 20 = .ok (.invokespecial 11, 3) := by decide +kernel
theorem dX7_init_23 : decode cX7_init 23 = .ok (.putfield 18, 3) := by decide +kernel
theorem dX7_init_26 : decode cX7_init 26 = .ok (.aload_n 0, 1) := by decide +kernel
theorem dX7_init_27 : decode cX7_init 27 = .ok (.iconst 0, 1) := by decide +kernel
theorem dX7_init_28 : decode cX7_init 28 = .ok (.putfield 21, 3) := by decide +kernel
theorem dX7_init_31 : decode cX7_init 31 = .ok (.aload_n 0, 1) := by decide +kernel
theorem dX7_init_32 : decode cX7_init 32 = .ok (.new 25, 3) := by decide +kernel
theorem dX7_init_35 : decode cX7_init 35 = .ok (.dup, 1) := by decide +kernel
theorem dX7_init_36 : decode cX7_init 36 = .ok (.invokespecial 27, 3) := by decide +kernel
theorem dX7_init_39 : decode cX7_init 39 = .ok (.putfield 28, 3) := by decide +kernel
theorem dX7_init_42 : decode cX7_init 42 = .ok (.aload_n 0, 1) := by decide +kernel
theorem dX7_init_43 : decode cX7_init 43 = .ok (.new 32, 3) := by decide +kernel
theorem dX7_init_46 : decode cX7_init 46 = .ok (.dup, 1) := by decide +kernel
theorem dX7_init_47 : decode cX7_init 47 = .ok (.invokespecial 34, 3) := by decide +kernel
theorem dX7_init_50 : decode cX7_init 50 = .ok (.putfield 35, 3) := by decide +kernel
theorem dX7_init_53 : decode cX7_init 53 = .ok (.aload_n 0, 1) := by decide +kernel
theorem dX7_init_54 : decode cX7_init 54 = .ok (.new 39, 3) := by decide +kernel
theorem dX7_init_57 : decode cX7_init 57 = .ok (.dup, 1) := by decide +kernel
theorem dX7_init_58 : decode cX7_init 58 = .ok (.invokespecial 41, 3) := by decide +kernel
theorem dX7_init_61 : decode cX7_init 61 = .ok (.putfield 42, 3) := by decide +kernel
theorem dX7_init_64 : decode cX7_init 64 = .ok (.aload_n 0, 1) := by decide +kernel
theorem dX7_init_65 : decode cX7_init 65 = .ok (.new 46, 3) := by decide +kernel
theorem dX7_init_68 : decode cX7_init 68 = .ok (.dup, 1) := by decide +kernel
theorem dX7_init_69 : decode cX7_init 69 = .ok (.invokespecial 48, 3) := by decide +kernel
theorem dX7_init_72 : decode cX7_init 72 = .ok (.putfield 49, 3) := by decide +kernel
theorem dX7_init_75 : decode cX7_init 75 = .ok (.aload_n 0, 1) := by decide +kernel
theorem dX7_init_76 : decode cX7_init 76 = .ok (.new 53, 3) := by decide +kernel
theorem dX7_init_79 : decode cX7_init 79 = .ok (.dup, 1) := by decide +kernel
theorem dX7_init_80 : decode cX7_init 80 = .ok (.invokespecial 55, 3) := by decide +kernel
theorem dX7_init_83 : decode cX7_init 83 = .ok (.putfield 56, 3) := by decide +kernel
theorem dX7_init_86 : decode cX7_init 86 = .ok (.return_, 1) := by decide +kernel
theorem dX7_cell_0 : decode cX7_cell 0 = .ok (.iload_n 1, 1) := by decide +kernel
theorem dX7_cell_1 : decode cX7_cell 1 = .ok (.ifCond .lt 9, 3) := by decide +kernel
theorem dX7_cell_4 : decode cX7_cell 4 = .ok (.iload_n 1, 1) := by decide +kernel
theorem dX7_cell_5 : decode cX7_cell 5 = .ok (.bipush 6, 2) := by decide +kernel
theorem dX7_cell_7 : decode cX7_cell 7 = .ok (.if_icmp .le 5, 3) := by decide +kernel
theorem dX7_cell_10 : decode cX7_cell 10 = .ok (.iconst (-1), 1) := by decide +kernel
theorem dX7_cell_11 : decode cX7_cell 11 = .ok (.ireturn, 1) := by decide +kernel
theorem dX7_cell_12 : decode cX7_cell 12 = .ok (.iload_n 2, 1) := by decide +kernel
theorem dX7_cell_13 : decode cX7_cell 13 = .ok (.invokestatic 60, 3) := by decide +kernel
theorem dX7_cell_16 : decode cX7_cell 16 = .ok (.ifCond .eq 21, 3) := by decide +kernel
theorem dX7_cell_19 : decode cX7_cell 19 = .ok (.iload_n 1, 1) := by decide +kernel
theorem dX7_cell_20 : decode cX7_cell 20 = .ok (.iload_n 3, 1) := by decide +kernel
theorem dX7_cell_21 : decode cX7_cell 21 = .ok (.invokestatic 64, 3) := by decide +kernel
theorem dX7_cell_24 : decode cX7_cell 24 = .ok (.ifCond .lt 13, 3) := by decide +kernel
theorem dX7_cell_27 : decode cX7_cell 27 = .ok (.iload_n 1, 1) := by decide +kernel
theorem dX7_cell_28 : decode cX7_cell 28 = .ok (.iload_n 3, 1) := by decide +kernel
theorem dX7_cell_29 : decode cX7_cell 29 = .ok (.invokestatic 64, 3) := by decide +kernel
theorem dX7_cell_32 : decode cX7_cell 32 = .ok (.bipush 6, 2) := by decide +kernel
theorem dX7_cell_34 : decode cX7_cell 34 = .ok (.if_icmp .le 6, 3) := by decide +kernel
theorem dX7_cell_37 : decode cX7_cell 37 = .ok (.bipush (-2), 2) := by decide +kernel
theorem dX7_cell_39 : decode cX7_cell 39 = .ok (.ireturn, 1) := by decide +kernel
theorem dX7_cell_40 : decode cX7_cell 40 = .ok (.aload_n 0, 1) := by decide +kernel
theorem dX7_cell_41 : decode cX7_cell 41 = .ok (.getfield 12, 3) := by decide +kernel
theorem dX7_cell_44 : decode cX7_cell 44 = .ok (.getfield 68, 3) := by decide +kernel
theorem dX7_cell_47 : decode cX7_cell 47 = .ok (.getfield 71, 3) := by decide +kernel
theorem dX7_cell_50 : decode cX7_cell 50 = .ok (.ifCond .eq 6, 3) := by decide +kernel
theorem dX7_cell_53 : decode cX7_cell 53 = .ok (.bipush (-3), 2) := by decide +kernel
theorem dX7_cell_55 : decode cX7_cell 55 = .ok (.ireturn, 1) := by decide +kernel
theorem dX7_cell_56 : decode cX7_cell 56 = .ok (.aload_n 0, 1) := by decide +kernel
theorem dX7_cell_57 : decode cX7_cell 57 = .ok (.getfield 12, 3) := by decide +kernel
theorem dX7_cell_60 : decode cX7_cell 60 = .ok (.getfield 74, 3) := by decide +kernel
theorem dX7_cell_63 : decode cX7_cell 63 = .ok (.getfield 77, 3) := by decide +kernel
theorem dX7_cell_66 : decode cX7_cell 66 = .ok (.bipush 24, 2) := by decide +kernel
theorem dX7_cell_68 : decode cX7_cell 68 = .ok (.if_icmp .lt 6, 3) := by decide +kernel
theorem dX7_cell_71 : decode cX7_cell 71 = .ok (.bipush (-4), 2) := by decide +kernel
theorem dX7_cell_73 : decode cX7_cell 73 = .ok (.ireturn, 1) := by decide +kernel
theorem dX7_cell_74 : decode cX7_cell 74 = .ok (.aload_n 0, 1) := by decide +kernel
theorem dX7_cell_75 : decode cX7_cell 75 = .ok (.getfield 12, 3) := by decide +kernel
theorem dX7_cell_78 : decode cX7_cell 78 = .ok (.getfield 68, 3) := by decide +kernel
theorem dX7_cell_81 : decode cX7_cell 81 = .ok (.iconst 0, 1) := by decide +kernel
theorem dX7_cell_82 : decode cX7_cell 82 = .ok (.putfield 81, 3) := by decide +kernel
theorem dX7_cell_85 : decode cX7_cell 85 = .ok (.aload_n 0, 1) := by decide +kernel
theorem dX7_cell_86 : decode cX7_cell 86 = .ok (.getfield 12, 3) := by decide +kernel
theorem dX7_cell_89 : decode cX7_cell 89 = .ok (.getfield 74, 3) := by decide +kernel
theorem dX7_cell_92 : decode cX7_cell 92 = .ok (.iload_n 1, 1) := by decide +kernel
theorem dX7_cell_93 : decode cX7_cell 93 = .ok (.iload_n 2, 1) := by decide +kernel
theorem dX7_cell_94 : decode cX7_cell 94 = .ok (.iload_n 1, 1) := by decide +kernel
theorem dX7_cell_95 : decode cX7_cell 95 = .ok (.iload_n 3, 1) := by decide +kernel
theorem dX7_cell_96 : decode cX7_cell 96 = .ok (.invokestatic 64, 3) := by decide +kernel
theorem dX7_cell_99 : decode cX7_cell 99 = .ok (.invokevirtual 84, 3) := by decide +kernel
theorem dX7_cell_102 : decode cX7_cell 102 = .ok (.ireturn, 1) := by decide +kernel
theorem dX7_of_0 : decode cX7_of 0 = .ok (.aload_n 0, 1) := by decide +kernel
theorem dX7_of_1 : decode cX7_of 1 = .ok (.getfield 12, 3) := by decide +kernel
theorem dX7_of_4 : decode cX7_of 4 = .ok (.getfield 74, 3) := by decide +kernel
theorem dX7_of_7 : decode cX7_of 7 = .ok (.astore_n 3, 1) := by decide +kernel
theorem dX7_of_8 : decode cX7_of 8 = .ok (.aload_n 0, 1) := by decide +kernel
theorem dX7_of_9 : decode cX7_of 9 = .ok (.getfield 12, 3) := by decide +kernel
theorem dX7_of_12 : decode cX7_of 12 = .ok (.getfield 68, 3) := by decide +kernel
theorem dX7_of_15 : decode cX7_of 15 = .ok (.astore 4, 2) := by decide +kernel
theorem dX7_of_17 : decode cX7_of 17 = .ok (.aload_n 3, 1) := by decide +kernel
theorem dX7_of_18 : decode cX7_of 18 = .ok (.iload_n 1, 1) := by decide +kernel
theorem dX7_of_19 : decode cX7_of 19 = .ok (.invokevirtual 88, 3) := by decide +kernel
theorem dX7_of_22 : decode cX7_of 22 = .ok (.ifCond .ne 5, 3) := by decide +kernel
theorem dX7_of_25 : decode cX7_of 25 = .ok (.iconst (-1), 1) := by decide +kernel
theorem dX7_of_26 : decode cX7_of 26 = .ok (.ireturn, 1) := by decide +kernel
theorem dX7_of_27 : decode cX7_of 27 = .ok (.iload_n 2, 1) := by decide +kernel
theorem dX7_of_28 : decode cX7_of 28 = .ok (.tableswitch 146 0 12 #[68, 74, 80, 86, 99, 106, 119, 131, 146, 146, 146, 146, 137], 68) := by decide +kernel
theorem dX7_of_96 : decode cX7_of 96 = .ok (.aload_n 3, 1) := by decide +kernel
theorem dX7_of_97 : decode cX7_of 97 = .ok (.iload_n 1, 1) := by decide +kernel
theorem dX7_of_98 : decode cX7_of 98 = .ok (.invokevirtual 91, 3) := by decide +kernel
theorem dX7_of_101 : decode cX7_of 101 = .ok (.ireturn, 1) := by decide +kernel
theorem dX7_of_102 : decode cX7_of 102 = .ok (.aload_n 3, 1) := by decide +kernel
theorem dX7_of_103 : decode cX7_of 103 = .ok (.iload_n 1, 1) := by decide +kernel
theorem dX7_of_104 : decode cX7_of 104 = .ok (.invokevirtual 95, 3) := by decide +kernel
theorem dX7_of_107 : decode cX7_of 107 = .ok (.ireturn, 1) := by decide +kernel
theorem dX7_of_108 : decode cX7_of 108 = .ok (.aload_n 3, 1) := by decide +kernel
theorem dX7_of_109 : decode cX7_of 109 = .ok (.iload_n 1, 1) := by decide +kernel
theorem dX7_of_110 : decode cX7_of 110 = .ok (.invokevirtual 98, 3) := by decide +kernel
theorem dX7_of_113 : decode cX7_of 113 = .ok (.ireturn, 1) := by decide +kernel
theorem dX7_of_114 : decode cX7_of 114 = .ok (.aload 4, 2) := by decide +kernel
theorem dX7_of_116 : decode cX7_of 116 = .ok (.getfield 101, 3) := by decide +kernel
theorem dX7_of_119 : decode cX7_of 119 = .ok (.iload_n 1, 1) := by decide +kernel
theorem dX7_of_120 : decode cX7_of 120 = .ok (.invokestatic 104, 3) := by decide +kernel
theorem dX7_of_123 : decode cX7_of 123 = .ok (.invokestatic 108, 3) := by decide +kernel
theorem dX7_of_126 : decode cX7_of 126 = .ok (.ireturn, 1) := by decide +kernel
theorem dX7_of_127 : decode cX7_of 127 = .ok (.aload 4, 2) := by decide +kernel
theorem dX7_of_129 : decode cX7_of 129 = .ok (.iload_n 1, 1) := by decide +kernel
theorem dX7_of_130 : decode cX7_of 130 = .ok (.invokevirtual 112, 3) := by decide +kernel
theorem dX7_of_133 : decode cX7_of 133 = .ok (.ireturn, 1) := by decide +kernel
theorem dX7_of_134 : decode cX7_of 134 = .ok (.aload 4, 2) := by decide +kernel
theorem dX7_of_136 : decode cX7_of 136 = .ok (.getfield 115, 3) := by decide +kernel
theorem dX7_of_139 : decode cX7_of 139 = .ok (.iload_n 1, 1) := by decide +kernel
theorem dX7_of_140 : decode cX7_of 140 = .ok (.invokestatic 104, 3) := by decide +kernel
theorem dX7_of_143 : decode cX7_of 143 = .ok (.invokestatic 108, 3) := by decide +kernel
theorem dX7_of_146 : decode cX7_of 146 = .ok (.ireturn, 1) := by decide +kernel
theorem dX7_of_147 : decode cX7_of 147 = .ok (.aload_n 3, 1) := by decide +kernel
theorem dX7_of_148 : decode cX7_of 148 = .ok (.getfield 118, 3) := by decide +kernel
theorem dX7_of_151 : decode cX7_of 151 = .ok (.iload_n 1, 1) := by decide +kernel
theorem dX7_of_152 : decode cX7_of 152 = .ok (.invokestatic 104, 3) := by decide +kernel
theorem dX7_of_155 : decode cX7_of 155 = .ok (.invokestatic 108, 3) := by decide +kernel
theorem dX7_of_158 : decode cX7_of 158 = .ok (.ireturn, 1) := by decide +kernel
theorem dX7_of_159 : decode cX7_of 159 = .ok (.aload_n 3, 1) := by decide +kernel
theorem dX7_of_160 : decode cX7_of 160 = .ok (.iload_n 1, 1) := by decide +kernel
theorem dX7_of_161 : decode cX7_of 161 = .ok (.invokevirtual 121, 3) := by decide +kernel
theorem dX7_of_164 : decode cX7_of 164 = .ok (.ireturn, 1) := by decide +kernel
theorem dX7_of_165 : decode cX7_of 165 = .ok (.aload_n 3, 1) := by decide +kernel
theorem dX7_of_166 : decode cX7_of 166 = .ok (.iload_n 1, 1) := by decide +kernel
theorem dX7_of_167 : decode cX7_of 167 = .ok (.invokevirtual 98, 3) := by decide +kernel
theorem dX7_of_170 : decode cX7_of 170 = .ok (.invokestatic 124, 3) := by decide +kernel
theorem dX7_of_173 : decode cX7_of 173 = .ok (.ireturn, 1) := by decide +kernel
theorem dX7_of_174 : decode cX7_of 174 = .ok (.aload_n 0, 1) := by decide +kernel
theorem dX7_of_175 : decode cX7_of 175 = .ok (.iload_n 1, 1) := by decide +kernel
theorem dX7_of_176 : decode cX7_of 176 = .ok (.iload_n 2, 1) := by decide +kernel
theorem dX7_of_177 : decode cX7_of 177 = .ok (.invokevirtual 127, 3) := by decide +kernel
theorem dX7_of_180 : decode cX7_of 180 = .ok (.ireturn, 1) := by decide +kernel
theorem dX7_field_0 : decode cX7_field 0 = .ok (.aload_n 0, 1) := by decide +kernel
theorem dX7_field_1 : decode cX7_field 1 = .ok (.getfield 12, 3) := by decide +kernel
theorem dX7_field_4 : decode cX7_field 4 = .ok (.getfield 74, 3) := by decide +kernel
theorem dX7_field_7 : decode cX7_field 7 = .ok (.iload_n 1, 1) := by decide +kernel
theorem dX7_field_8 : decode cX7_field 8 = .ok (.iload_n 2, 1) := by decide +kernel
theorem dX7_field_9 : decode cX7_field 9 = .ok (.invokevirtual 130, 3) := by decide +kernel
theorem dX7_field_12 : decode cX7_field 12 = .ok (.ifCond .eq 18, 3) := by decide +kernel
theorem dX7_field_15 : decode cX7_field 15 = .ok (.aload_n 0, 1) := by decide +kernel
theorem dX7_field_16 : decode cX7_field 16 = .ok (.getfield 12, 3) := by decide +kernel
theorem dX7_field_19 : decode cX7_field 19 = .ok (.getfield 74, 3) := by decide +kernel
theorem dX7_field_22 : decode cX7_field 22 = .ok (.iload_n 1, 1) := by decide +kernel
theorem dX7_field_23 : decode cX7_field 23 = .ok (.iload_n 2, 1) := by decide +kernel
theorem dX7_field_24 : decode cX7_field 24 = .ok (.invokevirtual 133, 3) := by decide +kernel
theorem dX7_field_27 : decode cX7_field 27 = .ok (.goto 4, 3) := by decide +kernel
theorem dX7_field_30 : decode cX7_field 30 = .ok (.iconst (-1), 1) := by decide +kernel
theorem dX7_field_31 : decode cX7_field 31 = .ok (.ireturn, 1) := by decide +kernel
theorem dX7_raw_0 : decode cX7_raw 0 = .ok (.aload_n 0, 1) := by decide +kernel
theorem dX7_raw_1 : decode cX7_raw 1 = .ok (.getfield 12, 3) := by decide +kernel
theorem dX7_raw_4 : decode cX7_raw 4 = .ok (.getfield 74, 3) := by decide +kernel
theorem dX7_raw_7 : decode cX7_raw 7 = .ok (.iload_n 1, 1) := by decide +kernel
theorem dX7_raw_8 : decode cX7_raw 8 = .ok (.iload_n 2, 1) := by decide +kernel
theorem dX7_raw_9 : decode cX7_raw 9 = .ok (.invokevirtual 130, 3) := by decide +kernel
theorem dX7_raw_12 : decode cX7_raw 12 = .ok (.ifCond .ne 5, 3) := by decide +kernel
theorem dX7_raw_15 : decode cX7_raw 15 = .ok (.iconst (-1), 1) := by decide +kernel
theorem dX7_raw_16 : decode cX7_raw 16 = .ok (.ireturn, 1) := by decide +kernel
theorem dX7_raw_17 : decode cX7_raw 17 = .ok (.aload_n 0, 1) := by decide +kernel
theorem dX7_raw_18 : decode cX7_raw 18 = .ok (.getfield 12, 3) := by decide +kernel
theorem dX7_raw_21 : decode cX7_raw 21 = .ok (.getfield 68, 3) := by decide +kernel
theorem dX7_raw_24 : decode cX7_raw 24 = .ok (.iload_n 1, 1) := by decide +kernel
theorem dX7_raw_25 : decode cX7_raw 25 = .ok (.iload_n 2, 1) := by decide +kernel
theorem dX7_raw_26 : decode cX7_raw 26 = .ok (.invokevirtual 136, 3) := by decide +kernel
theorem dX7_raw_29 : decode cX7_raw 29 = .ok (.ifCond .eq 17, 3) := by decide +kernel
theorem dX7_raw_32 : decode cX7_raw 32 = .ok (.aload_n 0, 1) := by decide +kernel
theorem dX7_raw_33 : decode cX7_raw 33 = .ok (.getfield 12, 3) := by decide +kernel
theorem dX7_raw_36 : decode cX7_raw 36 = .ok (.getfield 68, 3) := by decide +kernel
theorem dX7_raw_39 : decode cX7_raw 39 = .ok (.iload_n 1, 1) := by decide +kernel
theorem dX7_raw_40 : decode cX7_raw 40 = .ok (.invokevirtual 139, 3) := by decide +kernel
theorem dX7_raw_43 : decode cX7_raw 43 = .ok (.goto 15, 3) := by decide +kernel
theorem dX7_raw_46 : decode cX7_raw 46 = .ok (.aload_n 0, 1) := by decide +kernel
theorem dX7_raw_47 : decode cX7_raw 47 = .ok (.getfield 12, 3) := by decide +kernel
theorem dX7_raw_50 : decode cX7_raw 50 = .ok (.getfield 74, 3) := by decide +kernel
theorem dX7_raw_53 : decode cX7_raw 53 = .ok (.iload_n 1, 1) := by decide +kernel
theorem dX7_raw_54 : decode cX7_raw 54 = .ok (.iload_n 2, 1) := by decide +kernel
theorem dX7_raw_55 : decode cX7_raw 55 = .ok (.invokevirtual 133, 3) := by decide +kernel
theorem dX7_raw_58 : decode cX7_raw 58 = .ok (.ireturn, 1) := by decide +kernel
theorem dX7_hold_0 : decode cX7_hold 0 = .ok (.aload_n 0, 1) := by decide +kernel
theorem dX7_hold_1 : decode cX7_hold 1 = .ok (.getfield 12, 3) := by decide +kernel
theorem dX7_hold_4 : decode cX7_hold 4 = .ok (.getfield 74, 3) := by decide +kernel
theorem dX7_hold_7 : decode cX7_hold 7 = .ok (.iload_n 1, 1) := by decide +kernel
theorem dX7_hold_8 : decode cX7_hold 8 = .ok (.iload_n 2, 1) := by decide +kernel
theorem dX7_hold_9 : decode cX7_hold 9 = .ok (.invokevirtual 130, 3) := by decide +kernel
theorem dX7_hold_12 : decode cX7_hold 12 = .ok (.ifCond .eq 17, 3) := by decide +kernel
theorem dX7_hold_15 : decode cX7_hold 15 = .ok (.aload_n 0, 1) := by decide +kernel
theorem dX7_hold_16 : decode cX7_hold 16 = .ok (.getfield 12, 3) := by decide +kernel
theorem dX7_hold_19 : decode cX7_hold 19 = .ok (.getfield 74, 3) := by decide +kernel
theorem dX7_hold_22 : decode cX7_hold 22 = .ok (.iload_n 3, 1) := by decide +kernel
theorem dX7_hold_23 : decode cX7_hold 23 = .ok (.invokevirtual 142, 3) := by decide +kernel
theorem dX7_hold_26 : decode cX7_hold 26 = .ok (.ifCond .ne 5, 3) := by decide +kernel
theorem dX7_hold_29 : decode cX7_hold 29 = .ok (.iconst (-1), 1) := by decide +kernel
theorem dX7_hold_30 : decode cX7_hold 30 = .ok (.ireturn, 1) := by decide +kernel
theorem dX7_hold_31 : decode cX7_hold 31 = .ok (.aload_n 0, 1) := by decide +kernel
theorem dX7_hold_32 : decode cX7_hold 32 = .ok (.getfield 12, 3) := by decide +kernel
theorem dX7_hold_35 : decode cX7_hold 35 = .ok (.getfield 68, 3) := by decide +kernel
theorem dX7_hold_38 : decode cX7_hold 38 = .ok (.getfield 71, 3) := by decide +kernel
theorem dX7_hold_41 : decode cX7_hold 41 = .ok (.ifCond .eq 6, 3) := by decide +kernel
theorem dX7_hold_44 : decode cX7_hold 44 = .ok (.bipush (-3), 2) := by decide +kernel
theorem dX7_hold_46 : decode cX7_hold 46 = .ok (.ireturn, 1) := by decide +kernel
theorem dX7_hold_47 : decode cX7_hold 47 = .ok (.aload_n 0, 1) := by decide +kernel
theorem dX7_hold_48 : decode cX7_hold 48 = .ok (.getfield 12, 3) := by decide +kernel
theorem dX7_hold_51 : decode cX7_hold 51 = .ok (.getfield 74, 3) := by decide +kernel
theorem dX7_hold_54 : decode cX7_hold 54 = .ok (.iload_n 1, 1) := by decide +kernel
theorem dX7_hold_55 : decode cX7_hold 55 = .ok (.iload_n 2, 1) := by decide +kernel
theorem dX7_hold_56 : decode cX7_hold 56 = .ok (.invokevirtual 133, 3) := by decide +kernel
theorem dX7_hold_59 : decode cX7_hold 59 = .ok (.istore 4, 2) := by decide +kernel
theorem dX7_hold_61 : decode cX7_hold 61 = .ok (.aload_n 0, 1) := by decide +kernel
theorem dX7_hold_62 : decode cX7_hold 62 = .ok (.getfield 12, 3) := by decide +kernel
theorem dX7_hold_65 : decode cX7_hold 65 = .ok (.getfield 74, 3) := by decide +kernel
theorem dX7_hold_68 : decode cX7_hold 68 = .ok (.iload_n 1, 1) := by decide +kernel
theorem dX7_hold_69 : decode cX7_hold 69 = .ok (.iload_n 2, 1) := by decide +kernel
theorem dX7_hold_70 : decode cX7_hold 70 = .ok (.iload_n 3, 1) := by decide +kernel
theorem dX7_hold_71 : decode cX7_hold 71 = .ok (.invokestatic 145, 3) := by decide +kernel
theorem dX7_hold_74 : decode cX7_hold 74 = .ok (.invokevirtual 148, 3) := by decide +kernel
theorem dX7_hold_77 : decode cX7_hold 77 = .ok (.aload_n 0, 1) := by decide +kernel
theorem dX7_hold_78 : decode cX7_hold 78 = .ok (.getfield 12, 3) := by decide +kernel
theorem dX7_hold_81 : decode cX7_hold 81 = .ok (.getfield 68, 3) := by decide +kernel
theorem dX7_hold_84 : decode cX7_hold 84 = .ok (.iconst 0, 1) := by decide +kernel
theorem dX7_hold_85 : decode cX7_hold 85 = .ok (.putfield 81, 3) := by decide +kernel
theorem dX7_hold_88 : decode cX7_hold 88 = .ok (.iload 4, 2) := by decide +kernel
theorem dX7_hold_90 : decode cX7_hold 90 = .ok (.ireturn, 1) := by decide +kernel
theorem dX7_tag_0 : decode cX7_tag 0 = .ok (.aload_n 0, 1) := by decide +kernel
theorem dX7_tag_1 : decode cX7_tag 1 = .ok (.getfield 12, 3) := by decide +kernel
theorem dX7_tag_4 : decode cX7_tag 4 = .ok (.getfield 74, 3) := by decide +kernel
theorem dX7_tag_7 : decode cX7_tag 7 = .ok (.iload_n 1, 1) := by decide +kernel
theorem dX7_tag_8 : decode cX7_tag 8 = .ok (.invokevirtual 88, 3) := by decide +kernel
theorem dX7_tag_11 : decode cX7_tag 11 = .ok (.ifCond .ne 5, 3) := by decide +kernel
theorem dX7_tag_14 : decode cX7_tag 14 = .ok (.iconst (-1), 1) := by decide +kernel
theorem dX7_tag_15 : decode cX7_tag 15 = .ok (.ireturn, 1) := by decide +kernel
theorem dX7_tag_16 : decode cX7_tag 16 = .ok (.iload_n 2, 1) := by decide +kernel
theorem dX7_tag_17 : decode cX7_tag 17 = .ok (.invokestatic 60, 3) := by decide +kernel
theorem dX7_tag_20 : decode cX7_tag 20 = .ok (.ifCond .ne 6, 3) := by decide +kernel
theorem dX7_tag_23 : decode cX7_tag 23 = .ok (.bipush (-2), 2) := by decide +kernel
theorem dX7_tag_25 : decode cX7_tag 25 = .ok (.ireturn, 1) := by decide +kernel
theorem dX7_tag_26 : decode cX7_tag 26 = .ok (.aload_n 0, 1) := by decide +kernel
theorem dX7_tag_27 : decode cX7_tag 27 = .ok (.getfield 12, 3) := by decide +kernel
theorem dX7_tag_30 : decode cX7_tag 30 = .ok (.getfield 68, 3) := by decide +kernel
theorem dX7_tag_33 : decode cX7_tag 33 = .ok (.getfield 71, 3) := by decide +kernel
theorem dX7_tag_36 : decode cX7_tag 36 = .ok (.ifCond .eq 6, 3) := by decide +kernel
theorem dX7_tag_39 : decode cX7_tag 39 = .ok (.bipush (-3), 2) := by decide +kernel
theorem dX7_tag_41 : decode cX7_tag 41 = .ok (.ireturn, 1) := by decide +kernel
theorem dX7_tag_42 : decode cX7_tag 42 = .ok (.aload_n 0, 1) := by decide +kernel
theorem dX7_tag_43 : decode cX7_tag 43 = .ok (.getfield 12, 3) := by decide +kernel
theorem dX7_tag_46 : decode cX7_tag 46 = .ok (.getfield 74, 3) := by decide +kernel
theorem dX7_tag_49 : decode cX7_tag 49 = .ok (.iload_n 1, 1) := by decide +kernel
theorem dX7_tag_50 : decode cX7_tag 50 = .ok (.invokevirtual 95, 3) := by decide +kernel
theorem dX7_tag_53 : decode cX7_tag 53 = .ok (.istore_n 3, 1) := by decide +kernel
theorem dX7_tag_54 : decode cX7_tag 54 = .ok (.aload_n 0, 1) := by decide +kernel
theorem dX7_tag_55 : decode cX7_tag 55 = .ok (.getfield 12, 3) := by decide +kernel
theorem dX7_tag_58 : decode cX7_tag 58 = .ok (.getfield 74, 3) := by decide +kernel
theorem dX7_tag_61 : decode cX7_tag 61 = .ok (.iload_n 1, 1) := by decide +kernel
theorem dX7_tag_62 : decode cX7_tag 62 = .ok (.iload_n 2, 1) := by decide +kernel
theorem dX7_tag_63 : decode cX7_tag 63 = .ok (.invokevirtual 152, 3) := by decide +kernel
theorem dX7_tag_66 : decode cX7_tag 66 = .ok (.aload_n 0, 1) := by decide +kernel
theorem dX7_tag_67 : decode cX7_tag 67 = .ok (.getfield 12, 3) := by decide +kernel
theorem dX7_tag_70 : decode cX7_tag 70 = .ok (.getfield 68, 3) := by decide +kernel
theorem dX7_tag_73 : decode cX7_tag 73 = .ok (.iconst 0, 1) := by decide +kernel
theorem dX7_tag_74 : decode cX7_tag 74 = .ok (.putfield 81, 3) := by decide +kernel
theorem dX7_tag_77 : decode cX7_tag 77 = .ok (.iload_n 3, 1) := by decide +kernel
theorem dX7_tag_78 : decode cX7_tag 78 = .ok (.ireturn, 1) := by decide +kernel
theorem dX7_root_0 : decode cX7_root 0 = .ok (.iload_n 1, 1) := by decide +kernel
theorem dX7_root_1 : decode cX7_root 1 = .ok (.invokestatic 156, 3) := by decide +kernel
theorem dX7_root_4 : decode cX7_root 4 = .ok (.ifCond .eq 17, 3) := by decide +kernel
theorem dX7_root_7 : decode cX7_root 7 = .ok (.aload_n 0, 1) := by decide +kernel
theorem dX7_root_8 : decode cX7_root 8 = .ok (.getfield 12, 3) := by decide +kernel
theorem dX7_root_11 : decode cX7_root 11 = .ok (.getfield 74, 3) := by decide +kernel
theorem dX7_root_14 : decode cX7_root 14 = .ok (.iload_n 2, 1) := by decide +kernel
theorem dX7_root_15 : decode cX7_root 15 = .ok (.invokevirtual 142, 3) := by decide +kernel
theorem dX7_root_18 : decode cX7_root 18 = .ok (.ifCond .ne 5, 3) := by decide +kernel
theorem dX7_root_21 : decode cX7_root 21 = .ok (.iconst (-1), 1) := by decide +kernel
theorem dX7_root_22 : decode cX7_root 22 = .ok (.ireturn, 1) := by decide +kernel
theorem dX7_root_23 : decode cX7_root 23 = .ok (.aload_n 0, 1) := by decide +kernel
theorem dX7_root_24 : decode cX7_root 24 = .ok (.getfield 12, 3) := by decide +kernel
theorem dX7_root_27 : decode cX7_root 27 = .ok (.getfield 68, 3) := by decide +kernel
theorem dX7_root_30 : decode cX7_root 30 = .ok (.getfield 71, 3) := by decide +kernel
theorem dX7_root_33 : decode cX7_root 33 = .ok (.ifCond .eq 6, 3) := by decide +kernel
theorem dX7_root_36 : decode cX7_root 36 = .ok (.bipush (-3), 2) := by decide +kernel
theorem dX7_root_38 : decode cX7_root 38 = .ok (.ireturn, 1) := by decide +kernel
theorem dX7_root_39 : decode cX7_root 39 = .ok (.aload_n 0, 1) := by decide +kernel
theorem dX7_root_40 : decode cX7_root 40 = .ok (.getfield 12, 3) := by decide +kernel
theorem dX7_root_43 : decode cX7_root 43 = .ok (.getfield 74, 3) := by decide +kernel
theorem dX7_root_46 : decode cX7_root 46 = .ok (.iload_n 1, 1) := by decide +kernel
theorem dX7_root_47 : decode cX7_root 47 = .ok (.invokevirtual 159, 3) := by decide +kernel
theorem dX7_root_50 : decode cX7_root 50 = .ok (.istore_n 3, 1) := by decide +kernel
theorem dX7_root_51 : decode cX7_root 51 = .ok (.aload_n 0, 1) := by decide +kernel
theorem dX7_root_52 : decode cX7_root 52 = .ok (.getfield 12, 3) := by decide +kernel
theorem dX7_root_55 : decode cX7_root 55 = .ok (.getfield 74, 3) := by decide +kernel
theorem dX7_root_58 : decode cX7_root 58 = .ok (.iload_n 1, 1) := by decide +kernel
theorem dX7_root_59 : decode cX7_root 59 = .ok (.iload_n 2, 1) := by decide +kernel
theorem dX7_root_60 : decode cX7_root 60 = .ok (.invokestatic 145, 3) := by decide +kernel
theorem dX7_root_63 : decode cX7_root 63 = .ok (.invokevirtual 162, 3) := by decide +kernel
theorem dX7_root_66 : decode cX7_root 66 = .ok (.aload_n 0, 1) := by decide +kernel
theorem dX7_root_67 : decode cX7_root 67 = .ok (.getfield 12, 3) := by decide +kernel
theorem dX7_root_70 : decode cX7_root 70 = .ok (.getfield 68, 3) := by decide +kernel
theorem dX7_root_73 : decode cX7_root 73 = .ok (.iconst 0, 1) := by decide +kernel
theorem dX7_root_74 : decode cX7_root 74 = .ok (.putfield 81, 3) := by decide +kernel
theorem dX7_root_77 : decode cX7_root 77 = .ok (.iload_n 3, 1) := by decide +kernel
theorem dX7_root_78 : decode cX7_root 78 = .ok (.ireturn, 1) := by decide +kernel
theorem dX7_pin_0 : decode cX7_pin 0 = .ok (.aload_n 0, 1) := by decide +kernel
theorem dX7_pin_1 : decode cX7_pin 1 = .ok (.getfield 12, 3) := by decide +kernel
theorem dX7_pin_4 : decode cX7_pin 4 = .ok (.getfield 74, 3) := by decide +kernel
theorem dX7_pin_7 : decode cX7_pin 7 = .ok (.iload_n 1, 1) := by decide +kernel
theorem dX7_pin_8 : decode cX7_pin 8 = .ok (.invokevirtual 88, 3) := by decide +kernel
theorem dX7_pin_11 : decode cX7_pin 11 = .ok (.ifCond .ne 5, 3) := by decide +kernel
theorem dX7_pin_14 : decode cX7_pin 14 = .ok (.iconst (-1), 1) := by decide +kernel
theorem dX7_pin_15 : decode cX7_pin 15 = .ok (.ireturn, 1) := by decide +kernel
theorem dX7_pin_16 : decode cX7_pin 16 = .ok (.aload_n 0, 1) := by decide +kernel
theorem dX7_pin_17 : decode cX7_pin 17 = .ok (.getfield 12, 3) := by decide +kernel
theorem dX7_pin_20 : decode cX7_pin 20 = .ok (.getfield 68, 3) := by decide +kernel
theorem dX7_pin_23 : decode cX7_pin 23 = .ok (.iload_n 1, 1) := by decide +kernel
theorem dX7_pin_24 : decode cX7_pin 24 = .ok (.invokevirtual 165, 3) := by decide +kernel
theorem dX7_pin_27 : decode cX7_pin 27 = .ok (.ifCond .eq 6, 3) := by decide +kernel
theorem dX7_pin_30 : decode cX7_pin 30 = .ok (.bipush (-3), 2) := by decide +kernel
theorem dX7_pin_32 : decode cX7_pin 32 = .ok (.ireturn, 1) := by decide +kernel
theorem dX7_pin_33 : decode cX7_pin 33 = .ok (.aload_n 0, 1) := by decide +kernel
theorem dX7_pin_34 : decode cX7_pin 34 = .ok (.getfield 12, 3) := by decide +kernel
theorem dX7_pin_37 : decode cX7_pin 37 = .ok (.getfield 74, 3) := by decide +kernel
theorem dX7_pin_40 : decode cX7_pin 40 = .ok (.getfield 118, 3) := by decide +kernel
theorem dX7_pin_43 : decode cX7_pin 43 = .ok (.iload_n 1, 1) := by decide +kernel
theorem dX7_pin_44 : decode cX7_pin 44 = .ok (.invokestatic 104, 3) := by decide +kernel
theorem dX7_pin_47 : decode cX7_pin 47 = .ok (.istore_n 3, 1) := by decide +kernel
theorem dX7_pin_48 : decode cX7_pin 48 = .ok (.aload_n 0, 1) := by decide +kernel
theorem dX7_pin_49 : decode cX7_pin 49 = .ok (.getfield 12, 3) := by decide +kernel
theorem dX7_pin_52 : decode cX7_pin 52 = .ok (.getfield 74, 3) := by decide +kernel
theorem dX7_pin_55 : decode cX7_pin 55 = .ok (.iload_n 2, 1) := by decide +kernel
theorem dX7_pin_56 : decode cX7_pin 56 = .ok (.ifCond .eq 21, 3) := by decide +kernel
theorem dX7_pin_59 : decode cX7_pin 59 = .ok (.aload_n 0, 1) := by decide +kernel
theorem dX7_pin_60 : decode cX7_pin 60 = .ok (.getfield 12, 3) := by decide +kernel
theorem dX7_pin_63 : decode cX7_pin 63 = .ok (.getfield 74, 3) := by decide +kernel
theorem dX7_pin_66 : decode cX7_pin 66 = .ok (.getfield 118, 3) := by decide +kernel
theorem dX7_pin_69 : decode cX7_pin 69 = .ok (.iload_n 1, 1) := by decide +kernel
theorem dX7_pin_70 : decode cX7_pin 70 = .ok (.invokestatic 168, 3) := by decide +kernel
theorem dX7_pin_73 : decode cX7_pin 73 = .ok (.ior, 1) := by decide +kernel
theorem dX7_pin_74 : decode cX7_pin 74 = .ok (.goto 20, 3) := by decide +kernel
theorem dX7_pin_77 : decode cX7_pin 77 = .ok (.aload_n 0, 1) := by decide +kernel
theorem dX7_pin_78 : decode cX7_pin 78 = .ok (.getfield 12, 3) := by decide +kernel
theorem dX7_pin_81 : decode cX7_pin 81 = .ok (.getfield 74, 3) := by decide +kernel
theorem dX7_pin_84 : decode cX7_pin 84 = .ok (.getfield 118, 3) := by decide +kernel
theorem dX7_pin_87 : decode cX7_pin 87 = .ok (.iload_n 1, 1) := by decide +kernel
theorem dX7_pin_88 : decode cX7_pin 88 = .ok (.invokestatic 168, 3) := by decide +kernel
theorem dX7_pin_91 : decode cX7_pin 91 = .ok (.iconst (-1), 1) := by decide +kernel
theorem dX7_pin_92 : decode cX7_pin 92 = .ok (.ixor, 1) := by decide +kernel
theorem dX7_pin_93 : decode cX7_pin 93 = .ok (.iand, 1) := by decide +kernel
theorem dX7_pin_94 : decode cX7_pin 94 = .ok (.putfield 118, 3) := by decide +kernel
theorem dX7_pin_97 : decode cX7_pin 97 = .ok (.iload_n 3, 1) := by decide +kernel
theorem dX7_pin_98 : decode cX7_pin 98 = .ok (.invokestatic 108, 3) := by decide +kernel
theorem dX7_pin_101 : decode cX7_pin 101 = .ok (.ireturn, 1) := by decide +kernel
theorem dX7_feed_0 : decode cX7_feed 0 = .ok (.iload_n 1, 1) := by decide +kernel
theorem dX7_feed_1 : decode cX7_feed 1 = .ok (.ifCond .lt 9, 3) := by decide +kernel
theorem dX7_feed_4 : decode cX7_feed 4 = .ok (.iload_n 1, 1) := by decide +kernel
theorem dX7_feed_5 : decode cX7_feed 5 = .ok (.bipush 127, 2) := by decide +kernel
theorem dX7_feed_7 : decode cX7_feed 7 = .ok (.if_icmp .le 6, 3) := by decide +kernel
theorem dX7_feed_10 : decode cX7_feed 10 = .ok (.bipush (-2), 2) := by decide +kernel
theorem dX7_feed_12 : decode cX7_feed 12 = .ok (.ireturn, 1) := by decide +kernel
theorem dX7_feed_13 : decode cX7_feed 13 = .ok (.aload_n 0, 1) := by decide +kernel
theorem dX7_feed_14 : decode cX7_feed 14 = .ok (.getfield 49, 3) := by decide +kernel
theorem dX7_feed_17 : decode cX7_feed 17 = .ok (.iload_n 1, 1) := by decide +kernel
theorem dX7_feed_18 : decode cX7_feed 18 = .ok (.invokevirtual 171, 3) := by decide +kernel
theorem dX7_feed_21 : decode cX7_feed 21 = .ok (.ifCond .eq 13, 3) := by decide +kernel
theorem dX7_feed_24 : decode cX7_feed 24 = .ok (.aload_n 0, 1) := by decide +kernel
theorem dX7_feed_25 : decode cX7_feed 25 = .ok (.getfield 49, 3) := by decide +kernel
theorem dX7_feed_28 : decode cX7_feed 28 = .ok (.getfield 174, 3) := by decide +kernel
theorem dX7_feed_31 : decode cX7_feed 31 = .ok (.goto 5, 3) := by decide +kernel
theorem dX7_feed_34 : decode cX7_feed 34 = .ok (.bipush (-4), 2) := by decide +kernel
theorem dX7_feed_36 : decode cX7_feed 36 = .ok (.ireturn, 1) := by decide +kernel
theorem dX7_build_0 : decode cX7_build 0 = .ok (.iload_n 1, 1) := by decide +kernel
theorem dX7_build_1 : decode cX7_build 1 = .ok (.invokestatic 156, 3) := by decide +kernel
theorem dX7_build_4 : decode cX7_build 4 = .ok (.ifCond .ne 5, 3) := by decide +kernel
theorem dX7_build_7 : decode cX7_build 7 = .ok (.iconst (-1), 1) := by decide +kernel
theorem dX7_build_8 : decode cX7_build 8 = .ok (.ireturn, 1) := by decide +kernel
theorem dX7_build_9 : decode cX7_build 9 = .ok (.aload_n 0, 1) := by decide +kernel
theorem dX7_build_10 : decode cX7_build 10 = .ok (.getfield 12, 3) := by decide +kernel
theorem dX7_build_13 : decode cX7_build 13 = .ok (.getfield 68, 3) := by decide +kernel
theorem dX7_build_16 : decode cX7_build 16 = .ok (.getfield 71, 3) := by decide +kernel
theorem dX7_build_19 : decode cX7_build 19 = .ok (.ifCond .eq 6, 3) := by decide +kernel
theorem dX7_build_22 : decode cX7_build 22 = .ok (.bipush (-3), 2) := by decide +kernel
theorem dX7_build_24 : decode cX7_build 24 = .ok (.ireturn, 1) := by decide +kernel
theorem dX7_build_25 : decode cX7_build 25 = .ok (.aload_n 0, 1) := by decide +kernel
theorem dX7_build_26 : decode cX7_build 26 = .ok (.getfield 28, 3) := by decide +kernel
theorem dX7_build_29 : decode cX7_build 29 = .ok (.aload_n 0, 1) := by decide +kernel
theorem dX7_build_30 : decode cX7_build 30 = .ok (.getfield 12, 3) := by decide +kernel
theorem dX7_build_33 : decode cX7_build 33 = .ok (.getfield 74, 3) := by decide +kernel
theorem dX7_build_36 : decode cX7_build 36 = .ok (.invokevirtual 177, 3) := by decide +kernel
theorem dX7_build_39 : decode cX7_build 39 = .ok (.aload_n 0, 1) := by decide +kernel
theorem dX7_build_40 : decode cX7_build 40 = .ok (.getfield 49, 3) := by decide +kernel
theorem dX7_build_43 : decode cX7_build 43 = .ok (.aload_n 0, 1) := by decide +kernel
theorem dX7_build_44 : decode cX7_build 44 = .ok (.getfield 28, 3) := by decide +kernel
theorem dX7_build_47 : decode cX7_build 47 = .ok (.aload_n 0, 1) := by decide +kernel
theorem dX7_build_48 : decode cX7_build 48 = .ok (.getfield 12, 3) := by decide +kernel
theorem dX7_build_51 : decode cX7_build 51 = .ok (.getfield 74, 3) := by decide +kernel
theorem dX7_build_54 : decode cX7_build 54 = .ok (.getfield 181, 3) := by decide +kernel
theorem dX7_build_57 : decode cX7_build 57 = .ok (.invokevirtual 184, 3) := by decide +kernel
theorem dX7_build_60 : decode cX7_build 60 = .ok (.istore_n 2, 1) := by decide +kernel
theorem dX7_build_61 : decode cX7_build 61 = .ok (.aload_n 0, 1) := by decide +kernel
theorem dX7_build_62 : decode cX7_build 62 = .ok (.getfield 49, 3) := by decide +kernel
theorem dX7_build_65 : decode cX7_build 65 = .ok (.iconst 0, 1) := by decide +kernel
theorem dX7_build_66 : decode cX7_build 66 = .ok (.putfield 174, 3) := by decide +kernel
theorem dX7_build_69 : decode cX7_build 69 = .ok (.iload_n 2, 1) := by decide +kernel
theorem dX7_build_70 : decode cX7_build 70 = .ok (.ifCond .lt 8, 3) := by decide +kernel
theorem dX7_build_73 : decode cX7_build 73 = .ok (.bipush (-10), 2) := by decide +kernel
theorem dX7_build_75 : decode cX7_build 75 = .ok (.iload_n 2, 1) := by decide +kernel
theorem dX7_build_76 : decode cX7_build 76 = .ok (.isub, 1) := by decide +kernel
theorem dX7_build_77 : decode cX7_build 77 = .ok (.ireturn, 1) := by decide +kernel
theorem dX7_build_78 : decode cX7_build 78 = .ok (.aload_n 0, 1) := by decide +kernel
theorem dX7_build_79 : decode cX7_build 79 = .ok (.getfield 12, 3) := by decide +kernel
theorem dX7_build_82 : decode cX7_build 82 = .ok (.getfield 74, 3) := by decide +kernel
theorem dX7_build_85 : decode cX7_build 85 = .ok (.getfield 77, 3) := by decide +kernel
theorem dX7_build_88 : decode cX7_build 88 = .ok (.aload_n 0, 1) := by decide +kernel
theorem dX7_build_89 : decode cX7_build 89 = .ok (.getfield 49, 3) := by decide +kernel
theorem dX7_build_92 : decode cX7_build 92 = .ok (.getfield 188, 3) := by decide +kernel
theorem dX7_build_95 : decode cX7_build 95 = .ok (.iadd, 1) := by decide +kernel
theorem dX7_build_96 : decode cX7_build 96 = .ok (.bipush 24, 2) := by decide +kernel
theorem dX7_build_98 : decode cX7_build 98 = .ok (.if_icmp .le 6, 3) := by decide +kernel
theorem dX7_build_101 : decode cX7_build 101 = .ok (.bipush (-4), 2) := by decide +kernel
theorem dX7_build_103 : decode cX7_build 103 = .ok (.ireturn, 1) := by decide +kernel
theorem dX7_build_104 : decode cX7_build 104 = .ok (.aload_n 0, 1) := by decide +kernel
theorem dX7_build_105 : decode cX7_build 105 = .ok (.getfield 28, 3) := by decide +kernel
theorem dX7_build_108 : decode cX7_build 108 = .ok (.iload_n 1, 1) := by decide +kernel
theorem dX7_build_109 : decode cX7_build 109 = .ok (.aload_n 0, 1) := by decide +kernel
theorem dX7_build_110 : decode cX7_build 110 = .ok (.getfield 49, 3) := by decide +kernel
theorem dX7_build_113 : decode cX7_build 113 = .ok (.getfield 191, 3) := by decide +kernel
theorem dX7_build_116 : decode cX7_build 116 = .ok (.invokevirtual 162, 3) := by decide +kernel
theorem dX7_build_119 : decode cX7_build 119 = .ok (.aload_n 0, 1) := by decide +kernel
theorem dX7_build_120 : decode cX7_build 120 = .ok (.getfield 12, 3) := by decide +kernel
theorem dX7_build_123 : decode cX7_build 123 = .ok (.getfield 74, 3) := by decide +kernel
theorem dX7_build_126 : decode cX7_build 126 = .ok (.aload_n 0, 1) := by decide +kernel
theorem dX7_build_127 : decode cX7_build 127 = .ok (.getfield 28, 3) := by decide +kernel
theorem dX7_build_130 : decode cX7_build 130 = .ok (.invokevirtual 177, 3) := by decide +kernel
theorem dX7_build_133 : decode cX7_build 133 = .ok (.aload_n 0, 1) := by decide +kernel
theorem dX7_build_134 : decode cX7_build 134 = .ok (.getfield 12, 3) := by decide +kernel
theorem dX7_build_137 : decode cX7_build 137 = .ok (.getfield 68, 3) := by decide +kernel
theorem dX7_build_140 : decode cX7_build 140 = .ok (.iconst 0, 1) := by decide +kernel
theorem dX7_build_141 : decode cX7_build 141 = .ok (.putfield 81, 3) := by decide +kernel
theorem dX7_build_144 : decode cX7_build 144 = .ok (.aload_n 0, 1) := by decide +kernel
theorem dX7_build_145 : decode cX7_build 145 = .ok (.getfield 49, 3) := by decide +kernel
theorem dX7_build_148 : decode cX7_build 148 = .ok (.getfield 188, 3) := by decide +kernel
theorem dX7_build_151 : decode cX7_build 151 = .ok (.ireturn, 1) := by decide +kernel
theorem dX7_begin_0 : decode cX7_begin 0 = .ok (.iload_n 1, 1) := by decide +kernel
theorem dX7_begin_1 : decode cX7_begin 1 = .ok (.invokestatic 194, 3) := by decide +kernel
theorem dX7_begin_4 : decode cX7_begin 4 = .ok (.ifCond .ne 6, 3) := by decide +kernel
theorem dX7_begin_7 : decode cX7_begin 7 = .ok (.bipush (-2), 2) := by decide +kernel
theorem dX7_begin_9 : decode cX7_begin 9 = .ok (.ireturn, 1) := by decide +kernel
theorem dX7_begin_10 : decode cX7_begin 10 = .ok (.aload_n 0, 1) := by decide +kernel
theorem dX7_begin_11 : decode cX7_begin 11 = .ok (.getfield 12, 3) := by decide +kernel
theorem dX7_begin_14 : decode cX7_begin 14 = .ok (.getfield 68, 3) := by decide +kernel
theorem dX7_begin_17 : decode cX7_begin 17 = .ok (.getfield 71, 3) := by decide +kernel
theorem dX7_begin_20 : decode cX7_begin 20 = .ok (.ifCond .eq 6, 3) := by decide +kernel
theorem dX7_begin_23 : decode cX7_begin 23 = .ok (.bipush (-3), 2) := by decide +kernel
theorem dX7_begin_25 : decode cX7_begin 25 = .ok (.ireturn, 1) := by decide +kernel
theorem dX7_begin_26 : decode cX7_begin 26 = .ok (.aload_n 0, 1) := by decide +kernel
theorem dX7_begin_27 : decode cX7_begin 27 = .ok (.getfield 12, 3) := by decide +kernel
theorem dX7_begin_30 : decode cX7_begin 30 = .ok (.getfield 68, 3) := by decide +kernel
theorem dX7_begin_33 : decode cX7_begin 33 = .ok (.iload_n 1, 1) := by decide +kernel
theorem dX7_begin_34 : decode cX7_begin 34 = .ok (.invokevirtual 197, 3) := by decide +kernel
theorem dX7_begin_37 : decode cX7_begin 37 = .ok (.aload_n 0, 1) := by decide +kernel
theorem dX7_begin_38 : decode cX7_begin 38 = .ok (.getfield 12, 3) := by decide +kernel
theorem dX7_begin_41 : decode cX7_begin 41 = .ok (.getfield 74, 3) := by decide +kernel
theorem dX7_begin_44 : decode cX7_begin 44 = .ok (.getfield 181, 3) := by decide +kernel
theorem dX7_begin_47 : decode cX7_begin 47 = .ok (.invokestatic 201, 3) := by decide +kernel
theorem dX7_begin_50 : decode cX7_begin 50 = .ok (.ireturn, 1) := by decide +kernel
theorem dX7_step_0 : decode cX7_step 0 = .ok (.iload_n 1, 1) := by decide +kernel
theorem dX7_step_1 : decode cX7_step 1 = .ok (.ifCond .lt 9, 3) := by decide +kernel
theorem dX7_step_4 : decode cX7_step 4 = .ok (.iload_n 1, 1) := by decide +kernel
theorem dX7_step_5 : decode cX7_step 5 = .ok (.bipush 99, 2) := by decide +kernel
theorem dX7_step_7 : decode cX7_step 7 = .ok (.if_icmp .le 6, 3) := by decide +kernel
theorem dX7_step_10 : decode cX7_step 10 = .ok (.bipush (-2), 2) := by decide +kernel
theorem dX7_step_12 : decode cX7_step 12 = .ok (.ireturn, 1) := by decide +kernel
theorem dX7_step_13 : decode cX7_step 13 = .ok (.aload_n 0, 1) := by decide +kernel
theorem dX7_step_14 : decode cX7_step 14 = .ok (.getfield 12, 3) := by decide +kernel
theorem dX7_step_17 : decode cX7_step 17 = .ok (.getfield 68, 3) := by decide +kernel
theorem dX7_step_20 : decode cX7_step 20 = .ok (.getfield 71, 3) := by decide +kernel
theorem dX7_step_23 : decode cX7_step 23 = .ok (.ifCond .eq 24, 3) := by decide +kernel
theorem dX7_step_26 : decode cX7_step 26 = .ok (.aload_n 0, 1) := by decide +kernel
theorem dX7_step_27 : decode cX7_step 27 = .ok (.getfield 12, 3) := by decide +kernel
theorem dX7_step_30 : decode cX7_step 30 = .ok (.getfield 68, 3) := by decide +kernel
theorem dX7_step_33 : decode cX7_step 33 = .ok (.aload_n 0, 1) := by decide +kernel
theorem dX7_step_34 : decode cX7_step 34 = .ok (.getfield 12, 3) := by decide +kernel
theorem dX7_step_37 : decode cX7_step 37 = .ok (.getfield 74, 3) := by decide +kernel
theorem dX7_step_40 : decode cX7_step 40 = .ok (.iload_n 1, 1) := by decide +kernel
theorem dX7_step_41 : decode cX7_step 41 = .ok (.invokevirtual 206, 3) := by decide +kernel
theorem dX7_step_44 : decode cX7_step 44 = .ok (.goto 5, 3) := by decide +kernel
theorem dX7_step_47 : decode cX7_step 47 = .ok (.bipush (-3), 2) := by decide +kernel
theorem dX7_step_49 : decode cX7_step 49 = .ok (.ireturn, 1) := by decide +kernel
theorem dX7_leave_0 : decode cX7_leave 0 = .ok (.aload_n 0, 1) := by decide +kernel
theorem dX7_leave_1 : decode cX7_leave 1 = .ok (.getfield 12, 3) := by decide +kernel
theorem dX7_leave_4 : decode cX7_leave 4 = .ok (.getfield 68, 3) := by decide +kernel
theorem dX7_leave_7 : decode cX7_leave 7 = .ok (.getfield 71, 3) := by decide +kernel
theorem dX7_leave_10 : decode cX7_leave 10 = .ok (.ifCond .ne 6, 3) := by decide +kernel
theorem dX7_leave_13 : decode cX7_leave 13 = .ok (.bipush (-3), 2) := by decide +kernel
theorem dX7_leave_15 : decode cX7_leave 15 = .ok (.ireturn, 1) := by decide +kernel
theorem dX7_leave_16 : decode cX7_leave 16 = .ok (.aload_n 0, 1) := by decide +kernel
theorem dX7_leave_17 : decode cX7_leave 17 = .ok (.getfield 12, 3) := by decide +kernel
theorem dX7_leave_20 : decode cX7_leave 20 = .ok (.getfield 68, 3) := by decide +kernel
theorem dX7_leave_23 : decode cX7_leave 23 = .ok (.invokevirtual 209, 3) := by decide +kernel
theorem dX7_leave_26 : decode cX7_leave 26 = .ok (.istore_n 1, 1) := by decide +kernel
theorem dX7_leave_27 : decode cX7_leave 27 = .ok (.aload_n 0, 1) := by decide +kernel
theorem dX7_leave_28 : decode cX7_leave 28 = .ok (.getfield 12, 3) := by decide +kernel
theorem dX7_leave_31 : decode cX7_leave 31 = .ok (.getfield 68, 3) := by decide +kernel
theorem dX7_leave_34 : decode cX7_leave 34 = .ok (.invokevirtual 213, 3) := by decide +kernel
theorem dX7_leave_37 : decode cX7_leave 37 = .ok (.iload_n 1, 1) := by decide +kernel
theorem dX7_leave_38 : decode cX7_leave 38 = .ok (.ireturn, 1) := by decide +kernel
theorem dX7_sweep_0 : decode cX7_sweep 0 = .ok (.aload_n 0, 1) := by decide +kernel
theorem dX7_sweep_1 : decode cX7_sweep 1 = .ok (.getfield 12, 3) := by decide +kernel
theorem dX7_sweep_4 : decode cX7_sweep 4 = .ok (.getfield 68, 3) := by decide +kernel
theorem dX7_sweep_7 : decode cX7_sweep 7 = .ok (.getfield 81, 3) := by decide +kernel
theorem dX7_sweep_10 : decode cX7_sweep 10 = .ok (.ifCond .ne 6, 3) := by decide +kernel
theorem dX7_sweep_13 : decode cX7_sweep 13 = .ok (.bipush (-3), 2) := by decide +kernel
theorem dX7_sweep_15 : decode cX7_sweep 15 = .ok (.ireturn, 1) := by decide +kernel
theorem dX7_sweep_16 : decode cX7_sweep 16 = .ok (.aload_n 0, 1) := by decide +kernel
theorem dX7_sweep_17 : decode cX7_sweep 17 = .ok (.getfield 12, 3) := by decide +kernel
theorem dX7_sweep_20 : decode cX7_sweep 20 = .ok (.getfield 74, 3) := by decide +kernel
theorem dX7_sweep_23 : decode cX7_sweep 23 = .ok (.aload_n 0, 1) := by decide +kernel
theorem dX7_sweep_24 : decode cX7_sweep 24 = .ok (.getfield 12, 3) := by decide +kernel
theorem dX7_sweep_27 : decode cX7_sweep 27 = .ok (.getfield 68, 3) := by decide +kernel
theorem dX7_sweep_30 : decode cX7_sweep 30 = .ok (.getfield 101, 3) := by decide +kernel
theorem dX7_sweep_33 : decode cX7_sweep 33 = .ok (.invokevirtual 216, 3) := by decide +kernel
theorem dX7_sweep_36 : decode cX7_sweep 36 = .ok (.istore_n 1, 1) := by decide +kernel
theorem dX7_sweep_37 : decode cX7_sweep 37 = .ok (.aload_n 0, 1) := by decide +kernel
theorem dX7_sweep_38 : decode cX7_sweep 38 = .ok (.getfield 12, 3) := by decide +kernel
theorem dX7_sweep_41 : decode cX7_sweep 41 = .ok (.getfield 68, 3) := by decide +kernel
theorem dX7_sweep_44 : decode cX7_sweep 44 = .ok (.iconst 0, 1) := by decide +kernel
theorem dX7_sweep_45 : decode cX7_sweep 45 = .ok (.putfield 101, 3) := by decide +kernel
theorem dX7_sweep_48 : decode cX7_sweep 48 = .ok (.aload_n 0, 1) := by decide +kernel
theorem dX7_sweep_49 : decode cX7_sweep 49 = .ok (.getfield 12, 3) := by decide +kernel
theorem dX7_sweep_52 : decode cX7_sweep 52 = .ok (.getfield 68, 3) := by decide +kernel
theorem dX7_sweep_55 : decode cX7_sweep 55 = .ok (.iconst 0, 1) := by decide +kernel
theorem dX7_sweep_56 : decode cX7_sweep 56 = .ok (.putfield 81, 3) := by decide +kernel
theorem dX7_sweep_59 : decode cX7_sweep 59 = .ok (.iload_n 1, 1) := by decide +kernel
theorem dX7_sweep_60 : decode cX7_sweep 60 = .ok (.ireturn, 1) := by decide +kernel
theorem dX7_told_0 : decode cX7_told 0 = .ok (.iload_n 1, 1) := by decide +kernel
theorem dX7_told_1 : decode cX7_told 1 = .ok (.tableswitch 129 8 18 #[59, 70, 81, 129, 129, 103, 129, 114, 114, 114, 114], 59) := by decide +kernel
theorem dX7_told_60 : decode cX7_told 60 = .ok (.aload_n 0, 1) := by decide +kernel
theorem dX7_told_61 : decode cX7_told 61 = .ok (.getfield 12, 3) := by decide +kernel
theorem dX7_told_64 : decode cX7_told 64 = .ok (.getfield 68, 3) := by decide +kernel
theorem dX7_told_67 : decode cX7_told 67 = .ok (.getfield 101, 3) := by decide +kernel
theorem dX7_told_70 : decode cX7_told 70 = .ok (.ireturn, 1) := by decide +kernel
theorem dX7_told_71 : decode cX7_told 71 = .ok (.aload_n 0, 1) := by decide +kernel
theorem dX7_told_72 : decode cX7_told 72 = .ok (.getfield 12, 3) := by decide +kernel
theorem dX7_told_75 : decode cX7_told 75 = .ok (.getfield 68, 3) := by decide +kernel
theorem dX7_told_78 : decode cX7_told 78 = .ok (.getfield 115, 3) := by decide +kernel
theorem dX7_told_81 : decode cX7_told 81 = .ok (.ireturn, 1) := by decide +kernel
theorem dX7_told_82 : decode cX7_told 82 = .ok (.aload_n 0, 1) := by decide +kernel
theorem dX7_told_83 : decode cX7_told 83 = .ok (.getfield 42, 3) := by decide +kernel
theorem dX7_told_86 : decode cX7_told 86 = .ok (.aload_n 0, 1) := by decide +kernel
theorem dX7_told_87 : decode cX7_told 87 = .ok (.getfield 12, 3) := by decide +kernel
theorem dX7_told_90 : decode cX7_told 90 = .ok (.getfield 74, 3) := by decide +kernel
theorem dX7_told_93 : decode cX7_told 93 = .ok (.invokevirtual 219, 3) := by decide +kernel
theorem dX7_told_96 : decode cX7_told 96 = .ok (.aload_n 0, 1) := by decide +kernel
theorem dX7_told_97 : decode cX7_told 97 = .ok (.getfield 42, 3) := by decide +kernel
theorem dX7_told_100 : decode cX7_told 100 = .ok (.invokevirtual 222, 3) := by decide +kernel
theorem dX7_told_103 : decode cX7_told 103 = .ok (.ireturn, 1) := by decide +kernel
theorem dX7_told_104 : decode cX7_told 104 = .ok (.aload_n 0, 1) := by decide +kernel
theorem dX7_told_105 : decode cX7_told 105 = .ok (.getfield 12, 3) := by decide +kernel
theorem dX7_told_108 : decode cX7_told 108 = .ok (.getfield 74, 3) := by decide +kernel
theorem dX7_told_111 : decode cX7_told 111 = .ok (.getfield 181, 3) := by decide +kernel
theorem dX7_told_114 : decode cX7_told 114 = .ok (.ireturn, 1) := by decide +kernel
theorem dX7_told_115 : decode cX7_told 115 = .ok (.aload_n 0, 1) := by decide +kernel
theorem dX7_told_116 : decode cX7_told 116 = .ok (.getfield 12, 3) := by decide +kernel
theorem dX7_told_119 : decode cX7_told 119 = .ok (.getfield 74, 3) := by decide +kernel
theorem dX7_told_122 : decode cX7_told 122 = .ok (.iload_n 1, 1) := by decide +kernel
theorem dX7_told_123 : decode cX7_told 123 = .ok (.bipush 15, 2) := by decide +kernel
theorem dX7_told_125 : decode cX7_told 125 = .ok (.isub, 1) := by decide +kernel
theorem dX7_told_126 : decode cX7_told 126 = .ok (.invokevirtual 159, 3) := by decide +kernel
theorem dX7_told_129 : decode cX7_told 129 = .ok (.ireturn, 1) := by decide +kernel
theorem dX7_told_130 : decode cX7_told 130 = .ok (.aload_n 0, 1) := by decide +kernel
theorem dX7_told_131 : decode cX7_told 131 = .ok (.iload_n 1, 1) := by decide +kernel
theorem dX7_told_132 : decode cX7_told 132 = .ok (.invokevirtual 225, 3) := by decide +kernel
theorem dX7_told_135 : decode cX7_told 135 = .ok (.ireturn, 1) := by decide +kernel
theorem dX7_on_0 : decode cX7_on 0 = .ok (.iload_n 2, 1) := by decide +kernel
theorem dX7_on_1 : decode cX7_on 1 = .ok (.ifCond .lt 8, 3) := by decide +kernel
theorem dX7_on_4 : decode cX7_on 4 = .ok (.iload_n 2, 1) := by decide +kernel
theorem dX7_on_5 : decode cX7_on 5 = .ok (.iconst 4, 1) := by decide +kernel
theorem dX7_on_6 : decode cX7_on 6 = .ok (.if_icmp .le 5, 3) := by decide +kernel
theorem dX7_on_9 : decode cX7_on 9 = .ok (.iconst (-1), 1) := by decide +kernel
theorem dX7_on_10 : decode cX7_on 10 = .ok (.ireturn, 1) := by decide +kernel
theorem dX7_on_11 : decode cX7_on 11 = .ok (.iload_n 1, 1) := by decide +kernel
theorem dX7_on_12 : decode cX7_on 12 = .ok (.ifCond .lt 10, 3) := by decide +kernel
theorem dX7_on_15 : decode cX7_on 15 = .ok (.iload_n 1, 1) := by decide +kernel
theorem dX7_on_16 : decode cX7_on 16 = .ok (.sipush 400, 3) := by decide +kernel
theorem dX7_on_19 : decode cX7_on 19 = .ok (.if_icmp .le 6, 3) := by decide +kernel
theorem dX7_on_22 : decode cX7_on 22 = .ok (.bipush (-2), 2) := by decide +kernel
theorem dX7_on_24 : decode cX7_on 24 = .ok (.ireturn, 1) := by decide +kernel
theorem dX7_on_25 : decode cX7_on 25 = .ok (.aload_n 0, 1) := by decide +kernel
theorem dX7_on_26 : decode cX7_on 26 = .ok (.getfield 35, 3) := by decide +kernel
theorem dX7_on_29 : decode cX7_on 29 = .ok (.aload_n 0, 1) := by decide +kernel
theorem dX7_on_30 : decode cX7_on 30 = .ok (.getfield 12, 3) := by decide +kernel
theorem dX7_on_33 : decode cX7_on 33 = .ok (.getfield 68, 3) := by decide +kernel
theorem dX7_on_36 : decode cX7_on 36 = .ok (.invokevirtual 228, 3) := by decide +kernel
theorem dX7_on_39 : decode cX7_on 39 = .ok (.aload_n 0, 1) := by decide +kernel
theorem dX7_on_40 : decode cX7_on 40 = .ok (.getfield 35, 3) := by decide +kernel
theorem dX7_on_43 : decode cX7_on 43 = .ok (.aload_n 0, 1) := by decide +kernel
theorem dX7_on_44 : decode cX7_on 44 = .ok (.getfield 12, 3) := by decide +kernel
theorem dX7_on_47 : decode cX7_on 47 = .ok (.getfield 74, 3) := by decide +kernel
theorem dX7_on_50 : decode cX7_on 50 = .ok (.iload_n 1, 1) := by decide +kernel
theorem dX7_on_51 : decode cX7_on 51 = .ok (.invokevirtual 206, 3) := by decide +kernel
theorem dX7_on_54 : decode cX7_on 54 = .ok (.pop, 1) := by decide +kernel
theorem dX7_on_55 : decode cX7_on 55 = .ok (.iload_n 2, 1) := by decide +kernel
theorem dX7_on_56 : decode cX7_on 56 = .ok (.tableswitch 64 0 3 #[32, 40, 48, 56], 32) := by decide +kernel
theorem dX7_on_88 : decode cX7_on 88 = .ok (.aload_n 0, 1) := by decide +kernel
theorem dX7_on_89 : decode cX7_on 89 = .ok (.getfield 35, 3) := by decide +kernel
theorem dX7_on_92 : decode cX7_on 92 = .ok (.getfield 231, 3) := by decide +kernel
theorem dX7_on_95 : decode cX7_on 95 = .ok (.ireturn, 1) := by decide +kernel
theorem dX7_on_96 : decode cX7_on 96 = .ok (.aload_n 0, 1) := by decide +kernel
theorem dX7_on_97 : decode cX7_on 97 = .ok (.getfield 35, 3) := by decide +kernel
theorem dX7_on_100 : decode cX7_on 100 = .ok (.invokevirtual 234, 3) := by decide +kernel
theorem dX7_on_103 : decode cX7_on 103 = .ok (.ireturn, 1) := by decide +kernel
theorem dX7_on_104 : decode cX7_on 104 = .ok (.aload_n 0, 1) := by decide +kernel
theorem dX7_on_105 : decode cX7_on 105 = .ok (.getfield 35, 3) := by decide +kernel
theorem dX7_on_108 : decode cX7_on 108 = .ok (.getfield 101, 3) := by decide +kernel
theorem dX7_on_111 : decode cX7_on 111 = .ok (.ireturn, 1) := by decide +kernel
theorem dX7_on_112 : decode cX7_on 112 = .ok (.aload_n 0, 1) := by decide +kernel
theorem dX7_on_113 : decode cX7_on 113 = .ok (.getfield 35, 3) := by decide +kernel
theorem dX7_on_116 : decode cX7_on 116 = .ok (.invokevirtual 209, 3) := by decide +kernel
theorem dX7_on_119 : decode cX7_on 119 = .ok (.ireturn, 1) := by decide +kernel
theorem dX7_on_120 : decode cX7_on 120 = .ok (.aload_n 0, 1) := by decide +kernel
theorem dX7_on_121 : decode cX7_on 121 = .ok (.getfield 35, 3) := by decide +kernel
theorem dX7_on_124 : decode cX7_on 124 = .ok (.getfield 237, 3) := by decide +kernel
theorem dX7_on_127 : decode cX7_on 127 = .ok (.ireturn, 1) := by decide +kernel
theorem dX7_need_0 : decode cX7_need 0 = .ok (.iload_n 2, 1) := by decide +kernel
theorem dX7_need_1 : decode cX7_need 1 = .ok (.ifCond .lt 8, 3) := by decide +kernel
theorem dX7_need_4 : decode cX7_need 4 = .ok (.iload_n 2, 1) := by decide +kernel
theorem dX7_need_5 : decode cX7_need 5 = .ok (.iconst 4, 1) := by decide +kernel
theorem dX7_need_6 : decode cX7_need 6 = .ok (.if_icmp .le 5, 3) := by decide +kernel
theorem dX7_need_9 : decode cX7_need 9 = .ok (.iconst (-1), 1) := by decide +kernel
theorem dX7_need_10 : decode cX7_need 10 = .ok (.ireturn, 1) := by decide +kernel
theorem dX7_need_11 : decode cX7_need 11 = .ok (.iload_n 1, 1) := by decide +kernel
theorem dX7_need_12 : decode cX7_need 12 = .ok (.invokestatic 194, 3) := by decide +kernel
theorem dX7_need_15 : decode cX7_need 15 = .ok (.ifCond .ne 6, 3) := by decide +kernel
theorem dX7_need_18 : decode cX7_need 18 = .ok (.bipush (-2), 2) := by decide +kernel
theorem dX7_need_20 : decode cX7_need 20 = .ok (.ireturn, 1) := by decide +kernel
theorem dX7_need_21 : decode cX7_need 21 = .ok (.aload_n 0, 1) := by decide +kernel
theorem dX7_need_22 : decode cX7_need 22 = .ok (.getfield 12, 3) := by decide +kernel
theorem dX7_need_25 : decode cX7_need 25 = .ok (.getfield 68, 3) := by decide +kernel
theorem dX7_need_28 : decode cX7_need 28 = .ok (.getfield 71, 3) := by decide +kernel
theorem dX7_need_31 : decode cX7_need 31 = .ok (.ifCond .eq 6, 3) := by decide +kernel
theorem dX7_need_34 : decode cX7_need 34 = .ok (.bipush (-3), 2) := by decide +kernel
theorem dX7_need_36 : decode cX7_need 36 = .ok (.ireturn, 1) := by decide +kernel
theorem dX7_need_37 : decode cX7_need 37 = .ok (.aload_n 0, 1) := by decide +kernel
theorem dX7_need_38 : decode cX7_need 38 = .ok (.getfield 35, 3) := by decide +kernel
theorem dX7_need_41 : decode cX7_need 41 = .ok (.iload_n 1, 1) := by decide +kernel
theorem dX7_need_42 : decode cX7_need 42 = .ok (.invokevirtual 197, 3) := by decide +kernel
theorem dX7_need_45 : decode cX7_need 45 = .ok (.aload_n 0, 1) := by decide +kernel
theorem dX7_need_46 : decode cX7_need 46 = .ok (.getfield 35, 3) := by decide +kernel
theorem dX7_need_49 : decode cX7_need 49 = .ok (.aload_n 0, 1) := by decide +kernel
theorem dX7_need_50 : decode cX7_need 50 = .ok (.getfield 12, 3) := by decide +kernel
theorem dX7_need_53 : decode cX7_need 53 = .ok (.getfield 74, 3) := by decide +kernel
theorem dX7_need_56 : decode cX7_need 56 = .ok (.sipush 1000, 3) := by decide +kernel
theorem dX7_need_59 : decode cX7_need 59 = .ok (.invokevirtual 206, 3) := by decide +kernel
theorem dX7_need_62 : decode cX7_need 62 = .ok (.pop, 1) := by decide +kernel
theorem dX7_need_63 : decode cX7_need 63 = .ok (.aload_n 0, 1) := by decide +kernel
theorem dX7_need_64 : decode cX7_need 64 = .ok (.getfield 35, 3) := by decide +kernel
theorem dX7_need_67 : decode cX7_need 67 = .ok (.iload_n 2, 1) := by decide +kernel
theorem dX7_need_68 : decode cX7_need 68 = .ok (.invokevirtual 240, 3) := by decide +kernel
theorem dX7_need_71 : decode cX7_need 71 = .ok (.ireturn, 1) := by decide +kernel
theorem dX7_least_0 : decode cX7_least 0 = .ok (.iload_n 1, 1) := by decide +kernel
theorem dX7_least_1 : decode cX7_least 1 = .ok (.ifCond .lt 8, 3) := by decide +kernel
theorem dX7_least_4 : decode cX7_least 4 = .ok (.iload_n 1, 1) := by decide +kernel
theorem dX7_least_5 : decode cX7_least 5 = .ok (.iconst 1, 1) := by decide +kernel
theorem dX7_least_6 : decode cX7_least 6 = .ok (.if_icmp .le 5, 3) := by decide +kernel
theorem dX7_least_9 : decode cX7_least 9 = .ok (.iconst (-1), 1) := by decide +kernel
theorem dX7_least_10 : decode cX7_least 10 = .ok (.ireturn, 1) := by decide +kernel
theorem dX7_least_11 : decode cX7_least 11 = .ok (.aload_n 0, 1) := by decide +kernel
theorem dX7_least_12 : decode cX7_least 12 = .ok (.getfield 12, 3) := by decide +kernel
theorem dX7_least_15 : decode cX7_least 15 = .ok (.getfield 68, 3) := by decide +kernel
theorem dX7_least_18 : decode cX7_least 18 = .ok (.getfield 71, 3) := by decide +kernel
theorem dX7_least_21 : decode cX7_least 21 = .ok (.ifCond .eq 6, 3) := by decide +kernel
theorem dX7_least_24 : decode cX7_least 24 = .ok (.bipush (-3), 2) := by decide +kernel
theorem dX7_least_26 : decode cX7_least 26 = .ok (.ireturn, 1) := by decide +kernel
theorem dX7_least_27 : decode cX7_least 27 = .ok (.iconst 0, 1) := by decide +kernel
theorem dX7_least_28 : decode cX7_least 28 = .ok (.istore_n 2, 1) := by decide +kernel
theorem dX7_least_29 : decode cX7_least 29 = .ok (.iload_n 2, 1) := by decide +kernel
theorem dX7_least_30 : decode cX7_least 30 = .ok (.bipush 8, 2) := by decide +kernel
theorem dX7_least_32 : decode cX7_least 32 = .ok (.if_icmp .gt 56, 3) := by decide +kernel
theorem dX7_least_35 : decode cX7_least 35 = .ok (.aload_n 0, 1) := by decide +kernel
theorem dX7_least_36 : decode cX7_least 36 = .ok (.getfield 35, 3) := by decide +kernel
theorem dX7_least_39 : decode cX7_least 39 = .ok (.iload_n 2, 1) := by decide +kernel
theorem dX7_least_40 : decode cX7_least 40 = .ok (.invokevirtual 197, 3) := by decide +kernel
theorem dX7_least_43 : decode cX7_least 43 = .ok (.aload_n 0, 1) := by decide +kernel
theorem dX7_least_44 : decode cX7_least 44 = .ok (.getfield 35, 3) := by decide +kernel
theorem dX7_least_47 : decode cX7_least 47 = .ok (.aload_n 0, 1) := by decide +kernel
theorem dX7_least_48 : decode cX7_least 48 = .ok (.getfield 12, 3) := by decide +kernel
theorem dX7_least_51 : decode cX7_least 51 = .ok (.getfield 74, 3) := by decide +kernel
theorem dX7_least_54 : decode cX7_least 54 = .ok (.sipush 1000, 3) := by decide +kernel
theorem dX7_least_57 : decode cX7_least 57 = .ok (.invokevirtual 206, 3) := by decide +kernel
theorem dX7_least_60 : decode cX7_least 60 = .ok (.pop, 1) := by decide +kernel
theorem dX7_least_61 : decode cX7_least 61 = .ok (.aload_n 0, 1) := by decide +kernel
theorem dX7_least_62 : decode cX7_least 62 = .ok (.getfield 35, 3) := by decide +kernel
theorem dX7_least_65 : decode cX7_least 65 = .ok (.iload_n 1, 1) := by decide +kernel
theorem dX7_least_66 : decode cX7_least 66 = .ok (.ifCond .ne 7, 3) := by decide +kernel
theorem dX7_least_69 : decode cX7_least 69 = .ok (.iconst 1, 1) := by decide +kernel
theorem dX7_least_70 : decode cX7_least 70 = .ok (.goto 4, 3) := by decide +kernel
theorem dX7_least_73 : decode cX7_least 73 = .ok (.iconst 3, 1) := by decide +kernel
theorem dX7_least_74 : decode cX7_least 74 = .ok (.invokevirtual 240, 3) := by decide +kernel
theorem dX7_least_77 : decode cX7_least 77 = .ok (.ifCond .ne 5, 3) := by decide +kernel
theorem dX7_least_80 : decode cX7_least 80 = .ok (.iload_n 2, 1) := by decide +kernel
theorem dX7_least_81 : decode cX7_least 81 = .ok (.ireturn, 1) := by decide +kernel
theorem dX7_least_82 : decode cX7_least 82 = .ok (.iinc 2 1, 3) := by decide +kernel
theorem dX7_least_85 : decode cX7_least 85 = .ok (.goto (-56), 3) := by decide +kernel
theorem dX7_least_88 : decode cX7_least 88 = .ok (.bipush (-5), 2) := by decide +kernel
theorem dX7_least_90 : decode cX7_least 90 = .ok (.ireturn, 1) := by decide +kernel
theorem dX7_see_0 : decode cX7_see 0 = .ok (.iload_n 1, 1) := by decide +kernel
theorem dX7_see_1 : decode cX7_see 1 = .ok (.iconst (-1), 1) := by decide +kernel
theorem dX7_see_2 : decode cX7_see 2 = .ok (.if_icmp .ne 14, 3) := by decide +kernel
theorem dX7_see_5 : decode cX7_see 5 = .ok (.aload_n 0, 1) := by decide +kernel
theorem dX7_see_6 : decode cX7_see 6 = .ok (.getfield 12, 3) := by decide +kernel
theorem dX7_see_9 : decode cX7_see 9 = .ok (.getfield 243, 3) := by decide +kernel
theorem dX7_see_12 : decode cX7_see 12 = .ok (.invokevirtual 247, 3) := by decide +kernel
theorem dX7_see_15 : decode cX7_see 15 = .ok (.ireturn, 1) := by decide +kernel
theorem dX7_see_16 : decode cX7_see 16 = .ok (.aload_n 0, 1) := by decide +kernel
theorem dX7_see_17 : decode cX7_see 17 = .ok (.getfield 12, 3) := by decide +kernel
theorem dX7_see_20 : decode cX7_see 20 = .ok (.getfield 74, 3) := by decide +kernel
theorem dX7_see_23 : decode cX7_see 23 = .ok (.iload_n 1, 1) := by decide +kernel
theorem dX7_see_24 : decode cX7_see 24 = .ok (.invokevirtual 88, 3) := by decide +kernel
theorem dX7_see_27 : decode cX7_see 27 = .ok (.ifCond .ne 5, 3) := by decide +kernel
theorem dX7_see_30 : decode cX7_see 30 = .ok (.iconst (-1), 1) := by decide +kernel
theorem dX7_see_31 : decode cX7_see 31 = .ok (.ireturn, 1) := by decide +kernel
theorem dX7_see_32 : decode cX7_see 32 = .ok (.iload_n 2, 1) := by decide +kernel
theorem dX7_see_33 : decode cX7_see 33 = .ok (.ifCond .lt 9, 3) := by decide +kernel
theorem dX7_see_36 : decode cX7_see 36 = .ok (.iload_n 2, 1) := by decide +kernel
theorem dX7_see_37 : decode cX7_see 37 = .ok (.bipush 40, 2) := by decide +kernel
theorem dX7_see_39 : decode cX7_see 39 = .ok (.if_icmp .le 6, 3) := by decide +kernel
theorem dX7_see_42 : decode cX7_see 42 = .ok (.bipush (-2), 2) := by decide +kernel
theorem dX7_see_44 : decode cX7_see 44 = .ok (.ireturn, 1) := by decide +kernel
theorem dX7_see_45 : decode cX7_see 45 = .ok (.aload_n 0, 1) := by decide +kernel
theorem dX7_see_46 : decode cX7_see 46 = .ok (.getfield 12, 3) := by decide +kernel
theorem dX7_see_49 : decode cX7_see 49 = .ok (.getfield 243, 3) := by decide +kernel
theorem dX7_see_52 : decode cX7_see 52 = .ok (.getfield 252, 3) := by decide +kernel
theorem dX7_see_55 : decode cX7_see 55 = .ok (.iconst 5, 1) := by decide +kernel
theorem dX7_see_56 : decode cX7_see 56 = .ok (.if_icmp .ge 22, 3) := by decide +kernel
theorem dX7_see_59 : decode cX7_see 59 = .ok (.aload_n 0, 1) := by decide +kernel
theorem dX7_see_60 : decode cX7_see 60 = .ok (.getfield 12, 3) := by decide +kernel
theorem dX7_see_63 : decode cX7_see 63 = .ok (.getfield 243, 3) := by decide +kernel
theorem dX7_see_66 : decode cX7_see 66 = .ok (.iload_n 1, 1) := by decide +kernel
theorem dX7_see_67 : decode cX7_see 67 = .ok (.iload_n 2, 1) := by decide +kernel
theorem dX7_see_68 : decode cX7_see 68 = .ok (.iload_n 3, 1) := by decide +kernel
theorem dX7_see_69 : decode cX7_see 69 = .ok (.invokestatic 108, 3) := by decide +kernel
theorem dX7_see_72 : decode cX7_see 72 = .ok (.invokevirtual 255, 3) := by decide +kernel
theorem dX7_see_75 : decode cX7_see 75 = .ok (.goto 5, 3) := by decide +kernel
theorem dX7_see_78 : decode cX7_see 78 = .ok (.bipush (-4), 2) := by decide +kernel
theorem dX7_see_80 : decode cX7_see 80 = .ok (.ireturn, 1) := by decide +kernel
theorem dX7_fits_0 : decode cX7_fits 0 = .ok (.iload_n 1, 1) := by decide +kernel
theorem dX7_fits_1 : decode cX7_fits 1 = .ok (.invokestatic 194, 3) := by decide +kernel
theorem dX7_fits_4 : decode cX7_fits 4 = .ok (.ifCond .ne 6, 3) := by decide +kernel
theorem dX7_fits_7 : decode cX7_fits 7 = .ok (.bipush (-2), 2) := by decide +kernel
theorem dX7_fits_9 : decode cX7_fits 9 = .ok (.ireturn, 1) := by decide +kernel
theorem dX7_fits_10 : decode cX7_fits 10 = .ok (.aload_n 0, 1) := by decide +kernel
theorem dX7_fits_11 : decode cX7_fits 11 = .ok (.getfield 12, 3) := by decide +kernel
theorem dX7_fits_14 : decode cX7_fits 14 = .ok (.getfield 68, 3) := by decide +kernel
theorem dX7_fits_17 : decode cX7_fits 17 = .ok (.getfield 71, 3) := by decide +kernel
theorem dX7_fits_20 : decode cX7_fits 20 = .ok (.ifCond .eq 6, 3) := by decide +kernel
theorem dX7_fits_23 : decode cX7_fits 23 = .ok (.bipush (-3), 2) := by decide +kernel
theorem dX7_fits_25 : decode cX7_fits 25 = .ok (.ireturn, 1) := by decide +kernel
theorem dX7_fits_26 : decode cX7_fits 26 = .ok (.iconst 0, 1) := by decide +kernel
theorem dX7_fits_27 : decode cX7_fits 27 = .ok (.istore_n 2, 1) := by decide +kernel
theorem dX7_fits_28 : decode cX7_fits 28 = .ok (.aload_n 0, 1) := by decide +kernel
theorem dX7_fits_29 : decode cX7_fits 29 = .ok (.getfield 28, 3) := by decide +kernel
theorem dX7_fits_32 : decode cX7_fits 32 = .ok (.aload_n 0, 1) := by decide +kernel
theorem dX7_fits_33 : decode cX7_fits 33 = .ok (.getfield 12, 3) := by decide +kernel
theorem dX7_fits_36 : decode cX7_fits 36 = .ok (.getfield 74, 3) := by decide +kernel
theorem dX7_fits_39 : decode cX7_fits 39 = .ok (.invokevirtual 177, 3) := by decide +kernel
theorem dX7_fits_42 : decode cX7_fits 42 = .ok (.iconst 0, 1) := by decide +kernel
theorem dX7_fits_43 : decode cX7_fits 43 = .ok (.istore_n 3, 1) := by decide +kernel
theorem dX7_fits_44 : decode cX7_fits 44 = .ok (.iload_n 3, 1) := by decide +kernel
theorem dX7_fits_45 : decode cX7_fits 45 = .ok (.bipush 24, 2) := by decide +kernel
theorem dX7_fits_47 : decode cX7_fits 47 = .ok (.if_icmp .ge 51, 3) := by decide +kernel
theorem dX7_fits_50 : decode cX7_fits 50 = .ok (.aload_n 0, 1) := by decide +kernel
theorem dX7_fits_51 : decode cX7_fits 51 = .ok (.getfield 28, 3) := by decide +kernel
theorem dX7_fits_54 : decode cX7_fits 54 = .ok (.iconst 0, 1) := by decide +kernel
theorem dX7_fits_55 : decode cX7_fits 55 = .ok (.iload_n 3, 1) := by decide +kernel
theorem dX7_fits_56 : decode cX7_fits 56 = .ok (.invokevirtual 162, 3) := by decide +kernel
theorem dX7_fits_59 : decode cX7_fits 59 = .ok (.aload_n 0, 1) := by decide +kernel
theorem dX7_fits_60 : decode cX7_fits 60 = .ok (.getfield 12, 3) := by decide +kernel
theorem dX7_fits_63 : decode cX7_fits 63 = .ok (.getfield 74, 3) := by decide +kernel
theorem dX7_fits_66 : decode cX7_fits 66 = .ok (.iload_n 3, 1) := by decide +kernel
theorem dX7_fits_67 : decode cX7_fits 67 = .ok (.invokevirtual 88, 3) := by decide +kernel
theorem dX7_fits_70 : decode cX7_fits 70 = .ok (.ifCond .eq 22, 3) := by decide +kernel
theorem dX7_fits_73 : decode cX7_fits 73 = .ok (.aload_n 0, 1) := by decide +kernel
theorem dX7_fits_74 : decode cX7_fits 74 = .ok (.aload_n 0, 1) := by decide +kernel
theorem dX7_fits_75 : decode cX7_fits 75 = .ok (.getfield 28, 3) := by decide +kernel
theorem dX7_fits_78 : decode cX7_fits 78 = .ok (.iload_n 1, 1) := by decide +kernel
theorem dX7_fits_79 : decode cX7_fits 79 = .ok (.invokevirtual 256, 3) := by decide +kernel
theorem dX7_fits_82 : decode cX7_fits 82 = .ok (.ifCond .eq 10, 3) := by decide +kernel
theorem dX7_fits_85 : decode cX7_fits 85 = .ok (.iload_n 2, 1) := by decide +kernel
theorem dX7_fits_86 : decode cX7_fits 86 = .ok (.iload_n 3, 1) := by decide +kernel
theorem dX7_fits_87 : decode cX7_fits 87 = .ok (.invokestatic 168, 3) := by decide +kernel
theorem dX7_fits_90 : decode cX7_fits 90 = .ok (.ior, 1) := by decide +kernel
theorem dX7_fits_91 : decode cX7_fits 91 = .ok (.istore_n 2, 1) := by decide +kernel
theorem dX7_fits_92 : decode cX7_fits 92 = .ok (.iinc 3 1, 3) := by decide +kernel
theorem dX7_fits_95 : decode cX7_fits 95 = .ok (.goto (-51), 3) := by decide +kernel
theorem dX7_fits_98 : decode cX7_fits 98 = .ok (.iload_n 2, 1) := by decide +kernel
theorem dX7_fits_99 : decode cX7_fits 99 = .ok (.ireturn, 1) := by decide +kernel
theorem dX7_can_0 : decode cX7_can 0 = .ok (.aload_n 0, 1) := by decide +kernel
theorem dX7_can_1 : decode cX7_can 1 = .ok (.getfield 12, 3) := by decide +kernel
theorem dX7_can_4 : decode cX7_can 4 = .ok (.getfield 74, 3) := by decide +kernel
theorem dX7_can_7 : decode cX7_can 7 = .ok (.iload_n 1, 1) := by decide +kernel
theorem dX7_can_8 : decode cX7_can 8 = .ok (.invokevirtual 88, 3) := by decide +kernel
theorem dX7_can_11 : decode cX7_can 11 = .ok (.ifCond .eq 12, 3) := by decide +kernel
theorem dX7_can_14 : decode cX7_can 14 = .ok (.iload_n 3, 1) := by decide +kernel
theorem dX7_can_15 : decode cX7_can 15 = .ok (.ifCond .lt 8, 3) := by decide +kernel
theorem dX7_can_18 : decode cX7_can 18 = .ok (.iload_n 3, 1) := by decide +kernel
theorem dX7_can_19 : decode cX7_can 19 = .ok (.iconst 1, 1) := by decide +kernel
theorem dX7_can_20 : decode cX7_can 20 = .ok (.if_icmp .le 5, 3) := by decide +kernel
theorem dX7_can_23 : decode cX7_can 23 = .ok (.iconst (-1), 1) := by decide +kernel
theorem dX7_can_24 : decode cX7_can 24 = .ok (.ireturn, 1) := by decide +kernel
theorem dX7_can_25 : decode cX7_can 25 = .ok (.iload_n 2, 1) := by decide +kernel
theorem dX7_can_26 : decode cX7_can 26 = .ok (.invokestatic 194, 3) := by decide +kernel
theorem dX7_can_29 : decode cX7_can 29 = .ok (.ifCond .ne 6, 3) := by decide +kernel
theorem dX7_can_32 : decode cX7_can 32 = .ok (.bipush (-2), 2) := by decide +kernel
theorem dX7_can_34 : decode cX7_can 34 = .ok (.ireturn, 1) := by decide +kernel
theorem dX7_can_35 : decode cX7_can 35 = .ok (.aload_n 0, 1) := by decide +kernel
theorem dX7_can_36 : decode cX7_can 36 = .ok (.getfield 12, 3) := by decide +kernel
theorem dX7_can_39 : decode cX7_can 39 = .ok (.getfield 68, 3) := by decide +kernel
theorem dX7_can_42 : decode cX7_can 42 = .ok (.getfield 71, 3) := by decide +kernel
theorem dX7_can_45 : decode cX7_can 45 = .ok (.ifCond .eq 6, 3) := by decide +kernel
theorem dX7_can_48 : decode cX7_can 48 = .ok (.bipush (-3), 2) := by decide +kernel
theorem dX7_can_50 : decode cX7_can 50 = .ok (.ireturn, 1) := by decide +kernel
theorem dX7_can_51 : decode cX7_can 51 = .ok (.iconst 0, 1) := by decide +kernel
theorem dX7_can_52 : decode cX7_can 52 = .ok (.istore 4, 2) := by decide +kernel
theorem dX7_can_54 : decode cX7_can 54 = .ok (.bipush (-5), 2) := by decide +kernel
theorem dX7_can_56 : decode cX7_can 56 = .ok (.istore 5, 2) := by decide +kernel
theorem dX7_can_58 : decode cX7_can 58 = .ok (.aload_n 0, 1) := by decide +kernel
theorem dX7_can_59 : decode cX7_can 59 = .ok (.getfield 28, 3) := by decide +kernel
theorem dX7_can_62 : decode cX7_can 62 = .ok (.aload_n 0, 1) := by decide +kernel
theorem dX7_can_63 : decode cX7_can 63 = .ok (.getfield 12, 3) := by decide +kernel
theorem dX7_can_66 : decode cX7_can 66 = .ok (.getfield 74, 3) := by decide +kernel
theorem dX7_can_69 : decode cX7_can 69 = .ok (.invokevirtual 177, 3) := by decide +kernel
theorem dX7_can_72 : decode cX7_can 72 = .ok (.bipush 9, 2) := by decide +kernel
theorem dX7_can_74 : decode cX7_can 74 = .ok (.istore 6, 2) := by decide +kernel
theorem dX7_can_76 : decode cX7_can 76 = .ok (.iload 6, 2) := by decide +kernel
theorem dX7_can_78 : decode cX7_can 78 = .ok (.ifCond .lt 38, 3) := by decide +kernel
theorem dX7_can_81 : decode cX7_can 81 = .ok (.aload_n 0, 1) := by decide +kernel
theorem dX7_can_82 : decode cX7_can 82 = .ok (.getfield 28, 3) := by decide +kernel
theorem dX7_can_85 : decode cX7_can 85 = .ok (.iload_n 1, 1) := by decide +kernel
theorem dX7_can_86 : decode cX7_can 86 = .ok (.iload 6, 2) := by decide +kernel
theorem dX7_can_88 : decode cX7_can 88 = .ok (.invokevirtual 152, 3) := by decide +kernel
theorem dX7_can_91 : decode cX7_can 91 = .ok (.aload_n 0, 1) := by decide +kernel
theorem dX7_can_92 : decode cX7_can 92 = .ok (.aload_n 0, 1) := by decide +kernel
theorem dX7_can_93 : decode cX7_can 93 = .ok (.getfield 28, 3) := by decide +kernel
theorem dX7_can_96 : decode cX7_can 96 = .ok (.iload_n 2, 1) := by decide +kernel
theorem dX7_can_97 : decode cX7_can 97 = .ok (.invokevirtual 256, 3) := by decide +kernel
theorem dX7_can_100 : decode cX7_can 100 = .ok (.ifCond .eq 10, 3) := by decide +kernel
theorem dX7_can_103 : decode cX7_can 103 = .ok (.iinc 4 1, 3) := by decide +kernel
theorem dX7_can_106 : decode cX7_can 106 = .ok (.iload 6, 2) := by decide +kernel
theorem dX7_can_108 : decode cX7_can 108 = .ok (.istore 5, 2) := by decide +kernel
theorem dX7_can_110 : decode cX7_can 110 = .ok (.iinc 6 (-1), 3) := by decide +kernel
theorem dX7_can_113 : decode cX7_can 113 = .ok (.goto (-37), 3) := by decide +kernel
theorem dX7_can_116 : decode cX7_can 116 = .ok (.iload_n 3, 1) := by decide +kernel
theorem dX7_can_117 : decode cX7_can 117 = .ok (.ifCond .ne 8, 3) := by decide +kernel
theorem dX7_can_120 : decode cX7_can 120 = .ok (.iload 4, 2) := by decide +kernel
theorem dX7_can_122 : decode cX7_can 122 = .ok (.goto 5, 3) := by decide +kernel
theorem dX7_can_125 : decode cX7_can 125 = .ok (.iload 5, 2) := by decide +kernel
theorem dX7_can_127 : decode cX7_can 127 = .ok (.ireturn, 1) := by decide +kernel
theorem dX7_odds_0 : decode cX7_odds 0 = .ok (.aload_n 0, 1) := by decide +kernel
theorem dX7_odds_1 : decode cX7_odds 1 = .ok (.getfield 12, 3) := by decide +kernel
theorem dX7_odds_4 : decode cX7_odds 4 = .ok (.getfield 74, 3) := by decide +kernel
theorem dX7_odds_7 : decode cX7_odds 7 = .ok (.astore_n 3, 1) := by decide +kernel
theorem dX7_odds_8 : decode cX7_odds 8 = .ok (.aload_n 3, 1) := by decide +kernel
theorem dX7_odds_9 : decode cX7_odds 9 = .ok (.iload_n 1, 1) := by decide +kernel
theorem dX7_odds_10 : decode cX7_odds 10 = .ok (.invokevirtual 88, 3) := by decide +kernel
theorem dX7_odds_13 : decode cX7_odds 13 = .ok (.ifCond .ne 7, 3) := by decide +kernel
theorem dX7_odds_16 : decode cX7_odds 16 = .ok (.ldc2_w 260, 3) := by decide +kernel
theorem dX7_odds_19 : decode cX7_odds 19 = .ok (.lreturn, 1) := by decide +kernel
theorem dX7_odds_20 : decode cX7_odds 20 = .ok (.aload_n 0, 1) := by decide +kernel
theorem dX7_odds_21 : decode cX7_odds 21 = .ok (.getfield 42, 3) := by decide +kernel
theorem dX7_odds_24 : decode cX7_odds 24 = .ok (.aload_n 3, 1) := by decide +kernel
theorem dX7_odds_25 : decode cX7_odds 25 = .ok (.invokevirtual 219, 3) := by decide +kernel
theorem dX7_odds_28 : decode cX7_odds 28 = .ok (.iconst 0, 1) := by decide +kernel
theorem dX7_odds_29 : decode cX7_odds 29 = .ok (.istore 4, 2) := by decide +kernel
theorem dX7_odds_31 : decode cX7_odds 31 = .ok (.iconst 0, 1) := by decide +kernel
theorem dX7_odds_32 : decode cX7_odds 32 = .ok (.istore 5, 2) := by decide +kernel
theorem dX7_odds_34 : decode cX7_odds 34 = .ok (.iconst 0, 1) := by decide +kernel
theorem dX7_odds_35 : decode cX7_odds 35 = .ok (.istore 6, 2) := by decide +kernel
theorem dX7_odds_37 : decode cX7_odds 37 = .ok (.iload 6, 2) := by decide +kernel
theorem dX7_odds_39 : decode cX7_odds 39 = .ok (.bipush 24, 2) := by decide +kernel
theorem dX7_odds_41 : decode cX7_odds 41 = .ok (.if_icmp .ge 69, 3) := by decide +kernel
theorem dX7_odds_44 : decode cX7_odds 44 = .ok (.iconst 0, 1) := by decide +kernel
theorem dX7_odds_45 : decode cX7_odds 45 = .ok (.istore 7, 2) := by decide +kernel
theorem dX7_odds_47 : decode cX7_odds 47 = .ok (.iload 7, 2) := by decide +kernel
theorem dX7_odds_49 : decode cX7_odds 49 = .ok (.aload_n 3, 1) := by decide +kernel
theorem dX7_odds_50 : decode cX7_odds 50 = .ok (.iload 6, 2) := by decide +kernel
theorem dX7_odds_52 : decode cX7_odds 52 = .ok (.invokevirtual 98, 3) := by decide +kernel
theorem dX7_odds_55 : decode cX7_odds 55 = .ok (.if_icmp .ge 49, 3) := by decide +kernel
theorem dX7_odds_58 : decode cX7_odds 58 = .ok (.aload_n 3, 1) := by decide +kernel
theorem dX7_odds_59 : decode cX7_odds 59 = .ok (.iload 6, 2) := by decide +kernel
theorem dX7_odds_61 : decode cX7_odds 61 = .ok (.iload 7, 2) := by decide +kernel
theorem dX7_odds_63 : decode cX7_odds 63 = .ok (.invokevirtual 262, 3) := by decide +kernel
theorem dX7_odds_66 : decode cX7_odds 66 = .ok (.bipush (-5), 2) := by decide +kernel
theorem dX7_odds_68 : decode cX7_odds 68 = .ok (.if_icmp .eq 30, 3) := by decide +kernel
theorem dX7_odds_71 : decode cX7_odds 71 = .ok (.iinc 4 1, 3) := by decide +kernel
theorem dX7_odds_74 : decode cX7_odds 74 = .ok (.iload 5, 2) := by decide +kernel
theorem dX7_odds_76 : decode cX7_odds 76 = .ok (.aload_n 0, 1) := by decide +kernel
theorem dX7_odds_77 : decode cX7_odds 77 = .ok (.getfield 42, 3) := by decide +kernel
theorem dX7_odds_80 : decode cX7_odds 80 = .ok (.aload_n 3, 1) := by decide +kernel
theorem dX7_odds_81 : decode cX7_odds 81 = .ok (.iload 6, 2) := by decide +kernel
theorem dX7_odds_83 : decode cX7_odds 83 = .ok (.iload 7, 2) := by decide +kernel
theorem dX7_odds_85 : decode cX7_odds 85 = .ok (.invokevirtual 265, 3) := by decide +kernel
theorem dX7_odds_88 : decode cX7_odds 88 = .ok (.iload_n 1, 1) := by decide +kernel
theorem dX7_odds_89 : decode cX7_odds 89 = .ok (.invokestatic 104, 3) := by decide +kernel
theorem dX7_odds_92 : decode cX7_odds 92 = .ok (.invokestatic 108, 3) := by decide +kernel
theorem dX7_odds_95 : decode cX7_odds 95 = .ok (.iadd, 1) := by decide +kernel
theorem dX7_odds_96 : decode cX7_odds 96 = .ok (.istore 5, 2) := by decide +kernel
theorem dX7_odds_98 : decode cX7_odds 98 = .ok (.iinc 7 1, 3) := by decide +kernel
theorem dX7_odds_101 : decode cX7_odds 101 = .ok (.goto (-54), 3) := by decide +kernel
theorem dX7_odds_104 : decode cX7_odds 104 = .ok (.iinc 6 1, 3) := by decide +kernel
theorem dX7_odds_107 : decode cX7_odds 107 = .ok (.goto (-70), 3) := by decide +kernel
theorem dX7_odds_110 : decode cX7_odds 110 = .ok (.iload 5, 2) := by decide +kernel
theorem dX7_odds_112 : decode cX7_odds 112 = .ok (.iload 4, 2) := by decide +kernel
theorem dX7_odds_114 : decode cX7_odds 114 = .ok (.iload_n 2, 1) := by decide +kernel
theorem dX7_odds_115 : decode cX7_odds 115 = .ok (.invokestatic 269, 3) := by decide +kernel
theorem dX7_odds_118 : decode cX7_odds 118 = .ok (.lreturn, 1) := by decide +kernel
theorem dX7_mean_0 : decode cX7_mean 0 = .ok (.aload_n 0, 1) := by decide +kernel
theorem dX7_mean_1 : decode cX7_mean 1 = .ok (.getfield 42, 3) := by decide +kernel
theorem dX7_mean_4 : decode cX7_mean 4 = .ok (.aload_n 0, 1) := by decide +kernel
theorem dX7_mean_5 : decode cX7_mean 5 = .ok (.getfield 12, 3) := by decide +kernel
theorem dX7_mean_8 : decode cX7_mean 8 = .ok (.getfield 74, 3) := by decide +kernel
theorem dX7_mean_11 : decode cX7_mean 11 = .ok (.invokevirtual 219, 3) := by decide +kernel
theorem dX7_mean_14 : decode cX7_mean 14 = .ok (.iconst 0, 1) := by decide +kernel
theorem dX7_mean_15 : decode cX7_mean 15 = .ok (.istore_n 2, 1) := by decide +kernel
theorem dX7_mean_16 : decode cX7_mean 16 = .ok (.iconst 0, 1) := by decide +kernel
theorem dX7_mean_17 : decode cX7_mean 17 = .ok (.istore_n 3, 1) := by decide +kernel
theorem dX7_mean_18 : decode cX7_mean 18 = .ok (.iload_n 3, 1) := by decide +kernel
theorem dX7_mean_19 : decode cX7_mean 19 = .ok (.bipush 24, 2) := by decide +kernel
theorem dX7_mean_21 : decode cX7_mean 21 = .ok (.if_icmp .ge 24, 3) := by decide +kernel
theorem dX7_mean_24 : decode cX7_mean 24 = .ok (.iload_n 2, 1) := by decide +kernel
theorem dX7_mean_25 : decode cX7_mean 25 = .ok (.aload_n 0, 1) := by decide +kernel
theorem dX7_mean_26 : decode cX7_mean 26 = .ok (.getfield 42, 3) := by decide +kernel
theorem dX7_mean_29 : decode cX7_mean 29 = .ok (.iload_n 3, 1) := by decide +kernel
theorem dX7_mean_30 : decode cX7_mean 30 = .ok (.invokevirtual 273, 3) := by decide +kernel
theorem dX7_mean_33 : decode cX7_mean 33 = .ok (.iconst 0, 1) := by decide +kernel
theorem dX7_mean_34 : decode cX7_mean 34 = .ok (.invokestatic 276, 3) := by decide +kernel
theorem dX7_mean_37 : decode cX7_mean 37 = .ok (.iadd, 1) := by decide +kernel
theorem dX7_mean_38 : decode cX7_mean 38 = .ok (.istore_n 2, 1) := by decide +kernel
theorem dX7_mean_39 : decode cX7_mean 39 = .ok (.iinc 3 1, 3) := by decide +kernel
theorem dX7_mean_42 : decode cX7_mean 42 = .ok (.goto (-24), 3) := by decide +kernel
theorem dX7_mean_45 : decode cX7_mean 45 = .ok (.iload_n 2, 1) := by decide +kernel
theorem dX7_mean_46 : decode cX7_mean 46 = .ok (.aload_n 0, 1) := by decide +kernel
theorem dX7_mean_47 : decode cX7_mean 47 = .ok (.getfield 42, 3) := by decide +kernel
theorem dX7_mean_50 : decode cX7_mean 50 = .ok (.invokevirtual 222, 3) := by decide +kernel
theorem dX7_mean_53 : decode cX7_mean 53 = .ok (.invokestatic 201, 3) := by decide +kernel
theorem dX7_mean_56 : decode cX7_mean 56 = .ok (.iload_n 1, 1) := by decide +kernel
theorem dX7_mean_57 : decode cX7_mean 57 = .ok (.invokestatic 269, 3) := by decide +kernel
theorem dX7_mean_60 : decode cX7_mean 60 = .ok (.lreturn, 1) := by decide +kernel
theorem dX7_plan_0 : decode cX7_plan 0 = .ok (.iload_n 1, 1) := by decide +kernel
theorem dX7_plan_1 : decode cX7_plan 1 = .ok (.iconst (-1), 1) := by decide +kernel
theorem dX7_plan_2 : decode cX7_plan 2 = .ok (.if_icmp .ne 14, 3) := by decide +kernel
theorem dX7_plan_5 : decode cX7_plan 5 = .ok (.aload_n 0, 1) := by decide +kernel
theorem dX7_plan_6 : decode cX7_plan 6 = .ok (.getfield 12, 3) := by decide +kernel
theorem dX7_plan_9 : decode cX7_plan 9 = .ok (.getfield 281, 3) := by decide +kernel
theorem dX7_plan_12 : decode cX7_plan 12 = .ok (.invokevirtual 247, 3) := by decide +kernel
theorem dX7_plan_15 : decode cX7_plan 15 = .ok (.ireturn, 1) := by decide +kernel
theorem dX7_plan_16 : decode cX7_plan 16 = .ok (.aload_n 0, 1) := by decide +kernel
theorem dX7_plan_17 : decode cX7_plan 17 = .ok (.iload_n 1, 1) := by decide +kernel
theorem dX7_plan_18 : decode cX7_plan 18 = .ok (.iload_n 2, 1) := by decide +kernel
theorem dX7_plan_19 : decode cX7_plan 19 = .ok (.invokevirtual 284, 3) := by decide +kernel
theorem dX7_plan_22 : decode cX7_plan 22 = .ok (.ifCond .ne 5, 3) := by decide +kernel
theorem dX7_plan_25 : decode cX7_plan 25 = .ok (.iconst (-1), 1) := by decide +kernel
theorem dX7_plan_26 : decode cX7_plan 26 = .ok (.ireturn, 1) := by decide +kernel
theorem dX7_plan_27 : decode cX7_plan 27 = .ok (.aload_n 0, 1) := by decide +kernel
theorem dX7_plan_28 : decode cX7_plan 28 = .ok (.getfield 12, 3) := by decide +kernel
theorem dX7_plan_31 : decode cX7_plan 31 = .ok (.getfield 281, 3) := by decide +kernel
theorem dX7_plan_34 : decode cX7_plan 34 = .ok (.getfield 252, 3) := by decide +kernel
theorem dX7_plan_37 : decode cX7_plan 37 = .ok (.bipush 10, 2) := by decide +kernel
theorem dX7_plan_39 : decode cX7_plan 39 = .ok (.if_icmp .ge 19, 3) := by decide +kernel
theorem dX7_plan_42 : decode cX7_plan 42 = .ok (.aload_n 0, 1) := by decide +kernel
theorem dX7_plan_43 : decode cX7_plan 43 = .ok (.getfield 12, 3) := by decide +kernel
theorem dX7_plan_46 : decode cX7_plan 46 = .ok (.getfield 281, 3) := by decide +kernel
theorem dX7_plan_49 : decode cX7_plan 49 = .ok (.iload_n 1, 1) := by decide +kernel
theorem dX7_plan_50 : decode cX7_plan 50 = .ok (.iload_n 2, 1) := by decide +kernel
theorem dX7_plan_51 : decode cX7_plan 51 = .ok (.iconst 0, 1) := by decide +kernel
theorem dX7_plan_52 : decode cX7_plan 52 = .ok (.invokevirtual 255, 3) := by decide +kernel
theorem dX7_plan_55 : decode cX7_plan 55 = .ok (.goto 5, 3) := by decide +kernel
theorem dX7_plan_58 : decode cX7_plan 58 = .ok (.bipush (-4), 2) := by decide +kernel
theorem dX7_plan_60 : decode cX7_plan 60 = .ok (.ireturn, 1) := by decide +kernel
theorem dX7_ends_0 : decode cX7_ends 0 = .ok (.aload_n 0, 1) := by decide +kernel
theorem dX7_ends_1 : decode cX7_ends 1 = .ok (.getfield 28, 3) := by decide +kernel
theorem dX7_ends_4 : decode cX7_ends 4 = .ok (.aload_n 0, 1) := by decide +kernel
theorem dX7_ends_5 : decode cX7_ends 5 = .ok (.getfield 12, 3) := by decide +kernel
theorem dX7_ends_8 : decode cX7_ends 8 = .ok (.getfield 74, 3) := by decide +kernel
theorem dX7_ends_11 : decode cX7_ends 11 = .ok (.invokevirtual 177, 3) := by decide +kernel
theorem dX7_ends_14 : decode cX7_ends 14 = .ok (.iconst 0, 1) := by decide +kernel
theorem dX7_ends_15 : decode cX7_ends 15 = .ok (.istore_n 1, 1) := by decide +kernel
theorem dX7_ends_16 : decode cX7_ends 16 = .ok (.iload_n 1, 1) := by decide +kernel
theorem dX7_ends_17 : decode cX7_ends 17 = .ok (.aload_n 0, 1) := by decide +kernel
theorem dX7_ends_18 : decode cX7_ends 18 = .ok (.getfield 12, 3) := by decide +kernel
theorem dX7_ends_21 : decode cX7_ends 21 = .ok (.getfield 281, 3) := by decide +kernel
theorem dX7_ends_24 : decode cX7_ends 24 = .ok (.getfield 252, 3) := by decide +kernel
theorem dX7_ends_27 : decode cX7_ends 27 = .ok (.if_icmp .ge 101, 3) := by decide +kernel
theorem dX7_ends_30 : decode cX7_ends 30 = .ok (.aload_n 0, 1) := by decide +kernel
theorem dX7_ends_31 : decode cX7_ends 31 = .ok (.getfield 12, 3) := by decide +kernel
theorem dX7_ends_34 : decode cX7_ends 34 = .ok (.getfield 281, 3) := by decide +kernel
theorem dX7_ends_37 : decode cX7_ends 37 = .ok (.iload_n 1, 1) := by decide +kernel
theorem dX7_ends_38 : decode cX7_ends 38 = .ok (.iconst 1, 1) := by decide +kernel
theorem dX7_ends_39 : decode cX7_ends 39 = .ok (.invokevirtual 287, 3) := by decide +kernel
theorem dX7_ends_42 : decode cX7_ends 42 = .ok (.istore_n 2, 1) := by decide +kernel
theorem dX7_ends_43 : decode cX7_ends 43 = .ok (.aload_n 0, 1) := by decide +kernel
theorem dX7_ends_44 : decode cX7_ends 44 = .ok (.getfield 12, 3) := by decide +kernel
theorem dX7_ends_47 : decode cX7_ends 47 = .ok (.getfield 281, 3) := by decide +kernel
theorem dX7_ends_50 : decode cX7_ends 50 = .ok (.iload_n 1, 1) := by decide +kernel
theorem dX7_ends_51 : decode cX7_ends 51 = .ok (.iconst 0, 1) := by decide +kernel
theorem dX7_ends_52 : decode cX7_ends 52 = .ok (.invokevirtual 287, 3) := by decide +kernel
theorem dX7_ends_55 : decode cX7_ends 55 = .ok (.lookupswitch 58 #[(0, 25), (1, 45)], 25) := by decide +kernel
theorem dX7_ends_80 : decode cX7_ends 80 = .ok (.aload_n 0, 1) := by decide +kernel
theorem dX7_ends_81 : decode cX7_ends 81 = .ok (.getfield 28, 3) := by decide +kernel
theorem dX7_ends_84 : decode cX7_ends 84 = .ok (.iload_n 2, 1) := by decide +kernel
theorem dX7_ends_85 : decode cX7_ends 85 = .ok (.bipush 10, 2) := by decide +kernel
theorem dX7_ends_87 : decode cX7_ends 87 = .ok (.idiv, 1) := by decide +kernel
theorem dX7_ends_88 : decode cX7_ends 88 = .ok (.iload_n 2, 1) := by decide +kernel
theorem dX7_ends_89 : decode cX7_ends 89 = .ok (.bipush 10, 2) := by decide +kernel
theorem dX7_ends_91 : decode cX7_ends 91 = .ok (.irem, 1) := by decide +kernel
theorem dX7_ends_92 : decode cX7_ends 92 = .ok (.bipush (-5), 2) := by decide +kernel
theorem dX7_ends_94 : decode cX7_ends 94 = .ok (.invokevirtual 148, 3) := by decide +kernel
theorem dX7_ends_97 : decode cX7_ends 97 = .ok (.goto 25, 3) := by decide +kernel
theorem dX7_ends_100 : decode cX7_ends 100 = .ok (.aload_n 0, 1) := by decide +kernel
theorem dX7_ends_101 : decode cX7_ends 101 = .ok (.getfield 28, 3) := by decide +kernel
theorem dX7_ends_104 : decode cX7_ends 104 = .ok (.iload_n 2, 1) := by decide +kernel
theorem dX7_ends_105 : decode cX7_ends 105 = .ok (.bipush (-5), 2) := by decide +kernel
theorem dX7_ends_107 : decode cX7_ends 107 = .ok (.invokevirtual 162, 3) := by decide +kernel
theorem dX7_ends_110 : decode cX7_ends 110 = .ok (.goto 12, 3) := by decide +kernel
theorem dX7_ends_113 : decode cX7_ends 113 = .ok (.aload_n 0, 1) := by decide +kernel
theorem dX7_ends_114 : decode cX7_ends 114 = .ok (.getfield 28, 3) := by decide +kernel
theorem dX7_ends_117 : decode cX7_ends 117 = .ok (.iload_n 2, 1) := by decide +kernel
theorem dX7_ends_118 : decode cX7_ends 118 = .ok (.iconst 0, 1) := by decide +kernel
theorem dX7_ends_119 : decode cX7_ends 119 = .ok (.invokevirtual 152, 3) := by decide +kernel
theorem dX7_ends_122 : decode cX7_ends 122 = .ok (.iinc 1 1, 3) := by decide +kernel
theorem dX7_ends_125 : decode cX7_ends 125 = .ok (.goto (-109), 3) := by decide +kernel
theorem dX7_ends_128 : decode cX7_ends 128 = .ok (.aload_n 0, 1) := by decide +kernel
theorem dX7_ends_129 : decode cX7_ends 129 = .ok (.getfield 42, 3) := by decide +kernel
theorem dX7_ends_132 : decode cX7_ends 132 = .ok (.aload_n 0, 1) := by decide +kernel
theorem dX7_ends_133 : decode cX7_ends 133 = .ok (.getfield 28, 3) := by decide +kernel
theorem dX7_ends_136 : decode cX7_ends 136 = .ok (.invokevirtual 219, 3) := by decide +kernel
theorem dX7_ends_139 : decode cX7_ends 139 = .ok (.aload_n 0, 1) := by decide +kernel
theorem dX7_ends_140 : decode cX7_ends 140 = .ok (.getfield 42, 3) := by decide +kernel
theorem dX7_ends_143 : decode cX7_ends 143 = .ok (.invokevirtual 222, 3) := by decide +kernel
theorem dX7_ends_146 : decode cX7_ends 146 = .ok (.ireturn, 1) := by decide +kernel
theorem dX7_book_0 : decode cX7_book 0 = .ok (.iload_n 1, 1) := by decide +kernel
theorem dX7_book_1 : decode cX7_book 1 = .ok (.iconst (-1), 1) := by decide +kernel
theorem dX7_book_2 : decode cX7_book 2 = .ok (.if_icmp .ne 14, 3) := by decide +kernel
theorem dX7_book_5 : decode cX7_book 5 = .ok (.aload_n 0, 1) := by decide +kernel
theorem dX7_book_6 : decode cX7_book 6 = .ok (.getfield 12, 3) := by decide +kernel
theorem dX7_book_9 : decode cX7_book 9 = .ok (.getfield 290, 3) := by decide +kernel
theorem dX7_book_12 : decode cX7_book 12 = .ok (.invokevirtual 247, 3) := by decide +kernel
theorem dX7_book_15 : decode cX7_book 15 = .ok (.ireturn, 1) := by decide +kernel
theorem dX7_book_16 : decode cX7_book 16 = .ok (.aload_n 0, 1) := by decide +kernel
theorem dX7_book_17 : decode cX7_book 17 = .ok (.getfield 12, 3) := by decide +kernel
theorem dX7_book_20 : decode cX7_book 20 = .ok (.getfield 74, 3) := by decide +kernel
theorem dX7_book_23 : decode cX7_book 23 = .ok (.iload_n 1, 1) := by decide +kernel
theorem dX7_book_24 : decode cX7_book 24 = .ok (.iload_n 2, 1) := by decide +kernel
theorem dX7_book_25 : decode cX7_book 25 = .ok (.invokevirtual 130, 3) := by decide +kernel
theorem dX7_book_28 : decode cX7_book 28 = .ok (.ifCond .eq 17, 3) := by decide +kernel
theorem dX7_book_31 : decode cX7_book 31 = .ok (.aload_n 0, 1) := by decide +kernel
theorem dX7_book_32 : decode cX7_book 32 = .ok (.getfield 12, 3) := by decide +kernel
theorem dX7_book_35 : decode cX7_book 35 = .ok (.getfield 74, 3) := by decide +kernel
theorem dX7_book_38 : decode cX7_book 38 = .ok (.iload_n 3, 1) := by decide +kernel
theorem dX7_book_39 : decode cX7_book 39 = .ok (.invokevirtual 142, 3) := by decide +kernel
theorem dX7_book_42 : decode cX7_book 42 = .ok (.ifCond .ne 5, 3) := by decide +kernel
theorem dX7_book_45 : decode cX7_book 45 = .ok (.iconst (-1), 1) := by decide +kernel
theorem dX7_book_46 : decode cX7_book 46 = .ok (.ireturn, 1) := by decide +kernel
theorem dX7_book_47 : decode cX7_book 47 = .ok (.aload_n 0, 1) := by decide +kernel
theorem dX7_book_48 : decode cX7_book 48 = .ok (.getfield 12, 3) := by decide +kernel
theorem dX7_book_51 : decode cX7_book 51 = .ok (.getfield 290, 3) := by decide +kernel
theorem dX7_book_54 : decode cX7_book 54 = .ok (.getfield 252, 3) := by decide +kernel
theorem dX7_book_57 : decode cX7_book 57 = .ok (.bipush 8, 2) := by decide +kernel
theorem dX7_book_59 : decode cX7_book 59 = .ok (.if_icmp .ge 22, 3) := by decide +kernel
theorem dX7_book_62 : decode cX7_book 62 = .ok (.aload_n 0, 1) := by decide +kernel
theorem dX7_book_63 : decode cX7_book 63 = .ok (.getfield 12, 3) := by decide +kernel
theorem dX7_book_66 : decode cX7_book 66 = .ok (.getfield 290, 3) := by decide +kernel
theorem dX7_book_69 : decode cX7_book 69 = .ok (.iload_n 1, 1) := by decide +kernel
theorem dX7_book_70 : decode cX7_book 70 = .ok (.iload_n 2, 1) := by decide +kernel
theorem dX7_book_71 : decode cX7_book 71 = .ok (.iload_n 3, 1) := by decide +kernel
theorem dX7_book_72 : decode cX7_book 72 = .ok (.invokestatic 145, 3) := by decide +kernel
theorem dX7_book_75 : decode cX7_book 75 = .ok (.invokevirtual 255, 3) := by decide +kernel
theorem dX7_book_78 : decode cX7_book 78 = .ok (.goto 5, 3) := by decide +kernel
theorem dX7_book_81 : decode cX7_book 81 = .ok (.bipush (-4), 2) := by decide +kernel
theorem dX7_book_83 : decode cX7_book 83 = .ok (.ireturn, 1) := by decide +kernel
theorem dX7_looked_0 : decode cX7_looked 0 = .ok (.iconst 0, 1) := by decide +kernel
theorem dX7_looked_1 : decode cX7_looked 1 = .ok (.istore_n 1, 1) := by decide +kernel
theorem dX7_looked_2 : decode cX7_looked 2 = .ok (.iload_n 1, 1) := by decide +kernel
theorem dX7_looked_3 : decode cX7_looked 3 = .ok (.aload_n 0, 1) := by decide +kernel
theorem dX7_looked_4 : decode cX7_looked 4 = .ok (.getfield 12, 3) := by decide +kernel
theorem dX7_looked_7 : decode cX7_looked 7 = .ok (.getfield 290, 3) := by decide +kernel
theorem dX7_looked_10 : decode cX7_looked 10 = .ok (.getfield 252, 3) := by decide +kernel
theorem dX7_looked_13 : decode cX7_looked 13 = .ok (.if_icmp .ge 79, 3) := by decide +kernel
theorem dX7_looked_16 : decode cX7_looked 16 = .ok (.aload_n 0, 1) := by decide +kernel
theorem dX7_looked_17 : decode cX7_looked 17 = .ok (.getfield 12, 3) := by decide +kernel
theorem dX7_looked_20 : decode cX7_looked 20 = .ok (.getfield 290, 3) := by decide +kernel
theorem dX7_looked_23 : decode cX7_looked 23 = .ok (.iload_n 1, 1) := by decide +kernel
theorem dX7_looked_24 : decode cX7_looked 24 = .ok (.iconst 0, 1) := by decide +kernel
theorem dX7_looked_25 : decode cX7_looked 25 = .ok (.invokevirtual 287, 3) := by decide +kernel
theorem dX7_looked_28 : decode cX7_looked 28 = .ok (.istore_n 2, 1) := by decide +kernel
theorem dX7_looked_29 : decode cX7_looked 29 = .ok (.aload_n 0, 1) := by decide +kernel
theorem dX7_looked_30 : decode cX7_looked 30 = .ok (.getfield 12, 3) := by decide +kernel
theorem dX7_looked_33 : decode cX7_looked 33 = .ok (.getfield 290, 3) := by decide +kernel
theorem dX7_looked_36 : decode cX7_looked 36 = .ok (.iload_n 1, 1) := by decide +kernel
theorem dX7_looked_37 : decode cX7_looked 37 = .ok (.iconst 1, 1) := by decide +kernel
theorem dX7_looked_38 : decode cX7_looked 38 = .ok (.invokevirtual 287, 3) := by decide +kernel
theorem dX7_looked_41 : decode cX7_looked 41 = .ok (.istore_n 3, 1) := by decide +kernel
theorem dX7_looked_42 : decode cX7_looked 42 = .ok (.aload_n 0, 1) := by decide +kernel
theorem dX7_looked_43 : decode cX7_looked 43 = .ok (.getfield 12, 3) := by decide +kernel
theorem dX7_looked_46 : decode cX7_looked 46 = .ok (.getfield 74, 3) := by decide +kernel
theorem dX7_looked_49 : decode cX7_looked 49 = .ok (.iload_n 2, 1) := by decide +kernel
theorem dX7_looked_50 : decode cX7_looked 50 = .ok (.iload_n 3, 1) := by decide +kernel
theorem dX7_looked_51 : decode cX7_looked 51 = .ok (.invokevirtual 130, 3) := by decide +kernel
theorem dX7_looked_54 : decode cX7_looked 54 = .ok (.ifCond .eq 30, 3) := by decide +kernel
theorem dX7_looked_57 : decode cX7_looked 57 = .ok (.aload_n 0, 1) := by decide +kernel
theorem dX7_looked_58 : decode cX7_looked 58 = .ok (.getfield 12, 3) := by decide +kernel
theorem dX7_looked_61 : decode cX7_looked 61 = .ok (.getfield 74, 3) := by decide +kernel
theorem dX7_looked_64 : decode cX7_looked 64 = .ok (.iload_n 2, 1) := by decide +kernel
theorem dX7_looked_65 : decode cX7_looked 65 = .ok (.iload_n 3, 1) := by decide +kernel
theorem dX7_looked_66 : decode cX7_looked 66 = .ok (.invokevirtual 133, 3) := by decide +kernel
theorem dX7_looked_69 : decode cX7_looked 69 = .ok (.aload_n 0, 1) := by decide +kernel
theorem dX7_looked_70 : decode cX7_looked 70 = .ok (.getfield 12, 3) := by decide +kernel
theorem dX7_looked_73 : decode cX7_looked 73 = .ok (.getfield 290, 3) := by decide +kernel
theorem dX7_looked_76 : decode cX7_looked 76 = .ok (.iload_n 1, 1) := by decide +kernel
theorem dX7_looked_77 : decode cX7_looked 77 = .ok (.iconst 2, 1) := by decide +kernel
theorem dX7_looked_78 : decode cX7_looked 78 = .ok (.invokevirtual 287, 3) := by decide +kernel
theorem dX7_looked_81 : decode cX7_looked 81 = .ok (.if_icmp .eq 5, 3) := by decide +kernel
theorem dX7_looked_84 : decode cX7_looked 84 = .ok (.iload_n 1, 1) := by decide +kernel
theorem dX7_looked_85 : decode cX7_looked 85 = .ok (.ireturn, 1) := by decide +kernel
theorem dX7_looked_86 : decode cX7_looked 86 = .ok (.iinc 1 1, 3) := by decide +kernel
theorem dX7_looked_89 : decode cX7_looked 89 = .ok (.goto (-87), 3) := by decide +kernel
theorem dX7_looked_92 : decode cX7_looked 92 = .ok (.bipush (-5), 2) := by decide +kernel
theorem dX7_looked_94 : decode cX7_looked 94 = .ok (.ireturn, 1) := by decide +kernel
theorem dX7_judge_0 : decode cX7_judge 0 = .ok (.iload_n 1, 1) := by decide +kernel
theorem dX7_judge_1 : decode cX7_judge 1 = .ok (.invokestatic 293, 3) := by decide +kernel
theorem dX7_judge_4 : decode cX7_judge 4 = .ok (.ifCond .ne 5, 3) := by decide +kernel
theorem dX7_judge_7 : decode cX7_judge 7 = .ok (.iconst (-1), 1) := by decide +kernel
theorem dX7_judge_8 : decode cX7_judge 8 = .ok (.ireturn, 1) := by decide +kernel
theorem dX7_judge_9 : decode cX7_judge 9 = .ok (.aload_n 0, 1) := by decide +kernel
theorem dX7_judge_10 : decode cX7_judge 10 = .ok (.getfield 56, 3) := by decide +kernel
theorem dX7_judge_13 : decode cX7_judge 13 = .ok (.iload_n 1, 1) := by decide +kernel
theorem dX7_judge_14 : decode cX7_judge 14 = .ok (.invokevirtual 296, 3) := by decide +kernel
theorem dX7_judge_17 : decode cX7_judge 17 = .ok (.istore_n 3, 1) := by decide +kernel
theorem dX7_judge_18 : decode cX7_judge 18 = .ok (.iload_n 3, 1) := by decide +kernel
theorem dX7_judge_19 : decode cX7_judge 19 = .ok (.bipush (-5), 2) := by decide +kernel
theorem dX7_judge_21 : decode cX7_judge 21 = .ok (.if_icmp .eq 11, 3) := by decide +kernel
theorem dX7_judge_24 : decode cX7_judge 24 = .ok (.iload_n 3, 1) := by decide +kernel
theorem dX7_judge_25 : decode cX7_judge 25 = .ok (.iconst 4, 1) := by decide +kernel
theorem dX7_judge_26 : decode cX7_judge 26 = .ok (.if_icmp .eq 6, 3) := by decide +kernel
theorem dX7_judge_29 : decode cX7_judge 29 = .ok (.bipush (-12), 2) := by decide +kernel
theorem dX7_judge_31 : decode cX7_judge 31 = .ok (.ireturn, 1) := by decide +kernel
theorem dX7_judge_32 : decode cX7_judge 32 = .ok (.iconst 0, 1) := by decide +kernel
theorem dX7_judge_33 : decode cX7_judge 33 = .ok (.istore 4, 2) := by decide +kernel
theorem dX7_judge_35 : decode cX7_judge 35 = .ok (.iload 4, 2) := by decide +kernel
theorem dX7_judge_37 : decode cX7_judge 37 = .ok (.aload_n 0, 1) := by decide +kernel
theorem dX7_judge_38 : decode cX7_judge 38 = .ok (.getfield 12, 3) := by decide +kernel
theorem dX7_judge_41 : decode cX7_judge 41 = .ok (.getfield 74, 3) := by decide +kernel
theorem dX7_judge_44 : decode cX7_judge 44 = .ok (.getfield 77, 3) := by decide +kernel
theorem dX7_judge_47 : decode cX7_judge 47 = .ok (.if_icmp .ge 68, 3) := by decide +kernel
theorem dX7_judge_50 : decode cX7_judge 50 = .ok (.aload_n 0, 1) := by decide +kernel
theorem dX7_judge_51 : decode cX7_judge 51 = .ok (.getfield 56, 3) := by decide +kernel
theorem dX7_judge_54 : decode cX7_judge 54 = .ok (.iload_n 1, 1) := by decide +kernel
theorem dX7_judge_55 : decode cX7_judge 55 = .ok (.iload_n 2, 1) := by decide +kernel
theorem dX7_judge_56 : decode cX7_judge 56 = .ok (.iload 4, 2) := by decide +kernel
theorem dX7_judge_58 : decode cX7_judge 58 = .ok (.iadd, 1) := by decide +kernel
theorem dX7_judge_59 : decode cX7_judge 59 = .ok (.invokevirtual 299, 3) := by decide +kernel
theorem dX7_judge_62 : decode cX7_judge 62 = .ok (.ifCond .ne 9, 3) := by decide +kernel
theorem dX7_judge_65 : decode cX7_judge 65 = .ok (.bipush 100, 2) := by decide +kernel
theorem dX7_judge_67 : decode cX7_judge 67 = .ok (.iload 4, 2) := by decide +kernel
theorem dX7_judge_69 : decode cX7_judge 69 = .ok (.iadd, 1) := by decide +kernel
theorem dX7_judge_70 : decode cX7_judge 70 = .ok (.ireturn, 1) := by decide +kernel
theorem dX7_judge_71 : decode cX7_judge 71 = .ok (.aload_n 0, 1) := by decide +kernel
theorem dX7_judge_72 : decode cX7_judge 72 = .ok (.getfield 56, 3) := by decide +kernel
theorem dX7_judge_75 : decode cX7_judge 75 = .ok (.iload_n 1, 1) := by decide +kernel
theorem dX7_judge_76 : decode cX7_judge 76 = .ok (.iload_n 2, 1) := by decide +kernel
theorem dX7_judge_77 : decode cX7_judge 77 = .ok (.iload 4, 2) := by decide +kernel
theorem dX7_judge_79 : decode cX7_judge 79 = .ok (.iadd, 1) := by decide +kernel
theorem dX7_judge_80 : decode cX7_judge 80 = .ok (.invokevirtual 302, 3) := by decide +kernel
theorem dX7_judge_83 : decode cX7_judge 83 = .ok (.aload_n 0, 1) := by decide +kernel
theorem dX7_judge_84 : decode cX7_judge 84 = .ok (.getfield 12, 3) := by decide +kernel
theorem dX7_judge_87 : decode cX7_judge 87 = .ok (.getfield 68, 3) := by decide +kernel
theorem dX7_judge_90 : decode cX7_judge 90 = .ok (.getfield 101, 3) := by decide +kernel
theorem dX7_judge_93 : decode cX7_judge 93 = .ok (.iload 4, 2) := by decide +kernel
theorem dX7_judge_95 : decode cX7_judge 95 = .ok (.invokestatic 104, 3) := by decide +kernel
theorem dX7_judge_98 : decode cX7_judge 98 = .ok (.invokestatic 108, 3) := by decide +kernel
theorem dX7_judge_101 : decode cX7_judge 101 = .ok (.i2l, 1) := by decide +kernel
theorem dX7_judge_102 : decode cX7_judge 102 = .ok (.lcmp, 1) := by decide +kernel
theorem dX7_judge_103 : decode cX7_judge 103 = .ok (.ifCond .eq 6, 3) := by decide +kernel
theorem dX7_judge_106 : decode cX7_judge 106 = .ok (.iload 4, 2) := by decide +kernel
theorem dX7_judge_108 : decode cX7_judge 108 = .ok (.ireturn, 1) := by decide +kernel
theorem dX7_judge_109 : decode cX7_judge 109 = .ok (.iinc 4 1, 3) := by decide +kernel
theorem dX7_judge_112 : decode cX7_judge 112 = .ok (.goto (-77), 3) := by decide +kernel
theorem dX7_judge_115 : decode cX7_judge 115 = .ok (.bipush (-5), 2) := by decide +kernel
theorem dX7_judge_117 : decode cX7_judge 117 = .ok (.ireturn, 1) := by decide +kernel
theorem dX7_image_0 : decode cX7_image 0 = .ok (.aload_n 0, 1) := by decide +kernel
theorem dX7_image_1 : decode cX7_image 1 = .ok (.getfield 18, 3) := by decide +kernel
theorem dX7_image_4 : decode cX7_image 4 = .ok (.aload_n 0, 1) := by decide +kernel
theorem dX7_image_5 : decode cX7_image 5 = .ok (.getfield 12, 3) := by decide +kernel
theorem dX7_image_8 : decode cX7_image 8 = .ok (.invokevirtual 306, 3) := by decide +kernel
theorem dX7_image_11 : decode cX7_image 11 = .ok (.aload_n 0, 1) := by decide +kernel
theorem dX7_image_12 : decode cX7_image 12 = .ok (.iconst 1, 1) := by decide +kernel
theorem dX7_image_13 : decode cX7_image 13 = .ok (.putfield 21, 3) := by decide +kernel
theorem dX7_image_16 : decode cX7_image 16 = .ok (.aload_n 0, 1) := by decide +kernel
theorem dX7_image_17 : decode cX7_image 17 = .ok (.getfield 12, 3) := by decide +kernel
theorem dX7_image_20 : decode cX7_image 20 = .ok (.getfield 74, 3) := by decide +kernel
theorem dX7_image_23 : decode cX7_image 23 = .ok (.getfield 181, 3) := by decide +kernel
theorem dX7_image_26 : decode cX7_image 26 = .ok (.invokestatic 201, 3) := by decide +kernel
theorem dX7_image_29 : decode cX7_image 29 = .ok (.ireturn, 1) := by decide +kernel
theorem dX7_undo_0 : decode cX7_undo 0 = .ok (.aload_n 0, 1) := by decide +kernel
theorem dX7_undo_1 : decode cX7_undo 1 = .ok (.getfield 21, 3) := by decide +kernel
theorem dX7_undo_4 : decode cX7_undo 4 = .ok (.ifCond .ne 6, 3) := by decide +kernel
theorem dX7_undo_7 : decode cX7_undo 7 = .ok (.bipush (-3), 2) := by decide +kernel
theorem dX7_undo_9 : decode cX7_undo 9 = .ok (.ireturn, 1) := by decide +kernel
theorem dX7_undo_10 : decode cX7_undo 10 = .ok (.aload_n 0, 1) := by decide +kernel
theorem dX7_undo_11 : decode cX7_undo 11 = .ok (.getfield 12, 3) := by decide +kernel
theorem dX7_undo_14 : decode cX7_undo 14 = .ok (.aload_n 0, 1) := by decide +kernel
theorem dX7_undo_15 : decode cX7_undo 15 = .ok (.getfield 18, 3) := by decide +kernel
theorem dX7_undo_18 : decode cX7_undo 18 = .ok (.invokevirtual 306, 3) := by decide +kernel
theorem dX7_undo_21 : decode cX7_undo 21 = .ok (.aload_n 0, 1) := by decide +kernel
theorem dX7_undo_22 : decode cX7_undo 22 = .ok (.getfield 12, 3) := by decide +kernel
theorem dX7_undo_25 : decode cX7_undo 25 = .ok (.getfield 74, 3) := by decide +kernel
theorem dX7_undo_28 : decode cX7_undo 28 = .ok (.getfield 181, 3) := by decide +kernel
theorem dX7_undo_31 : decode cX7_undo 31 = .ok (.invokestatic 201, 3) := by decide +kernel
theorem dX7_undo_34 : decode cX7_undo 34 = .ok (.ireturn, 1) := by decide +kernel
theorem dX7_taken_0 : decode cX7_taken 0 = .ok (.iload_n 2, 1) := by decide +kernel
theorem dX7_taken_1 : decode cX7_taken 1 = .ok (.ifCond .lt 9, 3) := by decide +kernel
theorem dX7_taken_4 : decode cX7_taken 4 = .ok (.iload_n 2, 1) := by decide +kernel
theorem dX7_taken_5 : decode cX7_taken 5 = .ok (.bipush 6, 2) := by decide +kernel
theorem dX7_taken_7 : decode cX7_taken 7 = .ok (.if_icmp .le 6, 3) := by decide +kernel
theorem dX7_taken_10 : decode cX7_taken 10 = .ok (.bipush (-2), 2) := by decide +kernel
theorem dX7_taken_12 : decode cX7_taken 12 = .ok (.ireturn, 1) := by decide +kernel
theorem dX7_taken_13 : decode cX7_taken 13 = .ok (.aload_n 0, 1) := by decide +kernel
theorem dX7_taken_14 : decode cX7_taken 14 = .ok (.getfield 12, 3) := by decide +kernel
theorem dX7_taken_17 : decode cX7_taken 17 = .ok (.getfield 74, 3) := by decide +kernel
theorem dX7_taken_20 : decode cX7_taken 20 = .ok (.iload_n 1, 1) := by decide +kernel
theorem dX7_taken_21 : decode cX7_taken 21 = .ok (.invokevirtual 88, 3) := by decide +kernel
theorem dX7_taken_24 : decode cX7_taken 24 = .ok (.ifCond .ne 6, 3) := by decide +kernel
theorem dX7_taken_27 : decode cX7_taken 27 = .ok (.bipush (-11), 2) := by decide +kernel
theorem dX7_taken_29 : decode cX7_taken 29 = .ok (.ireturn, 1) := by decide +kernel
theorem dX7_taken_30 : decode cX7_taken 30 = .ok (.aload_n 0, 1) := by decide +kernel
theorem dX7_taken_31 : decode cX7_taken 31 = .ok (.getfield 12, 3) := by decide +kernel
theorem dX7_taken_34 : decode cX7_taken 34 = .ok (.getfield 74, 3) := by decide +kernel
theorem dX7_taken_37 : decode cX7_taken 37 = .ok (.iload_n 1, 1) := by decide +kernel
theorem dX7_taken_38 : decode cX7_taken 38 = .ok (.invokevirtual 91, 3) := by decide +kernel
theorem dX7_taken_41 : decode cX7_taken 41 = .ok (.iload_n 2, 1) := by decide +kernel
theorem dX7_taken_42 : decode cX7_taken 42 = .ok (.invokestatic 309, 3) := by decide +kernel
theorem dX7_taken_45 : decode cX7_taken 45 = .ok (.ifCond .eq 17, 3) := by decide +kernel
theorem dX7_taken_48 : decode cX7_taken 48 = .ok (.aload_n 0, 1) := by decide +kernel
theorem dX7_taken_49 : decode cX7_taken 49 = .ok (.getfield 12, 3) := by decide +kernel
theorem dX7_taken_52 : decode cX7_taken 52 = .ok (.getfield 74, 3) := by decide +kernel
theorem dX7_taken_55 : decode cX7_taken 55 = .ok (.iload_n 1, 1) := by decide +kernel
theorem dX7_taken_56 : decode cX7_taken 56 = .ok (.invokevirtual 91, 3) := by decide +kernel
theorem dX7_taken_59 : decode cX7_taken 59 = .ok (.goto 5, 3) := by decide +kernel
theorem dX7_taken_62 : decode cX7_taken 62 = .ok (.bipush (-12), 2) := by decide +kernel
theorem dX7_taken_64 : decode cX7_taken 64 = .ok (.ireturn, 1) := by decide +kernel
theorem dX7_count_0 : decode cX7_count 0 = .ok (.iload_n 1, 1) := by decide +kernel
theorem dX7_count_1 : decode cX7_count 1 = .ok (.tableswitch 87 0 4 #[35, 46, 57, 68, 79], 35) := by decide +kernel
theorem dX7_count_36 : decode cX7_count 36 = .ok (.aload_n 0, 1) := by decide +kernel
theorem dX7_count_37 : decode cX7_count 37 = .ok (.getfield 12, 3) := by decide +kernel
theorem dX7_count_40 : decode cX7_count 40 = .ok (.getfield 74, 3) := by decide +kernel
theorem dX7_count_43 : decode cX7_count 43 = .ok (.getfield 77, 3) := by decide +kernel
theorem dX7_count_46 : decode cX7_count 46 = .ok (.ireturn, 1) := by decide +kernel
theorem dX7_count_47 : decode cX7_count 47 = .ok (.aload_n 0, 1) := by decide +kernel
theorem dX7_count_48 : decode cX7_count 48 = .ok (.getfield 12, 3) := by decide +kernel
theorem dX7_count_51 : decode cX7_count 51 = .ok (.getfield 243, 3) := by decide +kernel
theorem dX7_count_54 : decode cX7_count 54 = .ok (.getfield 252, 3) := by decide +kernel
theorem dX7_count_57 : decode cX7_count 57 = .ok (.ireturn, 1) := by decide +kernel
theorem dX7_count_58 : decode cX7_count 58 = .ok (.aload_n 0, 1) := by decide +kernel
theorem dX7_count_59 : decode cX7_count 59 = .ok (.getfield 12, 3) := by decide +kernel
theorem dX7_count_62 : decode cX7_count 62 = .ok (.getfield 281, 3) := by decide +kernel
theorem dX7_count_65 : decode cX7_count 65 = .ok (.getfield 252, 3) := by decide +kernel
theorem dX7_count_68 : decode cX7_count 68 = .ok (.ireturn, 1) := by decide +kernel
theorem dX7_count_69 : decode cX7_count 69 = .ok (.aload_n 0, 1) := by decide +kernel
theorem dX7_count_70 : decode cX7_count 70 = .ok (.getfield 12, 3) := by decide +kernel
theorem dX7_count_73 : decode cX7_count 73 = .ok (.getfield 290, 3) := by decide +kernel
theorem dX7_count_76 : decode cX7_count 76 = .ok (.getfield 252, 3) := by decide +kernel
theorem dX7_count_79 : decode cX7_count 79 = .ok (.ireturn, 1) := by decide +kernel
theorem dX7_count_80 : decode cX7_count 80 = .ok (.aload_n 0, 1) := by decide +kernel
theorem dX7_count_81 : decode cX7_count 81 = .ok (.getfield 49, 3) := by decide +kernel
theorem dX7_count_84 : decode cX7_count 84 = .ok (.getfield 174, 3) := by decide +kernel
theorem dX7_count_87 : decode cX7_count 87 = .ok (.ireturn, 1) := by decide +kernel
theorem dX7_count_88 : decode cX7_count 88 = .ok (.bipush (-2), 2) := by decide +kernel
theorem dX7_count_90 : decode cX7_count 90 = .ok (.ireturn, 1) := by decide +kernel
theorem dX7_tape_0 : decode cX7_tape 0 = .ok (.iload_n 1, 1) := by decide +kernel
theorem dX7_tape_1 : decode cX7_tape 1 = .ok (.invokestatic 293, 3) := by decide +kernel
theorem dX7_tape_4 : decode cX7_tape 4 = .ok (.ifCond .ne 5, 3) := by decide +kernel
theorem dX7_tape_7 : decode cX7_tape 7 = .ok (.iconst (-1), 1) := by decide +kernel
theorem dX7_tape_8 : decode cX7_tape 8 = .ok (.ireturn, 1) := by decide +kernel
theorem dX7_tape_9 : decode cX7_tape 9 = .ok (.iload_n 2, 1) := by decide +kernel
theorem dX7_tape_10 : decode cX7_tape 10 = .ok (.iconst (-1), 1) := by decide +kernel
theorem dX7_tape_11 : decode cX7_tape 11 = .ok (.if_icmp .ne 16, 3) := by decide +kernel
theorem dX7_tape_14 : decode cX7_tape 14 = .ok (.aload_n 0, 1) := by decide +kernel
theorem dX7_tape_15 : decode cX7_tape 15 = .ok (.getfield 56, 3) := by decide +kernel
theorem dX7_tape_18 : decode cX7_tape 18 = .ok (.iload_n 1, 1) := by decide +kernel
theorem dX7_tape_19 : decode cX7_tape 19 = .ok (.bipush (-5), 2) := by decide +kernel
theorem dX7_tape_21 : decode cX7_tape 21 = .ok (.iconst 0, 1) := by decide +kernel
theorem dX7_tape_22 : decode cX7_tape 22 = .ok (.invokevirtual 312, 3) := by decide +kernel
theorem dX7_tape_25 : decode cX7_tape 25 = .ok (.iconst 1, 1) := by decide +kernel
theorem dX7_tape_26 : decode cX7_tape 26 = .ok (.ireturn, 1) := by decide +kernel
theorem dX7_tape_27 : decode cX7_tape 27 = .ok (.iload_n 2, 1) := by decide +kernel
theorem dX7_tape_28 : decode cX7_tape 28 = .ok (.ifCond .lt 14, 3) := by decide +kernel
theorem dX7_tape_31 : decode cX7_tape 31 = .ok (.iload_n 2, 1) := by decide +kernel
theorem dX7_tape_32 : decode cX7_tape 32 = .ok (.iconst 4, 1) := by decide +kernel
theorem dX7_tape_33 : decode cX7_tape 33 = .ok (.if_icmp .gt 9, 3) := by decide +kernel
theorem dX7_tape_36 : decode cX7_tape 36 = .ok (.iload_n 3, 1) := by decide +kernel
theorem dX7_tape_37 : decode cX7_tape 37 = .ok (.bipush 60, 2) := by decide +kernel
theorem dX7_tape_39 : decode cX7_tape 39 = .ok (.if_icmp .le 6, 3) := by decide +kernel
theorem dX7_tape_42 : decode cX7_tape 42 = .ok (.bipush (-2), 2) := by decide +kernel
theorem dX7_tape_44 : decode cX7_tape 44 = .ok (.ireturn, 1) := by decide +kernel
theorem dX7_tape_45 : decode cX7_tape 45 = .ok (.iload_n 3, 1) := by decide +kernel
theorem dX7_tape_46 : decode cX7_tape 46 = .ok (.ifCond .ge 6, 3) := by decide +kernel
theorem dX7_tape_49 : decode cX7_tape 49 = .ok (.bipush (-14), 2) := by decide +kernel
theorem dX7_tape_51 : decode cX7_tape 51 = .ok (.ireturn, 1) := by decide +kernel
theorem dX7_tape_52 : decode cX7_tape 52 = .ok (.aload_n 0, 1) := by decide +kernel
theorem dX7_tape_53 : decode cX7_tape 53 = .ok (.getfield 56, 3) := by decide +kernel
theorem dX7_tape_56 : decode cX7_tape 56 = .ok (.iload_n 1, 1) := by decide +kernel
theorem dX7_tape_57 : decode cX7_tape 57 = .ok (.iload_n 2, 1) := by decide +kernel
theorem dX7_tape_58 : decode cX7_tape 58 = .ok (.iload_n 3, 1) := by decide +kernel
theorem dX7_tape_59 : decode cX7_tape 59 = .ok (.invokevirtual 312, 3) := by decide +kernel
theorem dX7_tape_62 : decode cX7_tape 62 = .ok (.iconst 1, 1) := by decide +kernel
theorem dX7_tape_63 : decode cX7_tape 63 = .ok (.ireturn, 1) := by decide +kernel
theorem dX7_item_0 : decode cX7_item 0 = .ok (.iload_n 1, 1) := by decide +kernel
theorem dX7_item_1 : decode cX7_item 1 = .ok (.invokestatic 293, 3) := by decide +kernel
theorem dX7_item_4 : decode cX7_item 4 = .ok (.ifCond .ne 5, 3) := by decide +kernel
theorem dX7_item_7 : decode cX7_item 7 = .ok (.iconst (-1), 1) := by decide +kernel
theorem dX7_item_8 : decode cX7_item 8 = .ok (.ireturn, 1) := by decide +kernel
theorem dX7_item_9 : decode cX7_item 9 = .ok (.aload_n 0, 1) := by decide +kernel
theorem dX7_item_10 : decode cX7_item 10 = .ok (.getfield 56, 3) := by decide +kernel
theorem dX7_item_13 : decode cX7_item 13 = .ok (.iload_n 1, 1) := by decide +kernel
theorem dX7_item_14 : decode cX7_item 14 = .ok (.invokevirtual 296, 3) := by decide +kernel
theorem dX7_item_17 : decode cX7_item 17 = .ok (.bipush (-5), 2) := by decide +kernel
theorem dX7_item_19 : decode cX7_item 19 = .ok (.if_icmp .ne 6, 3) := by decide +kernel
theorem dX7_item_22 : decode cX7_item 22 = .ok (.bipush (-11), 2) := by decide +kernel
theorem dX7_item_24 : decode cX7_item 24 = .ok (.ireturn, 1) := by decide +kernel
theorem dX7_item_25 : decode cX7_item 25 = .ok (.aload_n 0, 1) := by decide +kernel
theorem dX7_item_26 : decode cX7_item 26 = .ok (.getfield 56, 3) := by decide +kernel
theorem dX7_item_29 : decode cX7_item 29 = .ok (.iload_n 1, 1) := by decide +kernel
theorem dX7_item_30 : decode cX7_item 30 = .ok (.iload_n 2, 1) := by decide +kernel
theorem dX7_item_31 : decode cX7_item 31 = .ok (.invokevirtual 299, 3) := by decide +kernel
theorem dX7_item_34 : decode cX7_item 34 = .ok (.ifCond .ne 6, 3) := by decide +kernel
theorem dX7_item_37 : decode cX7_item 37 = .ok (.bipush (-13), 2) := by decide +kernel
theorem dX7_item_39 : decode cX7_item 39 = .ok (.ireturn, 1) := by decide +kernel
theorem dX7_item_40 : decode cX7_item 40 = .ok (.aload_n 0, 1) := by decide +kernel
theorem dX7_item_41 : decode cX7_item 41 = .ok (.getfield 56, 3) := by decide +kernel
theorem dX7_item_44 : decode cX7_item 44 = .ok (.iload_n 1, 1) := by decide +kernel
theorem dX7_item_45 : decode cX7_item 45 = .ok (.iload_n 2, 1) := by decide +kernel
theorem dX7_item_46 : decode cX7_item 46 = .ok (.lload_n 3, 1) := by decide +kernel
theorem dX7_item_47 : decode cX7_item 47 = .ok (.invokevirtual 315, 3) := by decide +kernel
theorem dX7_item_50 : decode cX7_item 50 = .ok (.iconst 1, 1) := by decide +kernel
theorem dX7_item_51 : decode cX7_item 51 = .ok (.ireturn, 1) := by decide +kernel
theorem dX7_read_0 : decode cX7_read 0 = .ok (.aload_n 0, 1) := by decide +kernel
theorem dX7_read_1 : decode cX7_read 1 = .ok (.getfield 56, 3) := by decide +kernel
theorem dX7_read_4 : decode cX7_read 4 = .ok (.iload_n 1, 1) := by decide +kernel
theorem dX7_read_5 : decode cX7_read 5 = .ok (.iload_n 2, 1) := by decide +kernel
theorem dX7_read_6 : decode cX7_read 6 = .ok (.invokevirtual 299, 3) := by decide +kernel
theorem dX7_read_9 : decode cX7_read 9 = .ok (.ifCond .eq 15, 3) := by decide +kernel
theorem dX7_read_12 : decode cX7_read 12 = .ok (.aload_n 0, 1) := by decide +kernel
theorem dX7_read_13 : decode cX7_read 13 = .ok (.getfield 56, 3) := by decide +kernel
theorem dX7_read_16 : decode cX7_read 16 = .ok (.iload_n 1, 1) := by decide +kernel
theorem dX7_read_17 : decode cX7_read 17 = .ok (.iload_n 2, 1) := by decide +kernel
theorem dX7_read_18 : decode cX7_read 18 = .ok (.invokevirtual 302, 3) := by decide +kernel
theorem dX7_read_21 : decode cX7_read 21 = .ok (.goto 6, 3) := by decide +kernel
theorem dX7_read_24 : decode cX7_read 24 = .ok (.ldc2_w 260, 3) := by decide +kernel
theorem dX7_read_27 : decode cX7_read 27 = .ok (.lreturn, 1) := by decide +kernel
theorem dX7_shift_0 : decode cX7_shift 0 = .ok (.iload_n 1, 1) := by decide +kernel
theorem dX7_shift_1 : decode cX7_shift 1 = .ok (.invokestatic 293, 3) := by decide +kernel
theorem dX7_shift_4 : decode cX7_shift 4 = .ok (.ifCond .eq 10, 3) := by decide +kernel
theorem dX7_shift_7 : decode cX7_shift 7 = .ok (.iload_n 3, 1) := by decide +kernel
theorem dX7_shift_8 : decode cX7_shift 8 = .ok (.invokestatic 293, 3) := by decide +kernel
theorem dX7_shift_11 : decode cX7_shift 11 = .ok (.ifCond .ne 5, 3) := by decide +kernel
theorem dX7_shift_14 : decode cX7_shift 14 = .ok (.iconst (-1), 1) := by decide +kernel
theorem dX7_shift_15 : decode cX7_shift 15 = .ok (.ireturn, 1) := by decide +kernel
theorem dX7_shift_16 : decode cX7_shift 16 = .ok (.aload_n 0, 1) := by decide +kernel
theorem dX7_shift_17 : decode cX7_shift 17 = .ok (.getfield 56, 3) := by decide +kernel
theorem dX7_shift_20 : decode cX7_shift 20 = .ok (.iload_n 1, 1) := by decide +kernel
theorem dX7_shift_21 : decode cX7_shift 21 = .ok (.invokevirtual 296, 3) := by decide +kernel
theorem dX7_shift_24 : decode cX7_shift 24 = .ok (.bipush (-5), 2) := by decide +kernel
theorem dX7_shift_26 : decode cX7_shift 26 = .ok (.if_icmp .eq 16, 3) := by decide +kernel
theorem dX7_shift_29 : decode cX7_shift 29 = .ok (.aload_n 0, 1) := by decide +kernel
theorem dX7_shift_30 : decode cX7_shift 30 = .ok (.getfield 56, 3) := by decide +kernel
theorem dX7_shift_33 : decode cX7_shift 33 = .ok (.iload_n 3, 1) := by decide +kernel
theorem dX7_shift_34 : decode cX7_shift 34 = .ok (.invokevirtual 296, 3) := by decide +kernel
theorem dX7_shift_37 : decode cX7_shift 37 = .ok (.bipush (-5), 2) := by decide +kernel
theorem dX7_shift_39 : decode cX7_shift 39 = .ok (.if_icmp .ne 6, 3) := by decide +kernel
theorem dX7_shift_42 : decode cX7_shift 42 = .ok (.bipush (-11), 2) := by decide +kernel
theorem dX7_shift_44 : decode cX7_shift 44 = .ok (.ireturn, 1) := by decide +kernel
theorem dX7_shift_45 : decode cX7_shift 45 = .ok (.aload_n 0, 1) := by decide +kernel
theorem dX7_shift_46 : decode cX7_shift 46 = .ok (.getfield 56, 3) := by decide +kernel
theorem dX7_shift_49 : decode cX7_shift 49 = .ok (.iload_n 1, 1) := by decide +kernel
theorem dX7_shift_50 : decode cX7_shift 50 = .ok (.invokevirtual 296, 3) := by decide +kernel
theorem dX7_shift_53 : decode cX7_shift 53 = .ok (.aload_n 0, 1) := by decide +kernel
theorem dX7_shift_54 : decode cX7_shift 54 = .ok (.getfield 56, 3) := by decide +kernel
theorem dX7_shift_57 : decode cX7_shift 57 = .ok (.iload_n 3, 1) := by decide +kernel
theorem dX7_shift_58 : decode cX7_shift 58 = .ok (.invokevirtual 296, 3) := by decide +kernel
theorem dX7_shift_61 : decode cX7_shift 61 = .ok (.if_icmp .eq 6, 3) := by decide +kernel
theorem dX7_shift_64 : decode cX7_shift 64 = .ok (.bipush (-12), 2) := by decide +kernel
theorem dX7_shift_66 : decode cX7_shift 66 = .ok (.ireturn, 1) := by decide +kernel
theorem dX7_shift_67 : decode cX7_shift 67 = .ok (.aload_n 0, 1) := by decide +kernel
theorem dX7_shift_68 : decode cX7_shift 68 = .ok (.getfield 56, 3) := by decide +kernel
theorem dX7_shift_71 : decode cX7_shift 71 = .ok (.iload_n 1, 1) := by decide +kernel
theorem dX7_shift_72 : decode cX7_shift 72 = .ok (.iload_n 2, 1) := by decide +kernel
theorem dX7_shift_73 : decode cX7_shift 73 = .ok (.iload 5, 2) := by decide +kernel
theorem dX7_shift_75 : decode cX7_shift 75 = .ok (.invokevirtual 319, 3) := by decide +kernel
theorem dX7_shift_78 : decode cX7_shift 78 = .ok (.ifCond .eq 18, 3) := by decide +kernel
theorem dX7_shift_81 : decode cX7_shift 81 = .ok (.aload_n 0, 1) := by decide +kernel
theorem dX7_shift_82 : decode cX7_shift 82 = .ok (.getfield 56, 3) := by decide +kernel
theorem dX7_shift_85 : decode cX7_shift 85 = .ok (.iload_n 3, 1) := by decide +kernel
theorem dX7_shift_86 : decode cX7_shift 86 = .ok (.iload 4, 2) := by decide +kernel
theorem dX7_shift_88 : decode cX7_shift 88 = .ok (.iload 5, 2) := by decide +kernel
theorem dX7_shift_90 : decode cX7_shift 90 = .ok (.invokevirtual 319, 3) := by decide +kernel
theorem dX7_shift_93 : decode cX7_shift 93 = .ok (.ifCond .ne 6, 3) := by decide +kernel
theorem dX7_shift_96 : decode cX7_shift 96 = .ok (.bipush (-13), 2) := by decide +kernel
theorem dX7_shift_98 : decode cX7_shift 98 = .ok (.ireturn, 1) := by decide +kernel
theorem dX7_shift_99 : decode cX7_shift 99 = .ok (.aload_n 0, 1) := by decide +kernel
theorem dX7_shift_100 : decode cX7_shift 100 = .ok (.getfield 56, 3) := by decide +kernel
theorem dX7_shift_103 : decode cX7_shift 103 = .ok (.iload_n 1, 1) := by decide +kernel
theorem dX7_shift_104 : decode cX7_shift 104 = .ok (.iload_n 2, 1) := by decide +kernel
theorem dX7_shift_105 : decode cX7_shift 105 = .ok (.iload_n 3, 1) := by decide +kernel
theorem dX7_shift_106 : decode cX7_shift 106 = .ok (.iload 4, 2) := by decide +kernel
theorem dX7_shift_108 : decode cX7_shift 108 = .ok (.iload 5, 2) := by decide +kernel
theorem dX7_shift_110 : decode cX7_shift 110 = .ok (.invokevirtual 323, 3) := by decide +kernel
theorem dX7_shift_113 : decode cX7_shift 113 = .ok (.iload 5, 2) := by decide +kernel
theorem dX7_shift_115 : decode cX7_shift 115 = .ok (.ireturn, 1) := by decide +kernel
theorem dX7_wayTo_0 : decode cX7_wayTo 0 = .ok (.aload_n 0, 1) := by decide +kernel
theorem dX7_wayTo_1 : decode cX7_wayTo 1 = .ok (.getfield 42, 3) := by decide +kernel
theorem dX7_wayTo_4 : decode cX7_wayTo 4 = .ok (.aload_n 0, 1) := by decide +kernel
theorem dX7_wayTo_5 : decode cX7_wayTo 5 = .ok (.getfield 12, 3) := by decide +kernel
theorem dX7_wayTo_8 : decode cX7_wayTo 8 = .ok (.getfield 74, 3) := by decide +kernel
theorem dX7_wayTo_11 : decode cX7_wayTo 11 = .ok (.invokevirtual 219, 3) := by decide +kernel
theorem dX7_wayTo_14 : decode cX7_wayTo 14 = .ok (.iload_n 2, 1) := by decide +kernel
theorem dX7_wayTo_15 : decode cX7_wayTo 15 = .ok (.tableswitch 76 8 11 #[29, 38, 51, 60], 29) := by decide +kernel
theorem dX7_wayTo_44 : decode cX7_wayTo 44 = .ok (.aload_n 0, 1) := by decide +kernel
theorem dX7_wayTo_45 : decode cX7_wayTo 45 = .ok (.getfield 42, 3) := by decide +kernel
theorem dX7_wayTo_48 : decode cX7_wayTo 48 = .ok (.iload_n 1, 1) := by decide +kernel
theorem dX7_wayTo_49 : decode cX7_wayTo 49 = .ok (.invokevirtual 273, 3) := by decide +kernel
theorem dX7_wayTo_52 : decode cX7_wayTo 52 = .ok (.ireturn, 1) := by decide +kernel
theorem dX7_wayTo_53 : decode cX7_wayTo 53 = .ok (.aload_n 0, 1) := by decide +kernel
theorem dX7_wayTo_54 : decode cX7_wayTo 54 = .ok (.getfield 42, 3) := by decide +kernel
theorem dX7_wayTo_57 : decode cX7_wayTo 57 = .ok (.iload_n 1, 1) := by decide +kernel
theorem dX7_wayTo_58 : decode cX7_wayTo 58 = .ok (.invokestatic 168, 3) := by decide +kernel
theorem dX7_wayTo_61 : decode cX7_wayTo 61 = .ok (.iconst 0, 1) := by decide +kernel
theorem dX7_wayTo_62 : decode cX7_wayTo 62 = .ok (.invokevirtual 327, 3) := by decide +kernel
theorem dX7_wayTo_65 : decode cX7_wayTo 65 = .ok (.ireturn, 1) := by decide +kernel
theorem dX7_wayTo_66 : decode cX7_wayTo 66 = .ok (.aload_n 0, 1) := by decide +kernel
theorem dX7_wayTo_67 : decode cX7_wayTo 67 = .ok (.getfield 42, 3) := by decide +kernel
theorem dX7_wayTo_70 : decode cX7_wayTo 70 = .ok (.iload_n 1, 1) := by decide +kernel
theorem dX7_wayTo_71 : decode cX7_wayTo 71 = .ok (.invokevirtual 330, 3) := by decide +kernel
theorem dX7_wayTo_74 : decode cX7_wayTo 74 = .ok (.ireturn, 1) := by decide +kernel
theorem dX7_wayTo_75 : decode cX7_wayTo 75 = .ok (.aload_n 0, 1) := by decide +kernel
theorem dX7_wayTo_76 : decode cX7_wayTo 76 = .ok (.getfield 42, 3) := by decide +kernel
theorem dX7_wayTo_79 : decode cX7_wayTo 79 = .ok (.aload_n 0, 1) := by decide +kernel
theorem dX7_wayTo_80 : decode cX7_wayTo 80 = .ok (.getfield 12, 3) := by decide +kernel
theorem dX7_wayTo_83 : decode cX7_wayTo 83 = .ok (.getfield 74, 3) := by decide +kernel
theorem dX7_wayTo_86 : decode cX7_wayTo 86 = .ok (.iload_n 1, 1) := by decide +kernel
theorem dX7_wayTo_87 : decode cX7_wayTo 87 = .ok (.invokevirtual 333, 3) := by decide +kernel
theorem dX7_wayTo_90 : decode cX7_wayTo 90 = .ok (.ireturn, 1) := by decide +kernel
theorem dX7_wayTo_91 : decode cX7_wayTo 91 = .ok (.iconst (-1), 1) := by decide +kernel
theorem dX7_wayTo_92 : decode cX7_wayTo 92 = .ok (.ireturn, 1) := by decide +kernel
theorem dX7_ofMarking_0 : decode cX7_ofMarking 0 = .ok (.aload_n 0, 1) := by decide +kernel
theorem dX7_ofMarking_1 : decode cX7_ofMarking 1 = .ok (.getfield 12, 3) := by decide +kernel
theorem dX7_ofMarking_4 : decode cX7_ofMarking 4 = .ok (.getfield 68, 3) := by decide +kernel
theorem dX7_ofMarking_7 : decode cX7_ofMarking 7 = .ok (.astore_n 2, 1) := by decide +kernel
theorem dX7_ofMarking_8 : decode cX7_ofMarking 8 = .ok (.iload_n 1, 1) := by decide +kernel
theorem dX7_ofMarking_9 : decode cX7_ofMarking 9 = .ok (.tableswitch 145 0 14 #[75, 83, 88, 93, 93, 93, 93, 93, 145, 145, 145, 101, 127, 145, 137], 75) := by decide +kernel
theorem dX7_ofMarking_84 : decode cX7_ofMarking 84 = .ok (.aload_n 2, 1) := by decide +kernel
theorem dX7_ofMarking_85 : decode cX7_ofMarking 85 = .ok (.getfield 71, 3) := by decide +kernel
theorem dX7_ofMarking_88 : decode cX7_ofMarking 88 = .ok (.invokestatic 108, 3) := by decide +kernel
theorem dX7_ofMarking_91 : decode cX7_ofMarking 91 = .ok (.ireturn, 1) := by decide +kernel
theorem dX7_ofMarking_92 : decode cX7_ofMarking 92 = .ok (.aload_n 2, 1) := by decide +kernel
theorem dX7_ofMarking_93 : decode cX7_ofMarking 93 = .ok (.getfield 231, 3) := by decide +kernel
theorem dX7_ofMarking_96 : decode cX7_ofMarking 96 = .ok (.ireturn, 1) := by decide +kernel
theorem dX7_ofMarking_97 : decode cX7_ofMarking 97 = .ok (.aload_n 2, 1) := by decide +kernel
theorem dX7_ofMarking_98 : decode cX7_ofMarking 98 = .ok (.invokevirtual 234, 3) := by decide +kernel
theorem dX7_ofMarking_101 : decode cX7_ofMarking 101 = .ok (.ireturn, 1) := by decide +kernel
theorem dX7_ofMarking_102 : decode cX7_ofMarking 102 = .ok (.aload_n 2, 1) := by decide +kernel
theorem dX7_ofMarking_103 : decode cX7_ofMarking 103 = .ok (.iload_n 1, 1) := by decide +kernel
theorem dX7_ofMarking_104 : decode cX7_ofMarking 104 = .ok (.iconst 3, 1) := by decide +kernel
theorem dX7_ofMarking_105 : decode cX7_ofMarking 105 = .ok (.isub, 1) := by decide +kernel
theorem dX7_ofMarking_106 : decode cX7_ofMarking 106 = .ok (.invokevirtual 240, 3) := by decide +kernel
theorem dX7_ofMarking_109 : decode cX7_ofMarking 109 = .ok (.ireturn, 1) := by decide +kernel
theorem dX7_ofMarking_110 : decode cX7_ofMarking 110 = .ok (.aload_n 0, 1) := by decide +kernel
theorem dX7_ofMarking_111 : decode cX7_ofMarking 111 = .ok (.getfield 35, 3) := by decide +kernel
theorem dX7_ofMarking_114 : decode cX7_ofMarking 114 = .ok (.aload_n 2, 1) := by decide +kernel
theorem dX7_ofMarking_115 : decode cX7_ofMarking 115 = .ok (.invokevirtual 228, 3) := by decide +kernel
theorem dX7_ofMarking_118 : decode cX7_ofMarking 118 = .ok (.aload_n 0, 1) := by decide +kernel
theorem dX7_ofMarking_119 : decode cX7_ofMarking 119 = .ok (.getfield 35, 3) := by decide +kernel
theorem dX7_ofMarking_122 : decode cX7_ofMarking 122 = .ok (.aload_n 0, 1) := by decide +kernel
theorem dX7_ofMarking_123 : decode cX7_ofMarking 123 = .ok (.getfield 12, 3) := by decide +kernel
theorem dX7_ofMarking_126 : decode cX7_ofMarking 126 = .ok (.getfield 74, 3) := by decide +kernel
theorem dX7_ofMarking_129 : decode cX7_ofMarking 129 = .ok (.sipush 1000, 3) := by decide +kernel
theorem dX7_ofMarking_132 : decode cX7_ofMarking 132 = .ok (.invokevirtual 206, 3) := by decide +kernel
theorem dX7_ofMarking_135 : decode cX7_ofMarking 135 = .ok (.ireturn, 1) := by decide +kernel
theorem dX7_ofMarking_136 : decode cX7_ofMarking 136 = .ok (.aload_n 2, 1) := by decide +kernel
theorem dX7_ofMarking_137 : decode cX7_ofMarking 137 = .ok (.getfield 336, 3) := by decide +kernel
theorem dX7_ofMarking_140 : decode cX7_ofMarking 140 = .ok (.aload_n 2, 1) := by decide +kernel
theorem dX7_ofMarking_141 : decode cX7_ofMarking 141 = .ok (.invokevirtual 209, 3) := by decide +kernel
theorem dX7_ofMarking_144 : decode cX7_ofMarking 144 = .ok (.isub, 1) := by decide +kernel
theorem dX7_ofMarking_145 : decode cX7_ofMarking 145 = .ok (.ireturn, 1) := by decide +kernel
theorem dX7_ofMarking_146 : decode cX7_ofMarking 146 = .ok (.aload_n 2, 1) := by decide +kernel
theorem dX7_ofMarking_147 : decode cX7_ofMarking 147 = .ok (.getfield 81, 3) := by decide +kernel
theorem dX7_ofMarking_150 : decode cX7_ofMarking 150 = .ok (.invokestatic 108, 3) := by decide +kernel
theorem dX7_ofMarking_153 : decode cX7_ofMarking 153 = .ok (.ireturn, 1) := by decide +kernel
theorem dX7_ofMarking_154 : decode cX7_ofMarking 154 = .ok (.iconst (-1), 1) := by decide +kernel
theorem dX7_ofMarking_155 : decode cX7_ofMarking 155 = .ok (.ireturn, 1) := by decide +kernel
theorem dX7_isAsSeen_0 : decode cX7_isAsSeen 0 = .ok (.aload_n 0, 1) := by decide +kernel
theorem dX7_isAsSeen_1 : decode cX7_isAsSeen 1 = .ok (.getfield 35, 3) := by decide +kernel
theorem dX7_isAsSeen_4 : decode cX7_isAsSeen 4 = .ok (.iload_n 2, 1) := by decide +kernel
theorem dX7_isAsSeen_5 : decode cX7_isAsSeen 5 = .ok (.invokevirtual 197, 3) := by decide +kernel
theorem dX7_isAsSeen_8 : decode cX7_isAsSeen 8 = .ok (.iconst 0, 1) := by decide +kernel
theorem dX7_isAsSeen_9 : decode cX7_isAsSeen 9 = .ok (.istore_n 3, 1) := by decide +kernel
theorem dX7_isAsSeen_10 : decode cX7_isAsSeen 10 = .ok (.iload_n 3, 1) := by decide +kernel
theorem dX7_isAsSeen_11 : decode cX7_isAsSeen 11 = .ok (.bipush 40, 2) := by decide +kernel
theorem dX7_isAsSeen_13 : decode cX7_isAsSeen 13 = .ok (.if_icmp .gt 36, 3) := by decide +kernel
theorem dX7_isAsSeen_16 : decode cX7_isAsSeen 16 = .ok (.aload_n 0, 1) := by decide +kernel
theorem dX7_isAsSeen_17 : decode cX7_isAsSeen 17 = .ok (.iload_n 3, 1) := by decide +kernel
theorem dX7_isAsSeen_18 : decode cX7_isAsSeen 18 = .ok (.aload_n 0, 1) := by decide +kernel
theorem dX7_isAsSeen_19 : decode cX7_isAsSeen 19 = .ok (.getfield 35, 3) := by decide +kernel
theorem dX7_isAsSeen_22 : decode cX7_isAsSeen 22 = .ok (.getfield 101, 3) := by decide +kernel
theorem dX7_isAsSeen_25 : decode cX7_isAsSeen 25 = .ok (.invokevirtual 339, 3) := by decide +kernel
theorem dX7_isAsSeen_28 : decode cX7_isAsSeen 28 = .ok (.ifCond .ne 5, 3) := by decide +kernel
theorem dX7_isAsSeen_31 : decode cX7_isAsSeen 31 = .ok (.iconst 0, 1) := by decide +kernel
theorem dX7_isAsSeen_32 : decode cX7_isAsSeen 32 = .ok (.ireturn, 1) := by decide +kernel
theorem dX7_isAsSeen_33 : decode cX7_isAsSeen 33 = .ok (.aload_n 0, 1) := by decide +kernel
theorem dX7_isAsSeen_34 : decode cX7_isAsSeen 34 = .ok (.getfield 35, 3) := by decide +kernel
theorem dX7_isAsSeen_37 : decode cX7_isAsSeen 37 = .ok (.aload_n 1, 1) := by decide +kernel
theorem dX7_isAsSeen_38 : decode cX7_isAsSeen 38 = .ok (.iconst 1, 1) := by decide +kernel
theorem dX7_isAsSeen_39 : decode cX7_isAsSeen 39 = .ok (.invokevirtual 206, 3) := by decide +kernel
theorem dX7_isAsSeen_42 : decode cX7_isAsSeen 42 = .ok (.pop, 1) := by decide +kernel
theorem dX7_isAsSeen_43 : decode cX7_isAsSeen 43 = .ok (.iinc 3 1, 3) := by decide +kernel
theorem dX7_isAsSeen_46 : decode cX7_isAsSeen 46 = .ok (.goto (-36), 3) := by decide +kernel
theorem dX7_isAsSeen_49 : decode cX7_isAsSeen 49 = .ok (.iconst 1, 1) := by decide +kernel
theorem dX7_isAsSeen_50 : decode cX7_isAsSeen 50 = .ok (.ireturn, 1) := by decide +kernel
theorem dX7_isAsSeenBehind_0 : decode cX7_isAsSeenBehind 0 = .ok (.iconst 0, 1) := by decide +kernel
theorem dX7_isAsSeenBehind_1 : decode cX7_isAsSeenBehind 1 = .ok (.istore_n 3, 1) := by decide +kernel
theorem dX7_isAsSeenBehind_2 : decode cX7_isAsSeenBehind 2 = .ok (.iload_n 3, 1) := by decide +kernel
theorem dX7_isAsSeenBehind_3 : decode cX7_isAsSeenBehind 3 = .ok (.aload_n 0, 1) := by decide +kernel
theorem dX7_isAsSeenBehind_4 : decode cX7_isAsSeenBehind 4 = .ok (.getfield 12, 3) := by decide +kernel
theorem dX7_isAsSeenBehind_7 : decode cX7_isAsSeenBehind 7 = .ok (.getfield 243, 3) := by decide +kernel
theorem dX7_isAsSeenBehind_10 : decode cX7_isAsSeenBehind 10 = .ok (.getfield 252, 3) := by decide +kernel
theorem dX7_isAsSeenBehind_13 : decode cX7_isAsSeenBehind 13 = .ok (.if_icmp .ge 65, 3) := by decide +kernel
theorem dX7_isAsSeenBehind_16 : decode cX7_isAsSeenBehind 16 = .ok (.iload_n 2, 1) := by decide +kernel
theorem dX7_isAsSeenBehind_17 : decode cX7_isAsSeenBehind 17 = .ok (.aload_n 0, 1) := by decide +kernel
theorem dX7_isAsSeenBehind_18 : decode cX7_isAsSeenBehind 18 = .ok (.getfield 12, 3) := by decide +kernel
theorem dX7_isAsSeenBehind_21 : decode cX7_isAsSeenBehind 21 = .ok (.getfield 243, 3) := by decide +kernel
theorem dX7_isAsSeenBehind_24 : decode cX7_isAsSeenBehind 24 = .ok (.iload_n 3, 1) := by decide +kernel
theorem dX7_isAsSeenBehind_25 : decode cX7_isAsSeenBehind 25 = .ok (.iconst 0, 1) := by decide +kernel
theorem dX7_isAsSeenBehind_26 : decode cX7_isAsSeenBehind 26 = .ok (.invokevirtual 287, 3) := by decide +kernel
theorem dX7_isAsSeenBehind_29 : decode cX7_isAsSeenBehind 29 = .ok (.invokestatic 104, 3) := by decide +kernel
theorem dX7_isAsSeenBehind_32 : decode cX7_isAsSeenBehind 32 = .ok (.istore 4, 2) := by decide +kernel
theorem dX7_isAsSeenBehind_34 : decode cX7_isAsSeenBehind 34 = .ok (.aload_n 0, 1) := by decide +kernel
theorem dX7_isAsSeenBehind_35 : decode cX7_isAsSeenBehind 35 = .ok (.getfield 12, 3) := by decide +kernel
theorem dX7_isAsSeenBehind_38 : decode cX7_isAsSeenBehind 38 = .ok (.getfield 243, 3) := by decide +kernel
theorem dX7_isAsSeenBehind_41 : decode cX7_isAsSeenBehind 41 = .ok (.iload_n 3, 1) := by decide +kernel
theorem dX7_isAsSeenBehind_42 : decode cX7_isAsSeenBehind 42 = .ok (.iconst 1, 1) := by decide +kernel
theorem dX7_isAsSeenBehind_43 : decode cX7_isAsSeenBehind 43 = .ok (.invokevirtual 287, 3) := by decide +kernel
theorem dX7_isAsSeenBehind_46 : decode cX7_isAsSeenBehind 46 = .ok (.iload_n 1, 1) := by decide +kernel
theorem dX7_isAsSeenBehind_47 : decode cX7_isAsSeenBehind 47 = .ok (.if_icmp .ne 25, 3) := by decide +kernel
theorem dX7_isAsSeenBehind_50 : decode cX7_isAsSeenBehind 50 = .ok (.aload_n 0, 1) := by decide +kernel
theorem dX7_isAsSeenBehind_51 : decode cX7_isAsSeenBehind 51 = .ok (.getfield 12, 3) := by decide +kernel
theorem dX7_isAsSeenBehind_54 : decode cX7_isAsSeenBehind 54 = .ok (.getfield 243, 3) := by decide +kernel
theorem dX7_isAsSeenBehind_57 : decode cX7_isAsSeenBehind 57 = .ok (.iload_n 3, 1) := by decide +kernel
theorem dX7_isAsSeenBehind_58 : decode cX7_isAsSeenBehind 58 = .ok (.iconst 2, 1) := by decide +kernel
theorem dX7_isAsSeenBehind_59 : decode cX7_isAsSeenBehind 59 = .ok (.invokevirtual 287, 3) := by decide +kernel
theorem dX7_isAsSeenBehind_62 : decode cX7_isAsSeenBehind 62 = .ok (.iload 4, 2) := by decide +kernel
theorem dX7_isAsSeenBehind_64 : decode cX7_isAsSeenBehind 64 = .ok (.invokestatic 108, 3) := by decide +kernel
theorem dX7_isAsSeenBehind_67 : decode cX7_isAsSeenBehind 67 = .ok (.if_icmp .eq 5, 3) := by decide +kernel
theorem dX7_isAsSeenBehind_70 : decode cX7_isAsSeenBehind 70 = .ok (.iconst 0, 1) := by decide +kernel
theorem dX7_isAsSeenBehind_71 : decode cX7_isAsSeenBehind 71 = .ok (.ireturn, 1) := by decide +kernel
theorem dX7_isAsSeenBehind_72 : decode cX7_isAsSeenBehind 72 = .ok (.iinc 3 1, 3) := by decide +kernel
theorem dX7_isAsSeenBehind_75 : decode cX7_isAsSeenBehind 75 = .ok (.goto (-73), 3) := by decide +kernel
theorem dX7_isAsSeenBehind_78 : decode cX7_isAsSeenBehind 78 = .ok (.iconst 1, 1) := by decide +kernel
theorem dX7_isAsSeenBehind_79 : decode cX7_isAsSeenBehind 79 = .ok (.ireturn, 1) := by decide +kernel
theorem dX7_isPlannable_0 : decode cX7_isPlannable 0 = .ok (.iload_n 1, 1) := by decide +kernel
theorem dX7_isPlannable_1 : decode cX7_isPlannable 1 = .ok (.tableswitch 75 0 2 #[27, 58, 63], 27) := by decide +kernel
theorem dX7_isPlannable_28 : decode cX7_isPlannable 28 = .ok (.iload_n 2, 1) := by decide +kernel
theorem dX7_isPlannable_29 : decode cX7_isPlannable 29 = .ok (.ifCond .lt 28, 3) := by decide +kernel
theorem dX7_isPlannable_32 : decode cX7_isPlannable 32 = .ok (.aload_n 0, 1) := by decide +kernel
theorem dX7_isPlannable_33 : decode cX7_isPlannable 33 = .ok (.getfield 12, 3) := by decide +kernel
theorem dX7_isPlannable_36 : decode cX7_isPlannable 36 = .ok (.getfield 74, 3) := by decide +kernel
theorem dX7_isPlannable_39 : decode cX7_isPlannable 39 = .ok (.iload_n 2, 1) := by decide +kernel
theorem dX7_isPlannable_40 : decode cX7_isPlannable 40 = .ok (.bipush 10, 2) := by decide +kernel
theorem dX7_isPlannable_42 : decode cX7_isPlannable 42 = .ok (.idiv, 1) := by decide +kernel
theorem dX7_isPlannable_43 : decode cX7_isPlannable 43 = .ok (.iload_n 2, 1) := by decide +kernel
theorem dX7_isPlannable_44 : decode cX7_isPlannable 44 = .ok (.bipush 10, 2) := by decide +kernel
theorem dX7_isPlannable_46 : decode cX7_isPlannable 46 = .ok (.irem, 1) := by decide +kernel
theorem dX7_isPlannable_47 : decode cX7_isPlannable 47 = .ok (.invokevirtual 130, 3) := by decide +kernel
theorem dX7_isPlannable_50 : decode cX7_isPlannable 50 = .ok (.ifCond .eq 7, 3) := by decide +kernel
theorem dX7_isPlannable_53 : decode cX7_isPlannable 53 = .ok (.iconst 1, 1) := by decide +kernel
theorem dX7_isPlannable_54 : decode cX7_isPlannable 54 = .ok (.goto 4, 3) := by decide +kernel
theorem dX7_isPlannable_57 : decode cX7_isPlannable 57 = .ok (.iconst 0, 1) := by decide +kernel
theorem dX7_isPlannable_58 : decode cX7_isPlannable 58 = .ok (.ireturn, 1) := by decide +kernel
theorem dX7_isPlannable_59 : decode cX7_isPlannable 59 = .ok (.iload_n 2, 1) := by decide +kernel
theorem dX7_isPlannable_60 : decode cX7_isPlannable 60 = .ok (.invokestatic 156, 3) := by decide +kernel
theorem dX7_isPlannable_63 : decode cX7_isPlannable 63 = .ok (.ireturn, 1) := by decide +kernel
theorem dX7_isPlannable_64 : decode cX7_isPlannable 64 = .ok (.aload_n 0, 1) := by decide +kernel
theorem dX7_isPlannable_65 : decode cX7_isPlannable 65 = .ok (.getfield 12, 3) := by decide +kernel
theorem dX7_isPlannable_68 : decode cX7_isPlannable 68 = .ok (.getfield 74, 3) := by decide +kernel
theorem dX7_isPlannable_71 : decode cX7_isPlannable 71 = .ok (.iload_n 2, 1) := by decide +kernel
theorem dX7_isPlannable_72 : decode cX7_isPlannable 72 = .ok (.invokevirtual 88, 3) := by decide +kernel
theorem dX7_isPlannable_75 : decode cX7_isPlannable 75 = .ok (.ireturn, 1) := by decide +kernel
theorem dX7_isPlannable_76 : decode cX7_isPlannable 76 = .ok (.iconst 0, 1) := by decide +kernel
theorem dX7_isPlannable_77 : decode cX7_isPlannable 77 = .ok (.ireturn, 1) := by decide +kernel
theorem dX7_isTag_0 : decode cX7_isTag 0 = .ok (.iload_n 0, 1) := by decide +kernel
theorem dX7_isTag_1 : decode cX7_isTag 1 = .ok (.ifCond .lt 13, 3) := by decide +kernel
theorem dX7_isTag_4 : decode cX7_isTag 4 = .ok (.iload_n 0, 1) := by decide +kernel
theorem dX7_isTag_5 : decode cX7_isTag 5 = .ok (.bipush 10, 2) := by decide +kernel
theorem dX7_isTag_7 : decode cX7_isTag 7 = .ok (.if_icmp .ge 7, 3) := by decide +kernel
theorem dX7_isTag_10 : decode cX7_isTag 10 = .ok (.iconst 1, 1) := by decide +kernel
theorem dX7_isTag_11 : decode cX7_isTag 11 = .ok (.goto 4, 3) := by decide +kernel
theorem dX7_isTag_14 : decode cX7_isTag 14 = .ok (.iconst 0, 1) := by decide +kernel
theorem dX7_isTag_15 : decode cX7_isTag 15 = .ok (.ireturn, 1) := by decide +kernel
theorem dX7_isRoot_0 : decode cX7_isRoot 0 = .ok (.iload_n 0, 1) := by decide +kernel
theorem dX7_isRoot_1 : decode cX7_isRoot 1 = .ok (.ifCond .lt 12, 3) := by decide +kernel
theorem dX7_isRoot_4 : decode cX7_isRoot 4 = .ok (.iload_n 0, 1) := by decide +kernel
theorem dX7_isRoot_5 : decode cX7_isRoot 5 = .ok (.iconst 4, 1) := by decide +kernel
theorem dX7_isRoot_6 : decode cX7_isRoot 6 = .ok (.if_icmp .ge 7, 3) := by decide +kernel
theorem dX7_isRoot_9 : decode cX7_isRoot 9 = .ok (.iconst 1, 1) := by decide +kernel
theorem dX7_isRoot_10 : decode cX7_isRoot 10 = .ok (.goto 4, 3) := by decide +kernel
theorem dX7_isRoot_13 : decode cX7_isRoot 13 = .ok (.iconst 0, 1) := by decide +kernel
theorem dX7_isRoot_14 : decode cX7_isRoot 14 = .ok (.ireturn, 1) := by decide +kernel
theorem dX7_isLimit_0 : decode cX7_isLimit 0 = .ok (.iload_n 0, 1) := by decide +kernel
theorem dX7_isLimit_1 : decode cX7_isLimit 1 = .ok (.ifCond .lt 13, 3) := by decide +kernel
theorem dX7_isLimit_4 : decode cX7_isLimit 4 = .ok (.iload_n 0, 1) := by decide +kernel
theorem dX7_isLimit_5 : decode cX7_isLimit 5 = .ok (.bipush 8, 2) := by decide +kernel
theorem dX7_isLimit_7 : decode cX7_isLimit 7 = .ok (.if_icmp .gt 7, 3) := by decide +kernel
theorem dX7_isLimit_10 : decode cX7_isLimit 10 = .ok (.iconst 1, 1) := by decide +kernel
theorem dX7_isLimit_11 : decode cX7_isLimit 11 = .ok (.goto 4, 3) := by decide +kernel
theorem dX7_isLimit_14 : decode cX7_isLimit 14 = .ok (.iconst 0, 1) := by decide +kernel
theorem dX7_isLimit_15 : decode cX7_isLimit 15 = .ok (.ireturn, 1) := by decide +kernel
theorem dX7_isTape_0 : decode cX7_isTape 0 = .ok (.iload_n 0, 1) := by decide +kernel
theorem dX7_isTape_1 : decode cX7_isTape 1 = .ok (.ifCond .lt 13, 3) := by decide +kernel
theorem dX7_isTape_4 : decode cX7_isTape 4 = .ok (.iload_n 0, 1) := by decide +kernel
theorem dX7_isTape_5 : decode cX7_isTape 5 = .ok (.bipush 6, 2) := by decide +kernel
theorem dX7_isTape_7 : decode cX7_isTape 7 = .ok (.if_icmp .ge 7, 3) := by decide +kernel
theorem dX7_isTape_10 : decode cX7_isTape 10 = .ok (.iconst 1, 1) := by decide +kernel
theorem dX7_isTape_11 : decode cX7_isTape 11 = .ok (.goto 4, 3) := by decide +kernel
theorem dX7_isTape_14 : decode cX7_isTape 14 = .ok (.iconst 0, 1) := by decide +kernel
theorem dX7_isTape_15 : decode cX7_isTape 15 = .ok (.ireturn, 1) := by decide +kernel
theorem dX7_asNumber_0 : decode cX7_asNumber 0 = .ok (.iload_n 0, 1) := by decide +kernel
theorem dX7_asNumber_1 : decode cX7_asNumber 1 = .ok (.ifCond .eq 7, 3) := by decide +kernel
theorem dX7_asNumber_4 : decode cX7_asNumber 4 = .ok (.iconst 1, 1) := by decide +kernel
theorem dX7_asNumber_5 : decode cX7_asNumber 5 = .ok (.goto 4, 3) := by decide +kernel
theorem dX7_asNumber_8 : decode cX7_asNumber 8 = .ok (.iconst 0, 1) := by decide +kernel
theorem dX7_asNumber_9 : decode cX7_asNumber 9 = .ok (.ireturn, 1) := by decide +kernel
theorem dX7_orEmpty_0 : decode cX7_orEmpty 0 = .ok (.iload_n 0, 1) := by decide +kernel
theorem dX7_orEmpty_1 : decode cX7_orEmpty 1 = .ok (.iconst (-1), 1) := by decide +kernel
theorem dX7_orEmpty_2 : decode cX7_orEmpty 2 = .ok (.if_icmp .ne 8, 3) := by decide +kernel
theorem dX7_orEmpty_5 : decode cX7_orEmpty 5 = .ok (.bipush (-5), 2) := by decide +kernel
theorem dX7_orEmpty_7 : decode cX7_orEmpty 7 = .ok (.goto 4, 3) := by decide +kernel
theorem dX7_orEmpty_10 : decode cX7_orEmpty 10 = .ok (.iload_n 0, 1) := by decide +kernel
theorem dX7_orEmpty_11 : decode cX7_orEmpty 11 = .ok (.ireturn, 1) := by decide +kernel
theorem dX7_bit_0 : decode cX7_bit 0 = .ok (.iload_n 0, 1) := by decide +kernel
theorem dX7_bit_1 : decode cX7_bit 1 = .ok (.ifCond .lt 15, 3) := by decide +kernel
theorem dX7_bit_4 : decode cX7_bit 4 = .ok (.iload_n 0, 1) := by decide +kernel
theorem dX7_bit_5 : decode cX7_bit 5 = .ok (.bipush 24, 2) := by decide +kernel
theorem dX7_bit_7 : decode cX7_bit 7 = .ok (.if_icmp .ge 9, 3) := by decide +kernel
theorem dX7_bit_10 : decode cX7_bit 10 = .ok (.iconst 1, 1) := by decide +kernel
theorem dX7_bit_11 : decode cX7_bit 11 = .ok (.iload_n 0, 1) := by decide +kernel
theorem dX7_bit_12 : decode cX7_bit 12 = .ok (.ishl, 1) := by decide +kernel
theorem dX7_bit_13 : decode cX7_bit 13 = .ok (.goto 4, 3) := by decide +kernel
theorem dX7_bit_16 : decode cX7_bit 16 = .ok (.iconst 0, 1) := by decide +kernel
theorem dX7_bit_17 : decode cX7_bit 17 = .ok (.ireturn, 1) := by decide +kernel
theorem dX7_has_0 : decode cX7_has 0 = .ok (.iload_n 1, 1) := by decide +kernel
theorem dX7_has_1 : decode cX7_has 1 = .ok (.ifCond .lt 21, 3) := by decide +kernel
theorem dX7_has_4 : decode cX7_has 4 = .ok (.iload_n 1, 1) := by decide +kernel
theorem dX7_has_5 : decode cX7_has 5 = .ok (.bipush 24, 2) := by decide +kernel
theorem dX7_has_7 : decode cX7_has 7 = .ok (.if_icmp .ge 15, 3) := by decide +kernel
theorem dX7_has_10 : decode cX7_has 10 = .ok (.iload_n 0, 1) := by decide +kernel
theorem dX7_has_11 : decode cX7_has 11 = .ok (.iload_n 1, 1) := by decide +kernel
theorem dX7_has_12 : decode cX7_has 12 = .ok (.ishr, 1) := by decide +kernel
theorem dX7_has_13 : decode cX7_has 13 = .ok (.iconst 1, 1) := by decide +kernel
theorem dX7_has_14 : decode cX7_has 14 = .ok (.iand, 1) := by decide +kernel
theorem dX7_has_15 : decode cX7_has 15 = .ok (.ifCond .eq 7, 3) := by decide +kernel
theorem dX7_has_18 : decode cX7_has 18 = .ok (.iconst 1, 1) := by decide +kernel
theorem dX7_has_19 : decode cX7_has 19 = .ok (.goto 4, 3) := by decide +kernel
theorem dX7_has_22 : decode cX7_has 22 = .ok (.iconst 0, 1) := by decide +kernel
theorem dX7_has_23 : decode cX7_has 23 = .ok (.ireturn, 1) := by decide +kernel
theorem dX7_firstOf_0 : decode cX7_firstOf 0 = .ok (.iload_n 0, 1) := by decide +kernel
theorem dX7_firstOf_1 : decode cX7_firstOf 1 = .ok (.iload_n 0, 1) := by decide +kernel
theorem dX7_firstOf_2 : decode cX7_firstOf 2 = .ok (.ineg, 1) := by decide +kernel
theorem dX7_firstOf_3 : decode cX7_firstOf 3 = .ok (.iand, 1) := by decide +kernel
theorem dX7_firstOf_4 : decode cX7_firstOf 4 = .ok (.iconst 1, 1) := by decide +kernel
theorem dX7_firstOf_5 : decode cX7_firstOf 5 = .ok (.isub, 1) := by decide +kernel
theorem dX7_firstOf_6 : decode cX7_firstOf 6 = .ok (.invokestatic 201, 3) := by decide +kernel
theorem dX7_firstOf_9 : decode cX7_firstOf 9 = .ok (.ireturn, 1) := by decide +kernel
theorem dX7_fieldsOf_0 : decode cX7_fieldsOf 0 = .ok (.iload_n 0, 1) := by decide +kernel
theorem dX7_fieldsOf_1 : decode cX7_fieldsOf 1 = .ok (.tableswitch 45 1 6 #[39, 43, 41, 41, 43, 39], 39) := by decide +kernel
theorem dX7_fieldsOf_40 : decode cX7_fieldsOf 40 = .ok (.iconst 2, 1) := by decide +kernel
theorem dX7_fieldsOf_41 : decode cX7_fieldsOf 41 = .ok (.ireturn, 1) := by decide +kernel
theorem dX7_fieldsOf_42 : decode cX7_fieldsOf 42 = .ok (.iconst 1, 1) := by decide +kernel
theorem dX7_fieldsOf_43 : decode cX7_fieldsOf 43 = .ok (.ireturn, 1) := by decide +kernel
theorem dX7_fieldsOf_44 : decode cX7_fieldsOf 44 = .ok (.iload_n 1, 1) := by decide +kernel
theorem dX7_fieldsOf_45 : decode cX7_fieldsOf 45 = .ok (.ireturn, 1) := by decide +kernel
theorem dX7_fieldsOf_46 : decode cX7_fieldsOf 46 = .ok (.iconst 0, 1) := by decide +kernel
theorem dX7_fieldsOf_47 : decode cX7_fieldsOf 47 = .ok (.ireturn, 1) := by decide +kernel
theorem dX7_isFollowed_0 : decode cX7_isFollowed 0 = .ok (.iload_n 0, 1) := by decide +kernel
theorem dX7_isFollowed_1 : decode cX7_isFollowed 1 = .ok (.tableswitch 58 4 6 #[27, 29, 41], 27) := by decide +kernel
theorem dX7_isFollowed_28 : decode cX7_isFollowed 28 = .ok (.iconst 0, 1) := by decide +kernel
theorem dX7_isFollowed_29 : decode cX7_isFollowed 29 = .ok (.ireturn, 1) := by decide +kernel
theorem dX7_isFollowed_30 : decode cX7_isFollowed 30 = .ok (.iload_n 2, 1) := by decide +kernel
theorem dX7_isFollowed_31 : decode cX7_isFollowed 31 = .ok (.iconst 2, 1) := by decide +kernel
theorem dX7_isFollowed_32 : decode cX7_isFollowed 32 = .ok (.irem, 1) := by decide +kernel
theorem dX7_isFollowed_33 : decode cX7_isFollowed 33 = .ok (.ifCond .eq 7, 3) := by decide +kernel
theorem dX7_isFollowed_36 : decode cX7_isFollowed 36 = .ok (.iconst 1, 1) := by decide +kernel
theorem dX7_isFollowed_37 : decode cX7_isFollowed 37 = .ok (.goto 4, 3) := by decide +kernel
theorem dX7_isFollowed_40 : decode cX7_isFollowed 40 = .ok (.iconst 0, 1) := by decide +kernel
theorem dX7_isFollowed_41 : decode cX7_isFollowed 41 = .ok (.ireturn, 1) := by decide +kernel
theorem dX7_isFollowed_42 : decode cX7_isFollowed 42 = .ok (.iload_n 2, 1) := by decide +kernel
theorem dX7_isFollowed_43 : decode cX7_isFollowed 43 = .ok (.iconst 1, 1) := by decide +kernel
theorem dX7_isFollowed_44 : decode cX7_isFollowed 44 = .ok (.if_icmp .ne 9, 3) := by decide +kernel
theorem dX7_isFollowed_47 : decode cX7_isFollowed 47 = .ok (.iload_n 1, 1) := by decide +kernel
theorem dX7_isFollowed_48 : decode cX7_isFollowed 48 = .ok (.iconst 2, 1) := by decide +kernel
theorem dX7_isFollowed_49 : decode cX7_isFollowed 49 = .ok (.irem, 1) := by decide +kernel
theorem dX7_isFollowed_50 : decode cX7_isFollowed 50 = .ok (.ifCond .eq 7, 3) := by decide +kernel
theorem dX7_isFollowed_53 : decode cX7_isFollowed 53 = .ok (.iconst 1, 1) := by decide +kernel
theorem dX7_isFollowed_54 : decode cX7_isFollowed 54 = .ok (.goto 4, 3) := by decide +kernel
theorem dX7_isFollowed_57 : decode cX7_isFollowed 57 = .ok (.iconst 0, 1) := by decide +kernel
theorem dX7_isFollowed_58 : decode cX7_isFollowed 58 = .ok (.ireturn, 1) := by decide +kernel
theorem dX7_isFollowed_59 : decode cX7_isFollowed 59 = .ok (.iconst 1, 1) := by decide +kernel
theorem dX7_isFollowed_60 : decode cX7_isFollowed 60 = .ok (.ireturn, 1) := by decide +kernel
theorem dX7_isUnder_0 : decode cX7_isUnder 0 = .ok (.iload_n 0, 1) := by decide +kernel
theorem dX7_isUnder_1 : decode cX7_isUnder 1 = .ok (.istore_n 2, 1) := by decide +kernel
theorem dX7_isUnder_2 : decode cX7_isUnder 2 = .ok (.iconst 0, 1) := by decide +kernel
theorem dX7_isUnder_3 : decode cX7_isUnder 3 = .ok (.istore_n 3, 1) := by decide +kernel
theorem dX7_isUnder_4 : decode cX7_isUnder 4 = .ok (.iload_n 3, 1) := by decide +kernel
theorem dX7_isUnder_5 : decode cX7_isUnder 5 = .ok (.getstatic 342, 3) := by decide +kernel
theorem dX7_isUnder_8 : decode cX7_isUnder 8 = .ok (.arraylength, 1) := by decide +kernel
theorem dX7_isUnder_9 : decode cX7_isUnder 9 = .ok (.if_icmp .ge 34, 3) := by decide +kernel
theorem dX7_isUnder_12 : decode cX7_isUnder 12 = .ok (.iload_n 2, 1) := by decide +kernel
theorem dX7_isUnder_13 : decode cX7_isUnder 13 = .ok (.ifCond .lt 30, 3) := by decide +kernel
theorem dX7_isUnder_16 : decode cX7_isUnder 16 = .ok (.iload_n 2, 1) := by decide +kernel
theorem dX7_isUnder_17 : decode cX7_isUnder 17 = .ok (.getstatic 342, 3) := by decide +kernel
theorem dX7_isUnder_20 : decode cX7_isUnder 20 = .ok (.arraylength, 1) := by decide +kernel
theorem dX7_isUnder_21 : decode cX7_isUnder 21 = .ok (.if_icmp .ge 22, 3) := by decide +kernel
theorem dX7_isUnder_24 : decode cX7_isUnder 24 = .ok (.iload_n 2, 1) := by decide +kernel
theorem dX7_isUnder_25 : decode cX7_isUnder 25 = .ok (.iload_n 1, 1) := by decide +kernel
theorem dX7_isUnder_26 : decode cX7_isUnder 26 = .ok (.if_icmp .ne 5, 3) := by decide +kernel
theorem dX7_isUnder_29 : decode cX7_isUnder 29 = .ok (.iconst 1, 1) := by decide +kernel
theorem dX7_isUnder_30 : decode cX7_isUnder 30 = .ok (.ireturn, 1) := by decide +kernel
theorem dX7_isUnder_31 : decode cX7_isUnder 31 = .ok (.getstatic 342, 3) := by decide +kernel
theorem dX7_isUnder_34 : decode cX7_isUnder 34 = .ok (.iload_n 2, 1) := by decide +kernel
theorem dX7_isUnder_35 : decode cX7_isUnder 35 = .ok (.iaload, 1) := by decide +kernel
theorem dX7_isUnder_36 : decode cX7_isUnder 36 = .ok (.istore_n 2, 1) := by decide +kernel
theorem dX7_isUnder_37 : decode cX7_isUnder 37 = .ok (.iinc 3 1, 3) := by decide +kernel
theorem dX7_isUnder_40 : decode cX7_isUnder 40 = .ok (.goto (-36), 3) := by decide +kernel
theorem dX7_isUnder_43 : decode cX7_isUnder 43 = .ok (.iconst 0, 1) := by decide +kernel
theorem dX7_isUnder_44 : decode cX7_isUnder 44 = .ok (.ireturn, 1) := by decide +kernel
theorem dX7_bitsFor_0 : decode cX7_bitsFor 0 = .ok (.iconst 0, 1) := by decide +kernel
theorem dX7_bitsFor_1 : decode cX7_bitsFor 1 = .ok (.istore_n 1, 1) := by decide +kernel
theorem dX7_bitsFor_2 : decode cX7_bitsFor 2 = .ok (.iload_n 1, 1) := by decide +kernel
theorem dX7_bitsFor_3 : decode cX7_bitsFor 3 = .ok (.bipush 6, 2) := by decide +kernel
theorem dX7_bitsFor_5 : decode cX7_bitsFor 5 = .ok (.if_icmp .ge 16, 3) := by decide +kernel
theorem dX7_bitsFor_8 : decode cX7_bitsFor 8 = .ok (.iload_n 0, 1) := by decide +kernel
theorem dX7_bitsFor_9 : decode cX7_bitsFor 9 = .ok (.iconst 1, 1) := by decide +kernel
theorem dX7_bitsFor_10 : decode cX7_bitsFor 10 = .ok (.iload_n 1, 1) := by decide +kernel
theorem dX7_bitsFor_11 : decode cX7_bitsFor 11 = .ok (.ishl, 1) := by decide +kernel
theorem dX7_bitsFor_12 : decode cX7_bitsFor 12 = .ok (.if_icmp .le 9, 3) := by decide +kernel
theorem dX7_bitsFor_15 : decode cX7_bitsFor 15 = .ok (.iinc 1 1, 3) := by decide +kernel
theorem dX7_bitsFor_18 : decode cX7_bitsFor 18 = .ok (.goto (-16), 3) := by decide +kernel
theorem dX7_bitsFor_21 : decode cX7_bitsFor 21 = .ok (.iconst 1, 1) := by decide +kernel
theorem dX7_bitsFor_22 : decode cX7_bitsFor 22 = .ok (.iload_n 1, 1) := by decide +kernel
theorem dX7_bitsFor_23 : decode cX7_bitsFor 23 = .ok (.iadd, 1) := by decide +kernel
theorem dX7_bitsFor_24 : decode cX7_bitsFor 24 = .ok (.ireturn, 1) := by decide +kernel
theorem dX7_fraction_0 : decode cX7_fraction 0 = .ok (.iload_n 1, 1) := by decide +kernel
theorem dX7_fraction_1 : decode cX7_fraction 1 = .ok (.ifCond .le 12, 3) := by decide +kernel
theorem dX7_fraction_4 : decode cX7_fraction 4 = .ok (.iload_n 2, 1) := by decide +kernel
theorem dX7_fraction_5 : decode cX7_fraction 5 = .ok (.ifCond .lt 8, 3) := by decide +kernel
theorem dX7_fraction_8 : decode cX7_fraction 8 = .ok (.iload_n 2, 1) := by decide +kernel
theorem dX7_fraction_9 : decode cX7_fraction 9 = .ok (.iconst 1, 1) := by decide +kernel
theorem dX7_fraction_10 : decode cX7_fraction 10 = .ok (.if_icmp .le 7, 3) := by decide +kernel
theorem dX7_fraction_13 : decode cX7_fraction 13 = .ok (.ldc2_w 260, 3) := by decide +kernel
theorem dX7_fraction_16 : decode cX7_fraction 16 = .ok (.lreturn, 1) := by decide +kernel
theorem dX7_fraction_17 : decode cX7_fraction 17 = .ok (.iload_n 2, 1) := by decide +kernel
theorem dX7_fraction_18 : decode cX7_fraction 18 = .ok (.ifCond .ne 7, 3) := by decide +kernel
theorem dX7_fraction_21 : decode cX7_fraction 21 = .ok (.iload_n 0, 1) := by decide +kernel
theorem dX7_fraction_22 : decode cX7_fraction 22 = .ok (.goto 4, 3) := by decide +kernel
theorem dX7_fraction_25 : decode cX7_fraction 25 = .ok (.iload_n 1, 1) := by decide +kernel
theorem dX7_fraction_26 : decode cX7_fraction 26 = .ok (.istore_n 3, 1) := by decide +kernel
theorem dX7_fraction_27 : decode cX7_fraction 27 = .ok (.iload_n 1, 1) := by decide +kernel
theorem dX7_fraction_28 : decode cX7_fraction 28 = .ok (.istore 4, 2) := by decide +kernel
theorem dX7_fraction_30 : decode cX7_fraction 30 = .ok (.iload 4, 2) := by decide +kernel
theorem dX7_fraction_32 : decode cX7_fraction 32 = .ok (.iconst 1, 1) := by decide +kernel
theorem dX7_fraction_33 : decode cX7_fraction 33 = .ok (.if_icmp .le 29, 3) := by decide +kernel
theorem dX7_fraction_36 : decode cX7_fraction 36 = .ok (.iload_n 0, 1) := by decide +kernel
theorem dX7_fraction_37 : decode cX7_fraction 37 = .ok (.iload 4, 2) := by decide +kernel
theorem dX7_fraction_39 : decode cX7_fraction 39 = .ok (.irem, 1) := by decide +kernel
theorem dX7_fraction_40 : decode cX7_fraction 40 = .ok (.ifCond .ne 16, 3) := by decide +kernel
theorem dX7_fraction_43 : decode cX7_fraction 43 = .ok (.iload_n 1, 1) := by decide +kernel
theorem dX7_fraction_44 : decode cX7_fraction 44 = .ok (.iload 4, 2) := by decide +kernel
theorem dX7_fraction_46 : decode cX7_fraction 46 = .ok (.irem, 1) := by decide +kernel
theorem dX7_fraction_47 : decode cX7_fraction 47 = .ok (.ifCond .ne 9, 3) := by decide +kernel
theorem dX7_fraction_50 : decode cX7_fraction 50 = .ok (.iload_n 3, 1) := by decide +kernel
theorem dX7_fraction_51 : decode cX7_fraction 51 = .ok (.iload 4, 2) := by decide +kernel
theorem dX7_fraction_53 : decode cX7_fraction 53 = .ok (.idiv, 1) := by decide +kernel
theorem dX7_fraction_54 : decode cX7_fraction 54 = .ok (.i2l, 1) := by decide +kernel
theorem dX7_fraction_55 : decode cX7_fraction 55 = .ok (.lreturn, 1) := by decide +kernel
theorem dX7_fraction_56 : decode cX7_fraction 56 = .ok (.iinc 4 (-1), 3) := by decide +kernel
theorem dX7_fraction_59 : decode cX7_fraction 59 = .ok (.goto (-29), 3) := by decide +kernel
theorem dX7_fraction_62 : decode cX7_fraction 62 = .ok (.iload_n 3, 1) := by decide +kernel
theorem dX7_fraction_63 : decode cX7_fraction 63 = .ok (.i2l, 1) := by decide +kernel
theorem dX7_fraction_64 : decode cX7_fraction 64 = .ok (.lreturn, 1) := by decide +kernel
theorem dJ6_bitCount_0f7a4_0 : decode cJ6_bitCount_0f7a4 0 = .ok (.iload_n 0, 1) := by decide +kernel
theorem dJ6_bitCount_0f7a4_1 : decode cJ6_bitCount_0f7a4 1 = .ok (.iload_n 0, 1) := by decide +kernel
theorem dJ6_bitCount_0f7a4_2 : decode cJ6_bitCount_0f7a4 2 = .ok (.iconst 1, 1) := by decide +kernel
theorem dJ6_bitCount_0f7a4_3 : decode cJ6_bitCount_0f7a4 3 = .ok (.iushr, 1) := by decide +kernel
theorem dJ6_bitCount_0f7a4_4 : decode cJ6_bitCount_0f7a4 4 = .ok (.ldc_w 265, 3) := by decide +kernel
theorem dJ6_bitCount_0f7a4_7 : decode cJ6_bitCount_0f7a4 7 = .ok (.iand, 1) := by decide +kernel
theorem dJ6_bitCount_0f7a4_8 : decode cJ6_bitCount_0f7a4 8 = .ok (.isub, 1) := by decide +kernel
theorem dJ6_bitCount_0f7a4_9 : decode cJ6_bitCount_0f7a4 9 = .ok (.istore_n 0, 1) := by decide +kernel
theorem dJ6_bitCount_0f7a4_10 : decode cJ6_bitCount_0f7a4 10 = .ok (.iload_n 0, 1) := by decide +kernel
theorem dJ6_bitCount_0f7a4_11 : decode cJ6_bitCount_0f7a4 11 = .ok (.ldc_w 266, 3) := by decide +kernel
theorem dJ6_bitCount_0f7a4_14 : decode cJ6_bitCount_0f7a4 14 = .ok (.iand, 1) := by decide +kernel
theorem dJ6_bitCount_0f7a4_15 : decode cJ6_bitCount_0f7a4 15 = .ok (.iload_n 0, 1) := by decide +kernel
theorem dJ6_bitCount_0f7a4_16 : decode cJ6_bitCount_0f7a4 16 = .ok (.iconst 2, 1) := by decide +kernel
theorem dJ6_bitCount_0f7a4_17 : decode cJ6_bitCount_0f7a4 17 = .ok (.iushr, 1) := by decide +kernel
theorem dJ6_bitCount_0f7a4_18 : decode cJ6_bitCount_0f7a4 18 = .ok (.ldc_w 266, 3) := by decide +kernel
theorem dJ6_bitCount_0f7a4_21 : decode cJ6_bitCount_0f7a4 21 = .ok (.iand, 1) := by decide +kernel
theorem dJ6_bitCount_0f7a4_22 : decode cJ6_bitCount_0f7a4 22 = .ok (.iadd, 1) := by decide +kernel
theorem dJ6_bitCount_0f7a4_23 : decode cJ6_bitCount_0f7a4 23 = .ok (.istore_n 0, 1) := by decide +kernel
theorem dJ6_bitCount_0f7a4_24 : decode cJ6_bitCount_0f7a4 24 = .ok (.iload_n 0, 1) := by decide +kernel
theorem dJ6_bitCount_0f7a4_25 : decode cJ6_bitCount_0f7a4 25 = .ok (.iload_n 0, 1) := by decide +kernel
theorem dJ6_bitCount_0f7a4_26 : decode cJ6_bitCount_0f7a4 26 = .ok (.iconst 4, 1) := by decide +kernel
theorem dJ6_bitCount_0f7a4_27 : decode cJ6_bitCount_0f7a4 27 = .ok (.iushr, 1) := by decide +kernel
theorem dJ6_bitCount_0f7a4_28 : decode cJ6_bitCount_0f7a4 28 = .ok (.iadd, 1) := by decide +kernel
theorem dJ6_bitCount_0f7a4_29 : decode cJ6_bitCount_0f7a4 29 = .ok (.ldc_w 267, 3) := by decide +kernel
theorem dJ6_bitCount_0f7a4_32 : decode cJ6_bitCount_0f7a4 32 = .ok (.iand, 1) := by decide +kernel
theorem dJ6_bitCount_0f7a4_33 : decode cJ6_bitCount_0f7a4 33 = .ok (.istore_n 0, 1) := by decide +kernel
theorem dJ6_bitCount_0f7a4_34 : decode cJ6_bitCount_0f7a4 34 = .ok (.iload_n 0, 1) := by decide +kernel
theorem dJ6_bitCount_0f7a4_35 : decode cJ6_bitCount_0f7a4 35 = .ok (.iload_n 0, 1) := by decide +kernel
theorem dJ6_bitCount_0f7a4_36 : decode cJ6_bitCount_0f7a4 36 = .ok (.bipush 8, 2) := by decide +kernel
theorem dJ6_bitCount_0f7a4_38 : decode cJ6_bitCount_0f7a4 38 = .ok (.iushr, 1) := by decide +kernel
theorem dJ6_bitCount_0f7a4_39 : decode cJ6_bitCount_0f7a4 39 = .ok (.iadd, 1) := by decide +kernel
theorem dJ6_bitCount_0f7a4_40 : decode cJ6_bitCount_0f7a4 40 = .ok (.istore_n 0, 1) := by decide +kernel
theorem dJ6_bitCount_0f7a4_41 : decode cJ6_bitCount_0f7a4 41 = .ok (.iload_n 0, 1) := by decide +kernel
theorem dJ6_bitCount_0f7a4_42 : decode cJ6_bitCount_0f7a4 42 = .ok (.iload_n 0, 1) := by decide +kernel
theorem dJ6_bitCount_0f7a4_43 : decode cJ6_bitCount_0f7a4 43 = .ok (.bipush 16, 2) := by decide +kernel
theorem dJ6_bitCount_0f7a4_45 : decode cJ6_bitCount_0f7a4 45 = .ok (.iushr, 1) := by decide +kernel
theorem dJ6_bitCount_0f7a4_46 : decode cJ6_bitCount_0f7a4 46 = .ok (.iadd, 1) := by decide +kernel
theorem dJ6_bitCount_0f7a4_47 : decode cJ6_bitCount_0f7a4 47 = .ok (.istore_n 0, 1) := by decide +kernel
theorem dJ6_bitCount_0f7a4_48 : decode cJ6_bitCount_0f7a4 48 = .ok (.iload_n 0, 1) := by decide +kernel
theorem dJ6_bitCount_0f7a4_49 : decode cJ6_bitCount_0f7a4 49 = .ok (.bipush 63, 2) := by decide +kernel
theorem dJ6_bitCount_0f7a4_51 : decode cJ6_bitCount_0f7a4 51 = .ok (.iand, 1) := by decide +kernel
theorem dJ6_bitCount_0f7a4_52 : decode cJ6_bitCount_0f7a4 52 = .ok (.ireturn, 1) := by decide +kernel
theorem dJ9_max_7cf53_0 : decode cJ9_max_7cf53 0 = .ok (.iload_n 0, 1) := by decide +kernel
theorem dJ9_max_7cf53_1 : decode cJ9_max_7cf53 1 = .ok (.iload_n 1, 1) := by decide +kernel
theorem dJ9_max_7cf53_2 : decode cJ9_max_7cf53 2 = .ok (.if_icmp .lt 7, 3) := by decide +kernel
theorem dJ9_max_7cf53_5 : decode cJ9_max_7cf53 5 = .ok (.iload_n 0, 1) := by decide +kernel
theorem dJ9_max_7cf53_6 : decode cJ9_max_7cf53 6 = .ok (.goto 4, 3) := by decide +kernel
theorem dJ9_max_7cf53_9 : decode cJ9_max_7cf53 9 = .ok (.iload_n 1, 1) := by decide +kernel
theorem dJ9_max_7cf53_10 : decode cJ9_max_7cf53 10 = .ok (.ireturn, 1) := by decide +kernel
theorem dJ9_min_7cf53_0 : decode cJ9_min_7cf53 0 = .ok (.iload_n 0, 1) := by decide +kernel
theorem dJ9_min_7cf53_1 : decode cJ9_min_7cf53 1 = .ok (.iload_n 1, 1) := by decide +kernel
theorem dJ9_min_7cf53_2 : decode cJ9_min_7cf53 2 = .ok (.if_icmp .gt 7, 3) := by decide +kernel
theorem dJ9_min_7cf53_5 : decode cJ9_min_7cf53 5 = .ok (.iload_n 0, 1) := by decide +kernel
theorem dJ9_min_7cf53_6 : decode cJ9_min_7cf53 6 = .ok (.goto 4, 3) := by decide +kernel
theorem dJ9_min_7cf53_9 : decode cJ9_min_7cf53 9 = .ok (.iload_n 1, 1) := by decide +kernel
theorem dJ9_min_7cf53_10 : decode cJ9_min_7cf53 10 = .ok (.ireturn, 1) := by decide +kernel
theorem dJ7_rangeCheck_23922_0 : decode cJ7_rangeCheck_23922 0 = .ok (.iload_n 1, 1) := by decide +kernel
theorem dJ7_rangeCheck_23922_1 : decode cJ7_rangeCheck_23922 1 = .ok (.iload_n 2, 1) := by decide +kernel
theorem dJ7_rangeCheck_23922_2 : decode cJ7_rangeCheck_23922 2 = .ok (.if_icmp .le 44, 3) := by decide +kernel
theorem dJ7_rangeCheck_23922_5 : decode cJ7_rangeCheck_23922 5 = .ok (.new 43, 3) := by decide +kernel
theorem dJ7_rangeCheck_23922_8 : decode cJ7_rangeCheck_23922 8 = .ok (.dup, 1) := by decide +kernel
theorem dJ7_rangeCheck_23922_9 : decode cJ7_rangeCheck_23922 9 = .ok (.new 45, 3) := by decide +kernel
theorem dJ7_rangeCheck_23922_12 : decode cJ7_rangeCheck_23922 12 = .ok (.dup, 1) := by decide +kernel
theorem dJ7_rangeCheck_23922_13 : decode cJ7_rangeCheck_23922 13 = .ok (.invokespecial 47, 3) := by decide +kernel
theorem dJ7_rangeCheck_23922_16 : decode cJ7_rangeCheck_23922 16 = .ok (.ldc 48, 2) := by decide +kernel
theorem dJ7_rangeCheck_23922_18 : decode cJ7_rangeCheck_23922 18 = .ok (.invokevirtual 50, 3) := by decide +kernel
theorem dJ7_rangeCheck_23922_21 : decode cJ7_rangeCheck_23922 21 = .ok (.iload_n 1, 1) := by decide +kernel
theorem dJ7_rangeCheck_23922_22 : decode cJ7_rangeCheck_23922 22 = .ok (.invokevirtual 54, 3) := by decide +kernel
theorem dJ7_rangeCheck_23922_25 : decode cJ7_rangeCheck_23922 25 = .ok (.ldc 57, 2) := by decide +kernel
theorem dJ7_rangeCheck_23922_27 : decode cJ7_rangeCheck_23922 27 = .ok (.invokevirtual 50, 3) := by decide +kernel
theorem dJ7_rangeCheck_23922_30 : decode cJ7_rangeCheck_23922 30 = .ok (.iload_n 2, 1) := by decide +kernel
theorem dJ7_rangeCheck_23922_31 : decode cJ7_rangeCheck_23922 31 = .ok (.invokevirtual 54, 3) := by decide +kernel
theorem dJ7_rangeCheck_23922_34 : decode cJ7_rangeCheck_23922 34 = .ok (.ldc 59, 2) := by decide +kernel
theorem dJ7_rangeCheck_23922_36 : decode cJ7_rangeCheck_23922 36 = .ok (.invokevirtual 50, 3) := by decide +kernel
theorem dJ7_rangeCheck_23922_39 : decode cJ7_rangeCheck_23922 39 = .ok (.invokevirtual 61, 3) := by decide +kernel
theorem dJ7_rangeCheck_23922_42 : decode cJ7_rangeCheck_23922 42 = .ok (.invokespecial 65, 3) := by decide +kernel
theorem dJ7_rangeCheck_23922_45 : decode cJ7_rangeCheck_23922 45 = .ok (.athrow, 1) := by decide +kernel
theorem dJ7_rangeCheck_23922_46 : decode cJ7_rangeCheck_23922 46 = .ok (.iload_n 1, 1) := by decide +kernel
theorem dJ7_rangeCheck_23922_47 : decode cJ7_rangeCheck_23922 47 = .ok (.ifCond .ge 12, 3) := by decide +kernel
theorem dJ7_rangeCheck_23922_50 : decode cJ7_rangeCheck_23922 50 = .ok (.new 68, 3) := by decide +kernel
theorem dJ7_rangeCheck_23922_53 : decode cJ7_rangeCheck_23922 53 = .ok (.dup, 1) := by decide +kernel
theorem dJ7_rangeCheck_23922_54 : decode cJ7_rangeCheck_23922 54 = .ok (.iload_n 1, 1) := by decide +kernel
theorem dJ7_rangeCheck_23922_55 : decode cJ7_rangeCheck_23922 55 = .ok (.invokespecial 70, 3) := by decide +kernel
theorem dJ7_rangeCheck_23922_58 : decode cJ7_rangeCheck_23922 58 = .ok (.athrow, 1) := by decide +kernel
theorem dJ7_rangeCheck_23922_59 : decode cJ7_rangeCheck_23922 59 = .ok (.iload_n 2, 1) := by decide +kernel
theorem dJ7_rangeCheck_23922_60 : decode cJ7_rangeCheck_23922 60 = .ok (.iload_n 0, 1) := by decide +kernel
theorem dJ7_rangeCheck_23922_61 : decode cJ7_rangeCheck_23922 61 = .ok (.if_icmp .le 12, 3) := by decide +kernel
theorem dJ7_rangeCheck_23922_64 : decode cJ7_rangeCheck_23922 64 = .ok (.new 68, 3) := by decide +kernel
theorem dJ7_rangeCheck_23922_67 : decode cJ7_rangeCheck_23922 67 = .ok (.dup, 1) := by decide +kernel
theorem dJ7_rangeCheck_23922_68 : decode cJ7_rangeCheck_23922 68 = .ok (.iload_n 2, 1) := by decide +kernel
theorem dJ7_rangeCheck_23922_69 : decode cJ7_rangeCheck_23922 69 = .ok (.invokespecial 70, 3) := by decide +kernel
theorem dJ7_rangeCheck_23922_72 : decode cJ7_rangeCheck_23922 72 = .ok (.athrow, 1) := by decide +kernel
theorem dJ7_rangeCheck_23922_73 : decode cJ7_rangeCheck_23922 73 = .ok (.return_, 1) := by decide +kernel
theorem dJ7_fill_bad5a_0 : decode cJ7_fill_bad5a 0 = .ok (.aload_n 0, 1) := by decide +kernel
theorem dJ7_fill_bad5a_1 : decode cJ7_fill_bad5a 1 = .ok (.arraylength, 1) := by decide +kernel
theorem dJ7_fill_bad5a_2 : decode cJ7_fill_bad5a 2 = .ok (.iload_n 1, 1) := by decide +kernel
theorem dJ7_fill_bad5a_3 : decode cJ7_fill_bad5a 3 = .ok (.iload_n 2, 1) := by decide +kernel
theorem dJ7_fill_bad5a_4 : decode cJ7_fill_bad5a 4 = .ok (.invokestatic 13, 3) := by decide +kernel
theorem dJ7_fill_bad5a_7 : decode cJ7_fill_bad5a 7 = .ok (.iload_n 1, 1) := by decide +kernel
theorem dJ7_fill_bad5a_8 : decode cJ7_fill_bad5a 8 = .ok (.istore 5, 2) := by decide +kernel
theorem dJ7_fill_bad5a_10 : decode cJ7_fill_bad5a 10 = .ok (.iload 5, 2) := by decide +kernel
theorem dJ7_fill_bad5a_12 : decode cJ7_fill_bad5a 12 = .ok (.iload_n 2, 1) := by decide +kernel
theorem dJ7_fill_bad5a_13 : decode cJ7_fill_bad5a 13 = .ok (.if_icmp .ge 14, 3) := by decide +kernel
theorem dJ7_fill_bad5a_16 : decode cJ7_fill_bad5a 16 = .ok (.aload_n 0, 1) := by decide +kernel
theorem dJ7_fill_bad5a_17 : decode cJ7_fill_bad5a 17 = .ok (.iload 5, 2) := by decide +kernel
theorem dJ7_fill_bad5a_19 : decode cJ7_fill_bad5a 19 = .ok (.lload_n 3, 1) := by decide +kernel
theorem dJ7_fill_bad5a_20 : decode cJ7_fill_bad5a 20 = .ok (.lastore, 1) := by decide +kernel
theorem dJ7_fill_bad5a_21 : decode cJ7_fill_bad5a 21 = .ok (.iinc 5 1, 3) := by decide +kernel
theorem dJ7_fill_bad5a_24 : decode cJ7_fill_bad5a 24 = .ok (.goto (-14), 3) := by decide +kernel
theorem dJ7_fill_bad5a_27 : decode cJ7_fill_bad5a 27 = .ok (.return_, 1) := by decide +kernel
theorem dJ7_fill_53178_0 : decode cJ7_fill_53178 0 = .ok (.iconst 0, 1) := by decide +kernel
theorem dJ7_fill_53178_1 : decode cJ7_fill_53178 1 = .ok (.istore_n 2, 1) := by decide +kernel
theorem dJ7_fill_53178_2 : decode cJ7_fill_53178 2 = .ok (.aload_n 0, 1) := by decide +kernel
theorem dJ7_fill_53178_3 : decode cJ7_fill_53178 3 = .ok (.arraylength, 1) := by decide +kernel
theorem dJ7_fill_53178_4 : decode cJ7_fill_53178 4 = .ok (.istore_n 3, 1) := by decide +kernel
theorem dJ7_fill_53178_5 : decode cJ7_fill_53178 5 = .ok (.iload_n 2, 1) := by decide +kernel
theorem dJ7_fill_53178_6 : decode cJ7_fill_53178 6 = .ok (.iload_n 3, 1) := by decide +kernel
theorem dJ7_fill_53178_7 : decode cJ7_fill_53178 7 = .ok (.if_icmp .ge 13, 3) := by decide +kernel
theorem dJ7_fill_53178_10 : decode cJ7_fill_53178 10 = .ok (.aload_n 0, 1) := by decide +kernel
theorem dJ7_fill_53178_11 : decode cJ7_fill_53178 11 = .ok (.iload_n 2, 1) := by decide +kernel
theorem dJ7_fill_53178_12 : decode cJ7_fill_53178 12 = .ok (.iload_n 1, 1) := by decide +kernel
theorem dJ7_fill_53178_13 : decode cJ7_fill_53178 13 = .ok (.iastore, 1) := by decide +kernel
theorem dJ7_fill_53178_14 : decode cJ7_fill_53178 14 = .ok (.iinc 2 1, 3) := by decide +kernel
theorem dJ7_fill_53178_17 : decode cJ7_fill_53178 17 = .ok (.goto (-12), 3) := by decide +kernel
theorem dJ7_fill_53178_20 : decode cJ7_fill_53178 20 = .ok (.return_, 1) := by decide +kernel
