theorem dX0_init_0 : decode cX0_init 0 = .ok (.aload_n 0, 1) := by decide +kernel
theorem dX0_init_1 : decode cX0_init 1 = .ok (.invokespecial 3, 3) := by decide +kernel
theorem dX0_init_4 : decode cX0_init 4 = .ok (.aload_n 0, 1) := by decide +kernel
theorem dX0_init_5 : decode cX0_init 5 = .ok (.iconst 2, 1) := by decide +kernel
theorem dX0_init_6 : decode cX0_init 6 = .ok (.newarray .int, 2) := by decide +kernel
theorem dX0_init_8 : decode cX0_init 8 = .ok (.putfield 9, 3) := by decide +kernel
theorem dX0_init_11 : decode cX0_init 11 = .ok (.aload_n 0, 1) := by decide +kernel
theorem dX0_init_12 : decode cX0_init 12 = .ok (.iconst 2, 1) := by decide +kernel
theorem dX0_init_13 : decode cX0_init 13 = .ok (.newarray .int, 2) := by decide +kernel
theorem dX0_init_15 : decode cX0_init 15 = .ok (.putfield 15, 3) := by decide +kernel
theorem dX0_init_18 : decode cX0_init 18 = .ok (.aload_n 0, 1) := by decide +kernel
theorem dX0_init_19 : decode cX0_init 19 = .ok (.iconst 2, 1) := by decide +kernel
theorem dX0_init_20 : decode cX0_init 20 = .ok (.bipush 8, 2) := by decide +kernel
theorem dX0_init_22 : decode cX0_init 22 = .ok (.multianewarray 18 2, 4) := by decide +kernel
theorem dX0_init_26 : decode cX0_init 26 = .ok (.putfield 20, 3) := by decide +kernel
theorem dX0_init_29 : decode cX0_init 29 = .ok (.aload_n 0, 1) := by decide +kernel
theorem dX0_init_30 : decode cX0_init 30 = .ok (.bipush 25, 2) := by decide +kernel
theorem dX0_init_32 : decode cX0_init 32 = .ok (.newarray .int, 2) := by decide +kernel
theorem dX0_init_34 : decode cX0_init 34 = .ok (.putfield 23, 3) := by decide +kernel
theorem dX0_init_37 : decode cX0_init 37 = .ok (.aload_n 0, 1) := by decide +kernel
theorem dX0_init_38 : decode cX0_init 38 = .ok (.iconst 2, 1) := by decide +kernel
theorem dX0_init_39 : decode cX0_init 39 = .ok (.bipush 12, 2) := by decide +kernel
theorem dX0_init_41 : decode cX0_init 41 = .ok (.multianewarray 18 2, 4) := by decide +kernel
theorem dX0_init_45 : decode cX0_init 45 = .ok (.putfield 26, 3) := by decide +kernel
theorem dX0_init_48 : decode cX0_init 48 = .ok (.aload_n 0, 1) := by decide +kernel
theorem dX0_init_49 : decode cX0_init 49 = .ok (.aload_n 1, 1) := by decide +kernel
theorem dX0_init_50 : decode cX0_init 50 = .ok (.invokevirtual 29, 3) := by decide +kernel
theorem dX0_init_53 : decode cX0_init 53 = .ok (.return_, 1) := by decide +kernel
theorem dX0_startAnew_0 : decode cX0_startAnew 0 = .ok (.aload_n 0, 1) := by decide +kernel
theorem dX0_startAnew_1 : decode cX0_startAnew 1 = .ok (.aload_n 1, 1) := by decide +kernel
theorem dX0_startAnew_2 : decode cX0_startAnew 2 = .ok (.putfield 33, 3) := by decide +kernel
theorem dX0_startAnew_5 : decode cX0_startAnew 5 = .ok (.aload_n 0, 1) := by decide +kernel
theorem dX0_startAnew_6 : decode cX0_startAnew 6 = .ok (.iconst 0, 1) := by decide +kernel
theorem dX0_startAnew_7 : decode cX0_startAnew 7 = .ok (.putfield 37, 3) := by decide +kernel
theorem dX0_startAnew_10 : decode cX0_startAnew 10 = .ok (.aload_n 0, 1) := by decide +kernel
theorem dX0_startAnew_11 : decode cX0_startAnew 11 = .ok (.getfield 23, 3) := by decide +kernel
theorem dX0_startAnew_14 : decode cX0_startAnew 14 = .ok (.iconst 1, 1) := by decide +kernel
theorem dX0_startAnew_15 : decode cX0_startAnew 15 = .ok (.invokestatic 41, 3) := by decide +kernel
theorem dX0_startAnew_18 : decode cX0_startAnew 18 = .ok (.iconst 0, 1) := by decide +kernel
theorem dX0_startAnew_19 : decode cX0_startAnew 19 = .ok (.istore_n 2, 1) := by decide +kernel
theorem dX0_startAnew_20 : decode cX0_startAnew 20 = .ok (.iload_n 2, 1) := by decide +kernel
theorem dX0_startAnew_21 : decode cX0_startAnew 21 = .ok (.iconst 2, 1) := by decide +kernel
theorem dX0_startAnew_22 : decode cX0_startAnew 22 = .ok (.if_icmp .ge 43, 3) := by decide +kernel
theorem dX0_startAnew_25 : decode cX0_startAnew 25 = .ok (.aload_n 0, 1) := by decide +kernel
theorem dX0_startAnew_26 : decode cX0_startAnew 26 = .ok (.getfield 9, 3) := by decide +kernel
theorem dX0_startAnew_29 : decode cX0_startAnew 29 = .ok (.iload_n 2, 1) := by decide +kernel
theorem dX0_startAnew_30 : decode cX0_startAnew 30 = .ok (.iconst 0, 1) := by decide +kernel
theorem dX0_startAnew_31 : decode cX0_startAnew 31 = .ok (.iastore, 1) := by decide +kernel
theorem dX0_startAnew_32 : decode cX0_startAnew 32 = .ok (.aload_n 0, 1) := by decide +kernel
theorem dX0_startAnew_33 : decode cX0_startAnew 33 = .ok (.getfield 15, 3) := by decide +kernel
theorem dX0_startAnew_36 : decode cX0_startAnew 36 = .ok (.iload_n 2, 1) := by decide +kernel
theorem dX0_startAnew_37 : decode cX0_startAnew 37 = .ok (.iconst 0, 1) := by decide +kernel
theorem dX0_startAnew_38 : decode cX0_startAnew 38 = .ok (.iastore, 1) := by decide +kernel
theorem dX0_startAnew_39 : decode cX0_startAnew 39 = .ok (.aload_n 0, 1) := by decide +kernel
theorem dX0_startAnew_40 : decode cX0_startAnew 40 = .ok (.getfield 20, 3) := by decide +kernel
theorem dX0_startAnew_43 : decode cX0_startAnew 43 = .ok (.iload_n 2, 1) := by decide +kernel
theorem dX0_startAnew_44 : decode cX0_startAnew 44 = .ok (.aaload, 1) := by decide +kernel
theorem dX0_startAnew_45 : decode cX0_startAnew 45 = .ok (.iconst 0, 1) := by decide +kernel
theorem dX0_startAnew_46 : decode cX0_startAnew 46 = .ok (.invokestatic 41, 3) := by decide +kernel
theorem dX0_startAnew_49 : decode cX0_startAnew 49 = .ok (.aload_n 0, 1) := by decide +kernel
theorem dX0_startAnew_50 : decode cX0_startAnew 50 = .ok (.getfield 26, 3) := by decide +kernel
theorem dX0_startAnew_53 : decode cX0_startAnew 53 = .ok (.iload_n 2, 1) := by decide +kernel
theorem dX0_startAnew_54 : decode cX0_startAnew 54 = .ok (.aaload, 1) := by decide +kernel
theorem dX0_startAnew_55 : decode cX0_startAnew 55 = .ok (.iconst 1, 1) := by decide +kernel
theorem dX0_startAnew_56 : decode cX0_startAnew 56 = .ok (.invokestatic 41, 3) := by decide +kernel
theorem dX0_startAnew_59 : decode cX0_startAnew 59 = .ok (.iinc 2 1, 3) := by decide +kernel
theorem dX0_startAnew_62 : decode cX0_startAnew 62 = .ok (.goto (-42), 3) := by decide +kernel
theorem dX0_startAnew_65 : decode cX0_startAnew 65 = .ok (.return_, 1) := by decide +kernel
theorem dX0_copyFrom_0 : decode cX0_copyFrom 0 = .ok (.aload_n 0, 1) := by decide +kernel
theorem dX0_copyFrom_1 : decode cX0_copyFrom 1 = .ok (.aload_n 1, 1) := by decide +kernel
theorem dX0_copyFrom_2 : decode cX0_copyFrom 2 = .ok (.getfield 33, 3) := by decide +kernel
theorem dX0_copyFrom_5 : decode cX0_copyFrom 5 = .ok (.putfield 33, 3) := by decide +kernel
theorem dX0_copyFrom_8 : decode cX0_copyFrom 8 = .ok (.aload_n 0, 1) := by decide +kernel
theorem dX0_copyFrom_9 : decode cX0_copyFrom 9 = .ok (.aload_n 1, 1) := by decide +kernel
theorem dX0_copyFrom_10 : decode cX0_copyFrom 10 = .ok (.getfield 37, 3) := by decide +kernel
theorem dX0_copyFrom_13 : decode cX0_copyFrom 13 = .ok (.putfield 37, 3) := by decide +kernel
theorem dX0_copyFrom_16 : decode cX0_copyFrom 16 = .ok (.aload_n 1, 1) := by decide +kernel
theorem dX0_copyFrom_17 : decode cX0_copyFrom 17 = .ok (.getfield 23, 3) := by decide +kernel
theorem dX0_copyFrom_20 : decode cX0_copyFrom 20 = .ok (.iconst 0, 1) := by decide +kernel
theorem dX0_copyFrom_21 : decode cX0_copyFrom 21 = .ok (.aload_n 0, 1) := by decide +kernel
theorem dX0_copyFrom_22 : decode cX0_copyFrom 22 = .ok (.getfield 23, 3) := by decide +kernel
theorem dX0_copyFrom_25 : decode cX0_copyFrom 25 = .ok (.iconst 0, 1) := by decide +kernel
theorem dX0_copyFrom_26 : decode cX0_copyFrom 26 = .ok (.bipush 25, 2) := by decide +kernel
theorem dX0_copyFrom_28 : decode cX0_copyFrom 28 = .ok (.invokestatic 47, 3) := by decide +kernel
theorem dX0_copyFrom_31 : decode cX0_copyFrom 31 = .ok (.iconst 0, 1) := by decide +kernel
theorem dX0_copyFrom_32 : decode cX0_copyFrom 32 = .ok (.istore_n 2, 1) := by decide +kernel
theorem dX0_copyFrom_33 : decode cX0_copyFrom 33 = .ok (.iload_n 2, 1) := by decide +kernel
theorem dX0_copyFrom_34 : decode cX0_copyFrom 34 = .ok (.iconst 2, 1) := by decide +kernel
theorem dX0_copyFrom_35 : decode cX0_copyFrom 35 = .ok (.if_icmp .ge 71, 3) := by decide +kernel
theorem dX0_copyFrom_38 : decode cX0_copyFrom 38 = .ok (.aload_n 0, 1) := by decide +kernel
theorem dX0_copyFrom_39 : decode cX0_copyFrom 39 = .ok (.getfield 9, 3) := by decide +kernel
theorem dX0_copyFrom_42 : decode cX0_copyFrom 42 = .ok (.iload_n 2, 1) := by decide +kernel
theorem dX0_copyFrom_43 : decode cX0_copyFrom 43 = .ok (.aload_n 1, 1) := by decide +kernel
theorem dX0_copyFrom_44 : decode cX0_copyFrom 44 = .ok (.getfield 9, 3) := by decide +kernel
theorem dX0_copyFrom_47 : decode cX0_copyFrom 47 = .ok (.iload_n 2, 1) := by decide +kernel
theorem dX0_copyFrom_48 : decode cX0_copyFrom 48 = .ok (.iaload, 1) := by decide +kernel
theorem dX0_copyFrom_49 : decode cX0_copyFrom 49 = .ok (.iastore, 1) := by decide +kernel
theorem dX0_copyFrom_50 : decode cX0_copyFrom 50 = .ok (.aload_n 0, 1) := by decide +kernel
theorem dX0_copyFrom_51 : decode cX0_copyFrom 51 = .ok (.getfield 15, 3) := by decide +kernel
theorem dX0_copyFrom_54 : decode cX0_copyFrom 54 = .ok (.iload_n 2, 1) := by decide +kernel
theorem dX0_copyFrom_55 : decode cX0_copyFrom 55 = .ok (.aload_n 1, 1) := by decide +kernel
theorem dX0_copyFrom_56 : decode cX0_copyFrom 56 = .ok (.getfield 15, 3) := by decide +kernel
theorem dX0_copyFrom_59 : decode cX0_copyFrom 59 = .ok (.iload_n 2, 1) := by decide +kernel
theorem dX0_copyFrom_60 : decode cX0_copyFrom 60 = .ok (.iaload, 1) := by decide +kernel
theorem dX0_copyFrom_61 : decode cX0_copyFrom 61 = .ok (.iastore, 1) := by decide +kernel
theorem dX0_copyFrom_62 : decode cX0_copyFrom 62 = .ok (.aload_n 1, 1) := by decide +kernel
theorem dX0_copyFrom_63 : decode cX0_copyFrom 63 = .ok (.getfield 20, 3) := by decide +kernel
theorem dX0_copyFrom_66 : decode cX0_copyFrom 66 = .ok (.iload_n 2, 1) := by decide +kernel
theorem dX0_copyFrom_67 : decode cX0_copyFrom 67 = .ok (.aaload, 1) := by decide +kernel
theorem dX0_copyFrom_68 : decode cX0_copyFrom 68 = .ok (.iconst 0, 1) := by decide +kernel
theorem dX0_copyFrom_69 : decode cX0_copyFrom 69 = .ok (.aload_n 0, 1) := by decide +kernel
theorem dX0_copyFrom_70 : decode cX0_copyFrom 70 = .ok (.getfield 20, 3) := by decide +kernel
theorem dX0_copyFrom_73 : decode cX0_copyFrom 73 = .ok (.iload_n 2, 1) := by decide +kernel
theorem dX0_copyFrom_74 : decode cX0_copyFrom 74 = .ok (.aaload, 1) := by decide +kernel
theorem dX0_copyFrom_75 : decode cX0_copyFrom 75 = .ok (.iconst 0, 1) := by decide +kernel
theorem dX0_copyFrom_76 : decode cX0_copyFrom 76 = .ok (.bipush 8, 2) := by decide +kernel
theorem dX0_copyFrom_78 : decode cX0_copyFrom 78 = .ok (.invokestatic 47, 3) := by decide +kernel
theorem dX0_copyFrom_81 : decode cX0_copyFrom 81 = .ok (.aload_n 1, 1) := by decide +kernel
theorem dX0_copyFrom_82 : decode cX0_copyFrom 82 = .ok (.getfield 26, 3) := by decide +kernel
theorem dX0_copyFrom_85 : decode cX0_copyFrom 85 = .ok (.iload_n 2, 1) := by decide +kernel
theorem dX0_copyFrom_86 : decode cX0_copyFrom 86 = .ok (.aaload, 1) := by decide +kernel
theorem dX0_copyFrom_87 : decode cX0_copyFrom 87 = .ok (.iconst 0, 1) := by decide +kernel
theorem dX0_copyFrom_88 : decode cX0_copyFrom 88 = .ok (.aload_n 0, 1) := by decide +kernel
theorem dX0_copyFrom_89 : decode cX0_copyFrom 89 = .ok (.getfield 26, 3) := by decide +kernel
theorem dX0_copyFrom_92 : decode cX0_copyFrom 92 = .ok (.iload_n 2, 1) := by decide +kernel
theorem dX0_copyFrom_93 : decode cX0_copyFrom 93 = .ok (.aaload, 1) := by decide +kernel
theorem dX0_copyFrom_94 : decode cX0_copyFrom 94 = .ok (.iconst 0, 1) := by decide +kernel
theorem dX0_copyFrom_95 : decode cX0_copyFrom 95 = .ok (.bipush 12, 2) := by decide +kernel
theorem dX0_copyFrom_97 : decode cX0_copyFrom 97 = .ok (.invokestatic 47, 3) := by decide +kernel
theorem dX0_copyFrom_100 : decode cX0_copyFrom 100 = .ok (.iinc 2 1, 3) := by decide +kernel
theorem dX0_copyFrom_103 : decode cX0_copyFrom 103 = .ok (.goto (-70), 3) := by decide +kernel
theorem dX0_copyFrom_106 : decode cX0_copyFrom 106 = .ok (.return_, 1) := by decide +kernel
theorem dX0_loudOnes_0 : decode cX0_loudOnes 0 = .ok (.iconst 0, 1) := by decide +kernel
theorem dX0_loudOnes_1 : decode cX0_loudOnes 1 = .ok (.istore_n 2, 1) := by decide +kernel
theorem dX0_loudOnes_2 : decode cX0_loudOnes 2 = .ok (.iconst 0, 1) := by decide +kernel
theorem dX0_loudOnes_3 : decode cX0_loudOnes 3 = .ok (.istore_n 3, 1) := by decide +kernel
theorem dX0_loudOnes_4 : decode cX0_loudOnes 4 = .ok (.iload_n 3, 1) := by decide +kernel
theorem dX0_loudOnes_5 : decode cX0_loudOnes 5 = .ok (.aload_n 0, 1) := by decide +kernel
theorem dX0_loudOnes_6 : decode cX0_loudOnes 6 = .ok (.getfield 33, 3) := by decide +kernel
theorem dX0_loudOnes_9 : decode cX0_loudOnes 9 = .ok (.getfield 53, 3) := by decide +kernel
theorem dX0_loudOnes_12 : decode cX0_loudOnes 12 = .ok (.if_icmp .ge 37, 3) := by decide +kernel
theorem dX0_loudOnes_15 : decode cX0_loudOnes 15 = .ok (.iload_n 2, 1) := by decide +kernel
theorem dX0_loudOnes_16 : decode cX0_loudOnes 16 = .ok (.aload_n 0, 1) := by decide +kernel
theorem dX0_loudOnes_17 : decode cX0_loudOnes 17 = .ok (.getfield 9, 3) := by decide +kernel
theorem dX0_loudOnes_20 : decode cX0_loudOnes 20 = .ok (.iload_n 1, 1) := by decide +kernel
theorem dX0_loudOnes_21 : decode cX0_loudOnes 21 = .ok (.iaload, 1) := by decide +kernel
theorem dX0_loudOnes_22 : decode cX0_loudOnes 22 = .ok (.aload_n 0, 1) := by decide +kernel
theorem dX0_loudOnes_23 : decode cX0_loudOnes 23 = .ok (.getfield 33, 3) := by decide +kernel
theorem dX0_loudOnes_26 : decode cX0_loudOnes 26 = .ok (.getfield 58, 3) := by decide +kernel
theorem dX0_loudOnes_29 : decode cX0_loudOnes 29 = .ok (.iload_n 1, 1) := by decide +kernel
theorem dX0_loudOnes_30 : decode cX0_loudOnes 30 = .ok (.aaload, 1) := by decide +kernel
theorem dX0_loudOnes_31 : decode cX0_loudOnes 31 = .ok (.iload_n 3, 1) := by decide +kernel
theorem dX0_loudOnes_32 : decode cX0_loudOnes 32 = .ok (.iaload, 1) := by decide +kernel
theorem dX0_loudOnes_33 : decode cX0_loudOnes 33 = .ok (.iand, 1) := by decide +kernel
theorem dX0_loudOnes_34 : decode cX0_loudOnes 34 = .ok (.invokestatic 61, 3) := by decide +kernel
theorem dX0_loudOnes_37 : decode cX0_loudOnes 37 = .ok (.iconst 1, 1) := by decide +kernel
theorem dX0_loudOnes_38 : decode cX0_loudOnes 38 = .ok (.iand, 1) := by decide +kernel
theorem dX0_loudOnes_39 : decode cX0_loudOnes 39 = .ok (.iload_n 3, 1) := by decide +kernel
theorem dX0_loudOnes_40 : decode cX0_loudOnes 40 = .ok (.ishl, 1) := by decide +kernel
theorem dX0_loudOnes_41 : decode cX0_loudOnes 41 = .ok (.ior, 1) := by decide +kernel
theorem dX0_loudOnes_42 : decode cX0_loudOnes 42 = .ok (.istore_n 2, 1) := by decide +kernel
theorem dX0_loudOnes_43 : decode cX0_loudOnes 43 = .ok (.iinc 3 1, 3) := by decide +kernel
theorem dX0_loudOnes_46 : decode cX0_loudOnes 46 = .ok (.goto (-42), 3) := by decide +kernel
theorem dX0_loudOnes_49 : decode cX0_loudOnes 49 = .ok (.iload_n 2, 1) := by decide +kernel
theorem dX0_loudOnes_50 : decode cX0_loudOnes 50 = .ok (.ireturn, 1) := by decide +kernel
theorem dX0_readAll_0 : decode cX0_readAll 0 = .ok (.aload_n 0, 1) := by decide +kernel
theorem dX0_readAll_1 : decode cX0_readAll 1 = .ok (.getfield 37, 3) := by decide +kernel
theorem dX0_readAll_4 : decode cX0_readAll 4 = .ok (.bipush 8, 2) := by decide +kernel
theorem dX0_readAll_6 : decode cX0_readAll 6 = .ok (.if_icmp .lt 5, 3) := by decide +kernel
theorem dX0_readAll_9 : decode cX0_readAll 9 = .ok (.iconst 0, 1) := by decide +kernel
theorem dX0_readAll_10 : decode cX0_readAll 10 = .ok (.ireturn, 1) := by decide +kernel
theorem dX0_readAll_11 : decode cX0_readAll 11 = .ok (.iconst 0, 1) := by decide +kernel
theorem dX0_readAll_12 : decode cX0_readAll 12 = .ok (.istore_n 1, 1) := by decide +kernel
theorem dX0_readAll_13 : decode cX0_readAll 13 = .ok (.iload_n 1, 1) := by decide +kernel
theorem dX0_readAll_14 : decode cX0_readAll 14 = .ok (.iconst 2, 1) := by decide +kernel
theorem dX0_readAll_15 : decode cX0_readAll 15 = .ok (.if_icmp .ge 39, 3) := by decide +kernel
theorem dX0_readAll_18 : decode cX0_readAll 18 = .ok (.aload_n 0, 1) := by decide +kernel
theorem dX0_readAll_19 : decode cX0_readAll 19 = .ok (.getfield 20, 3) := by decide +kernel
theorem dX0_readAll_22 : decode cX0_readAll 22 = .ok (.iload_n 1, 1) := by decide +kernel
theorem dX0_readAll_23 : decode cX0_readAll 23 = .ok (.aaload, 1) := by decide +kernel
theorem dX0_readAll_24 : decode cX0_readAll 24 = .ok (.aload_n 0, 1) := by decide +kernel
theorem dX0_readAll_25 : decode cX0_readAll 25 = .ok (.getfield 37, 3) := by decide +kernel
theorem dX0_readAll_28 : decode cX0_readAll 28 = .ok (.aload_n 0, 1) := by decide +kernel
theorem dX0_readAll_29 : decode cX0_readAll 29 = .ok (.iload_n 1, 1) := by decide +kernel
theorem dX0_readAll_30 : decode cX0_readAll 30 = .ok (.invokevirtual 67, 3) := by decide +kernel
theorem dX0_readAll_33 : decode cX0_readAll 33 = .ok (.aload_n 0, 1) := by decide +kernel
theorem dX0_readAll_34 : decode cX0_readAll 34 = .ok (.getfield 15, 3) := by decide +kernel
theorem dX0_readAll_37 : decode cX0_readAll 37 = .ok (.iload_n 1, 1) := by decide +kernel
theorem dX0_readAll_38 : decode cX0_readAll 38 = .ok (.iaload, 1) := by decide +kernel
theorem dX0_readAll_39 : decode cX0_readAll 39 = .ok (.ixor, 1) := by decide +kernel
theorem dX0_readAll_40 : decode cX0_readAll 40 = .ok (.iastore, 1) := by decide +kernel
theorem dX0_readAll_41 : decode cX0_readAll 41 = .ok (.aload_n 0, 1) := by decide +kernel
theorem dX0_readAll_42 : decode cX0_readAll 42 = .ok (.getfield 15, 3) := by decide +kernel
theorem dX0_readAll_45 : decode cX0_readAll 45 = .ok (.iload_n 1, 1) := by decide +kernel
theorem dX0_readAll_46 : decode cX0_readAll 46 = .ok (.iconst 0, 1) := by decide +kernel
theorem dX0_readAll_47 : decode cX0_readAll 47 = .ok (.iastore, 1) := by decide +kernel
theorem dX0_readAll_48 : decode cX0_readAll 48 = .ok (.iinc 1 1, 3) := by decide +kernel
theorem dX0_readAll_51 : decode cX0_readAll 51 = .ok (.goto (-38), 3) := by decide +kernel
theorem dX0_readAll_54 : decode cX0_readAll 54 = .ok (.aload_n 0, 1) := by decide +kernel
theorem dX0_readAll_55 : decode cX0_readAll 55 = .ok (.dup, 1) := by decide +kernel
theorem dX0_readAll_56 : decode cX0_readAll 56 = .ok (.getfield 37, 3) := by decide +kernel
theorem dX0_readAll_59 : decode cX0_readAll 59 = .ok (.iconst 1, 1) := by decide +kernel
theorem dX0_readAll_60 : decode cX0_readAll 60 = .ok (.iadd, 1) := by decide +kernel
theorem dX0_readAll_61 : decode cX0_readAll 61 = .ok (.putfield 37, 3) := by decide +kernel
theorem dX0_readAll_64 : decode cX0_readAll 64 = .ok (.iconst 1, 1) := by decide +kernel
theorem dX0_readAll_65 : decode cX0_readAll 65 = .ok (.ireturn, 1) := by decide +kernel
theorem dX0_drawRounds_0 : decode cX0_drawRounds 0 = .ok (.iload_n 3, 1) := by decide +kernel
theorem dX0_drawRounds_1 : decode cX0_drawRounds 1 = .ok (.istore 4, 2) := by decide +kernel
theorem dX0_drawRounds_3 : decode cX0_drawRounds 3 = .ok (.iconst 0, 1) := by decide +kernel
theorem dX0_drawRounds_4 : decode cX0_drawRounds 4 = .ok (.istore 5, 2) := by decide +kernel
theorem dX0_drawRounds_6 : decode cX0_drawRounds 6 = .ok (.iconst 0, 1) := by decide +kernel
theorem dX0_drawRounds_7 : decode cX0_drawRounds 7 = .ok (.istore 6, 2) := by decide +kernel
theorem dX0_drawRounds_9 : decode cX0_drawRounds 9 = .ok (.iload 6, 2) := by decide +kernel
theorem dX0_drawRounds_11 : decode cX0_drawRounds 11 = .ok (.iload_n 1, 1) := by decide +kernel
theorem dX0_drawRounds_12 : decode cX0_drawRounds 12 = .ok (.if_icmp .ge 129, 3) := by decide +kernel
theorem dX0_drawRounds_15 : decode cX0_drawRounds 15 = .ok (.iconst 0, 1) := by decide +kernel
theorem dX0_drawRounds_16 : decode cX0_drawRounds 16 = .ok (.istore 7, 2) := by decide +kernel
theorem dX0_drawRounds_18 : decode cX0_drawRounds 18 = .ok (.iload 7, 2) := by decide +kernel
theorem dX0_drawRounds_20 : decode cX0_drawRounds 20 = .ok (.aload_n 0, 1) := by decide +kernel
theorem dX0_drawRounds_21 : decode cX0_drawRounds 21 = .ok (.getfield 33, 3) := by decide +kernel
theorem dX0_drawRounds_24 : decode cX0_drawRounds 24 = .ok (.getfield 70, 3) := by decide +kernel
theorem dX0_drawRounds_27 : decode cX0_drawRounds 27 = .ok (.if_icmp .ge 33, 3) := by decide +kernel
theorem dX0_drawRounds_30 : decode cX0_drawRounds 30 = .ok (.iload 4, 2) := by decide +kernel
theorem dX0_drawRounds_32 : decode cX0_drawRounds 32 = .ok (.invokestatic 73, 3) := by decide +kernel
theorem dX0_drawRounds_35 : decode cX0_drawRounds 35 = .ok (.istore 4, 2) := by decide +kernel
theorem dX0_drawRounds_37 : decode cX0_drawRounds 37 = .ok (.iload 5, 2) := by decide +kernel
theorem dX0_drawRounds_39 : decode cX0_drawRounds 39 = .ok (.aload_n 0, 1) := by decide +kernel
theorem dX0_drawRounds_40 : decode cX0_drawRounds 40 = .ok (.iload 4, 2) := by decide +kernel
theorem dX0_drawRounds_42 : decode cX0_drawRounds 42 = .ok (.invokestatic 76, 3) := by decide +kernel
theorem dX0_drawRounds_45 : decode cX0_drawRounds 45 = .ok (.iload_n 2, 1) := by decide +kernel
theorem dX0_drawRounds_46 : decode cX0_drawRounds 46 = .ok (.iload 7, 2) := by decide +kernel
theorem dX0_drawRounds_48 : decode cX0_drawRounds 48 = .ok (.invokevirtual 79, 3) := by decide +kernel
theorem dX0_drawRounds_51 : decode cX0_drawRounds 51 = .ok (.iadd, 1) := by decide +kernel
theorem dX0_drawRounds_52 : decode cX0_drawRounds 52 = .ok (.istore 5, 2) := by decide +kernel
theorem dX0_drawRounds_54 : decode cX0_drawRounds 54 = .ok (.iinc 7 1, 3) := by decide +kernel
theorem dX0_drawRounds_57 : decode cX0_drawRounds 57 = .ok (.goto (-39), 3) := by decide +kernel
theorem dX0_drawRounds_60 : decode cX0_drawRounds 60 = .ok (.iconst 0, 1) := by decide +kernel
theorem dX0_drawRounds_61 : decode cX0_drawRounds 61 = .ok (.istore 7, 2) := by decide +kernel
theorem dX0_drawRounds_63 : decode cX0_drawRounds 63 = .ok (.iload 7, 2) := by decide +kernel
theorem dX0_drawRounds_65 : decode cX0_drawRounds 65 = .ok (.iconst 2, 1) := by decide +kernel
theorem dX0_drawRounds_66 : decode cX0_drawRounds 66 = .ok (.if_icmp .ge 64, 3) := by decide +kernel
theorem dX0_drawRounds_69 : decode cX0_drawRounds 69 = .ok (.iconst 0, 1) := by decide +kernel
theorem dX0_drawRounds_70 : decode cX0_drawRounds 70 = .ok (.istore 8, 2) := by decide +kernel
theorem dX0_drawRounds_72 : decode cX0_drawRounds 72 = .ok (.iload 8, 2) := by decide +kernel
theorem dX0_drawRounds_74 : decode cX0_drawRounds 74 = .ok (.aload_n 0, 1) := by decide +kernel
theorem dX0_drawRounds_75 : decode cX0_drawRounds 75 = .ok (.getfield 33, 3) := by decide +kernel
theorem dX0_drawRounds_78 : decode cX0_drawRounds 78 = .ok (.getfield 53, 3) := by decide +kernel
theorem dX0_drawRounds_81 : decode cX0_drawRounds 81 = .ok (.if_icmp .ge 43, 3) := by decide +kernel
theorem dX0_drawRounds_84 : decode cX0_drawRounds 84 = .ok (.iload 4, 2) := by decide +kernel
theorem dX0_drawRounds_86 : decode cX0_drawRounds 86 = .ok (.invokestatic 73, 3) := by decide +kernel
theorem dX0_drawRounds_89 : decode cX0_drawRounds 89 = .ok (.istore 4, 2) := by decide +kernel
theorem dX0_drawRounds_91 : decode cX0_drawRounds 91 = .ok (.aload_n 0, 1) := by decide +kernel
theorem dX0_drawRounds_92 : decode cX0_drawRounds 92 = .ok (.getfield 15, 3) := by decide +kernel
theorem dX0_drawRounds_95 : decode cX0_drawRounds 95 = .ok (.iload 7, 2) := by decide +kernel
theorem dX0_drawRounds_97 : decode cX0_drawRounds 97 = .ok (.dup2, 1) := by decide +kernel
theorem dX0_drawRounds_98 : decode cX0_drawRounds 98 = .ok (.iaload, 1) := by decide +kernel
theorem dX0_drawRounds_99 : decode cX0_drawRounds 99 = .ok (.iload 4, 2) := by decide +kernel
theorem dX0_drawRounds_101 : decode cX0_drawRounds 101 = .ok (.invokestatic 76, 3) := by decide +kernel
theorem dX0_drawRounds_104 : decode cX0_drawRounds 104 = .ok (.iload_n 2, 1) := by decide +kernel
theorem dX0_drawRounds_105 : decode cX0_drawRounds 105 = .ok (.if_icmp .ge 10, 3) := by decide +kernel
theorem dX0_drawRounds_108 : decode cX0_drawRounds 108 = .ok (.iconst 1, 1) := by decide +kernel
theorem dX0_drawRounds_109 : decode cX0_drawRounds 109 = .ok (.iload 8, 2) := by decide +kernel
theorem dX0_drawRounds_111 : decode cX0_drawRounds 111 = .ok (.ishl, 1) := by decide +kernel
theorem dX0_drawRounds_112 : decode cX0_drawRounds 112 = .ok (.goto 4, 3) := by decide +kernel
theorem dX0_drawRounds_115 : decode cX0_drawRounds 115 = .ok (.iconst 0, 1) := by decide +kernel
theorem dX0_drawRounds_116 : decode cX0_drawRounds 116 = .ok (.ixor, 1) := by decide +kernel
theorem dX0_drawRounds_117 : decode cX0_drawRounds 117 = .ok (.iastore, 1) := by decide +kernel
theorem dX0_drawRounds_118 : decode cX0_drawRounds 118 = .ok (.iinc 8 1, 3) := by decide +kernel
theorem dX0_drawRounds_121 : decode cX0_drawRounds 121 = .ok (.goto (-49), 3) := by decide +kernel
theorem dX0_drawRounds_124 : decode cX0_drawRounds 124 = .ok (.iinc 7 1, 3) := by decide +kernel
theorem dX0_drawRounds_127 : decode cX0_drawRounds 127 = .ok (.goto (-64), 3) := by decide +kernel
theorem dX0_drawRounds_130 : decode cX0_drawRounds 130 = .ok (.aload_n 0, 1) := by decide +kernel
theorem dX0_drawRounds_131 : decode cX0_drawRounds 131 = .ok (.invokevirtual 83, 3) := by decide +kernel
theorem dX0_drawRounds_134 : decode cX0_drawRounds 134 = .ok (.pop, 1) := by decide +kernel
theorem dX0_drawRounds_135 : decode cX0_drawRounds 135 = .ok (.iinc 6 1, 3) := by decide +kernel
theorem dX0_drawRounds_138 : decode cX0_drawRounds 138 = .ok (.goto (-129), 3) := by decide +kernel
theorem dX0_drawRounds_141 : decode cX0_drawRounds 141 = .ok (.iload 5, 2) := by decide +kernel
theorem dX0_drawRounds_143 : decode cX0_drawRounds 143 = .ok (.ireturn, 1) := by decide +kernel
theorem dX0_drawBehind_0 : decode cX0_drawBehind 0 = .ok (.iload_n 0, 1) := by decide +kernel
theorem dX0_drawBehind_1 : decode cX0_drawBehind 1 = .ok (.ldc 87, 2) := by decide +kernel
theorem dX0_drawBehind_3 : decode cX0_drawBehind 3 = .ok (.imul, 1) := by decide +kernel
theorem dX0_drawBehind_4 : decode cX0_drawBehind 4 = .ok (.sipush 12345, 3) := by decide +kernel
theorem dX0_drawBehind_7 : decode cX0_drawBehind 7 = .ok (.iadd, 1) := by decide +kernel
theorem dX0_drawBehind_8 : decode cX0_drawBehind 8 = .ok (.ireturn, 1) := by decide +kernel
theorem dX0_drawOf_0 : decode cX0_drawOf 0 = .ok (.iload_n 0, 1) := by decide +kernel
theorem dX0_drawOf_1 : decode cX0_drawOf 1 = .ok (.bipush 8, 2) := by decide +kernel
theorem dX0_drawOf_3 : decode cX0_drawOf 3 = .ok (.iushr, 1) := by decide +kernel
theorem dX0_drawOf_4 : decode cX0_drawOf 4 = .ok (.bipush 64, 2) := by decide +kernel
theorem dX0_drawOf_6 : decode cX0_drawOf 6 = .ok (.irem, 1) := by decide +kernel
theorem dX0_drawOf_7 : decode cX0_drawOf 7 = .ok (.ireturn, 1) := by decide +kernel
theorem dX0_slipByDraw_0 : decode cX0_slipByDraw 0 = .ok (.iload_n 1, 1) := by decide +kernel
theorem dX0_slipByDraw_1 : decode cX0_slipByDraw 1 = .ok (.iconst 3, 1) := by decide +kernel
theorem dX0_slipByDraw_2 : decode cX0_slipByDraw 2 = .ok (.iload_n 2, 1) := by decide +kernel
theorem dX0_slipByDraw_3 : decode cX0_slipByDraw 3 = .ok (.imul, 1) := by decide +kernel
theorem dX0_slipByDraw_4 : decode cX0_slipByDraw 4 = .ok (.if_icmp .lt 5, 3) := by decide +kernel
theorem dX0_slipByDraw_7 : decode cX0_slipByDraw 7 = .ok (.iconst 0, 1) := by decide +kernel
theorem dX0_slipByDraw_8 : decode cX0_slipByDraw 8 = .ok (.ireturn, 1) := by decide +kernel
theorem dX0_slipByDraw_9 : decode cX0_slipByDraw 9 = .ok (.iload_n 1, 1) := by decide +kernel
theorem dX0_slipByDraw_10 : decode cX0_slipByDraw 10 = .ok (.iconst 2, 1) := by decide +kernel
theorem dX0_slipByDraw_11 : decode cX0_slipByDraw 11 = .ok (.iload_n 2, 1) := by decide +kernel
theorem dX0_slipByDraw_12 : decode cX0_slipByDraw 12 = .ok (.imul, 1) := by decide +kernel
theorem dX0_slipByDraw_13 : decode cX0_slipByDraw 13 = .ok (.if_icmp .lt 7, 3) := by decide +kernel
theorem dX0_slipByDraw_16 : decode cX0_slipByDraw 16 = .ok (.iconst 1, 1) := by decide +kernel
theorem dX0_slipByDraw_17 : decode cX0_slipByDraw 17 = .ok (.goto 4, 3) := by decide +kernel
theorem dX0_slipByDraw_20 : decode cX0_slipByDraw 20 = .ok (.iconst 0, 1) := by decide +kernel
theorem dX0_slipByDraw_21 : decode cX0_slipByDraw 21 = .ok (.istore 4, 2) := by decide +kernel
theorem dX0_slipByDraw_23 : decode cX0_slipByDraw 23 = .ok (.iload 4, 2) := by decide +kernel
theorem dX0_slipByDraw_25 : decode cX0_slipByDraw 25 = .ok (.ifCond .ne 8, 3) := by decide +kernel
theorem dX0_slipByDraw_28 : decode cX0_slipByDraw 28 = .ok (.iload_n 1, 1) := by decide +kernel
theorem dX0_slipByDraw_29 : decode cX0_slipByDraw 29 = .ok (.iload_n 2, 1) := by decide +kernel
theorem dX0_slipByDraw_30 : decode cX0_slipByDraw 30 = .ok (.if_icmp .ge 15, 3) := by decide +kernel
theorem dX0_slipByDraw_33 : decode cX0_slipByDraw 33 = .ok (.aload_n 0, 1) := by decide +kernel
theorem dX0_slipByDraw_34 : decode cX0_slipByDraw 34 = .ok (.getfield 9, 3) := by decide +kernel
theorem dX0_slipByDraw_37 : decode cX0_slipByDraw 37 = .ok (.iconst 0, 1) := by decide +kernel
theorem dX0_slipByDraw_38 : decode cX0_slipByDraw 38 = .ok (.dup2, 1) := by decide +kernel
theorem dX0_slipByDraw_39 : decode cX0_slipByDraw 39 = .ok (.iaload, 1) := by decide +kernel
theorem dX0_slipByDraw_40 : decode cX0_slipByDraw 40 = .ok (.iconst 1, 1) := by decide +kernel
theorem dX0_slipByDraw_41 : decode cX0_slipByDraw 41 = .ok (.iload_n 3, 1) := by decide +kernel
theorem dX0_slipByDraw_42 : decode cX0_slipByDraw 42 = .ok (.ishl, 1) := by decide +kernel
theorem dX0_slipByDraw_43 : decode cX0_slipByDraw 43 = .ok (.ixor, 1) := by decide +kernel
theorem dX0_slipByDraw_44 : decode cX0_slipByDraw 44 = .ok (.iastore, 1) := by decide +kernel
theorem dX0_slipByDraw_45 : decode cX0_slipByDraw 45 = .ok (.iload 4, 2) := by decide +kernel
theorem dX0_slipByDraw_47 : decode cX0_slipByDraw 47 = .ok (.ifCond .ne 8, 3) := by decide +kernel
theorem dX0_slipByDraw_50 : decode cX0_slipByDraw 50 = .ok (.iload_n 1, 1) := by decide +kernel
theorem dX0_slipByDraw_51 : decode cX0_slipByDraw 51 = .ok (.iload_n 2, 1) := by decide +kernel
theorem dX0_slipByDraw_52 : decode cX0_slipByDraw 52 = .ok (.if_icmp .lt 15, 3) := by decide +kernel
theorem dX0_slipByDraw_55 : decode cX0_slipByDraw 55 = .ok (.aload_n 0, 1) := by decide +kernel
theorem dX0_slipByDraw_56 : decode cX0_slipByDraw 56 = .ok (.getfield 9, 3) := by decide +kernel
theorem dX0_slipByDraw_59 : decode cX0_slipByDraw 59 = .ok (.iconst 1, 1) := by decide +kernel
theorem dX0_slipByDraw_60 : decode cX0_slipByDraw 60 = .ok (.dup2, 1) := by decide +kernel
theorem dX0_slipByDraw_61 : decode cX0_slipByDraw 61 = .ok (.iaload, 1) := by decide +kernel
theorem dX0_slipByDraw_62 : decode cX0_slipByDraw 62 = .ok (.iconst 1, 1) := by decide +kernel
theorem dX0_slipByDraw_63 : decode cX0_slipByDraw 63 = .ok (.iload_n 3, 1) := by decide +kernel
theorem dX0_slipByDraw_64 : decode cX0_slipByDraw 64 = .ok (.ishl, 1) := by decide +kernel
theorem dX0_slipByDraw_65 : decode cX0_slipByDraw 65 = .ok (.ixor, 1) := by decide +kernel
theorem dX0_slipByDraw_66 : decode cX0_slipByDraw 66 = .ok (.iastore, 1) := by decide +kernel
theorem dX0_slipByDraw_67 : decode cX0_slipByDraw 67 = .ok (.iload 4, 2) := by decide +kernel
theorem dX0_slipByDraw_69 : decode cX0_slipByDraw 69 = .ok (.ifCond .eq 7, 3) := by decide +kernel
theorem dX0_slipByDraw_72 : decode cX0_slipByDraw 72 = .ok (.iconst 2, 1) := by decide +kernel
theorem dX0_slipByDraw_73 : decode cX0_slipByDraw 73 = .ok (.goto 4, 3) := by decide +kernel
theorem dX0_slipByDraw_76 : decode cX0_slipByDraw 76 = .ok (.iconst 1, 1) := by decide +kernel
theorem dX0_slipByDraw_77 : decode cX0_slipByDraw 77 = .ok (.ireturn, 1) := by decide +kernel
theorem dX1_init_0 : decode cX1_init 0 = .ok (.aload_n 0, 1) := by decide +kernel
theorem dX1_init_1 : decode cX1_init 1 = .ok (.invokespecial 3, 3) := by decide +kernel
theorem dX1_init_4 : decode cX1_init 4 = .ok (.aload_n 0, 1) := by decide +kernel
theorem dX1_init_5 : decode cX1_init 5 = .ok (.sipush 321, 3) := by decide +kernel
theorem dX1_init_8 : decode cX1_init 8 = .ok (.newarray .int, 2) := by decide +kernel
theorem dX1_init_10 : decode cX1_init 10 = .ok (.putfield 9, 3) := by decide +kernel
theorem dX1_init_13 : decode cX1_init 13 = .ok (.aload_n 0, 1) := by decide +kernel
theorem dX1_init_14 : decode cX1_init 14 = .ok (.sipush 321, 3) := by decide +kernel
theorem dX1_init_17 : decode cX1_init 17 = .ok (.newarray .int, 2) := by decide +kernel
theorem dX1_init_19 : decode cX1_init 19 = .ok (.putfield 15, 3) := by decide +kernel
theorem dX1_init_22 : decode cX1_init 22 = .ok (.aload_n 0, 1) := by decide +kernel
theorem dX1_init_23 : decode cX1_init 23 = .ok (.sipush 321, 3) := by decide +kernel
theorem dX1_init_26 : decode cX1_init 26 = .ok (.newarray .int, 2) := by decide +kernel
theorem dX1_init_28 : decode cX1_init 28 = .ok (.putfield 18, 3) := by decide +kernel
theorem dX1_init_31 : decode cX1_init 31 = .ok (.aload_n 0, 1) := by decide +kernel
theorem dX1_init_32 : decode cX1_init 32 = .ok (.bipush 109, 2) := by decide +kernel
theorem dX1_init_34 : decode cX1_init 34 = .ok (.newarray .int, 2) := by decide +kernel
theorem dX1_init_36 : decode cX1_init 36 = .ok (.putfield 21, 3) := by decide +kernel
theorem dX1_init_39 : decode cX1_init 39 = .ok (.aload_n 0, 1) := by decide +kernel
theorem dX1_init_40 : decode cX1_init 40 = .ok (.bipush 109, 2) := by decide +kernel
theorem dX1_init_42 : decode cX1_init 42 = .ok (.newarray .int, 2) := by decide +kernel
theorem dX1_init_44 : decode cX1_init 44 = .ok (.putfield 24, 3) := by decide +kernel
theorem dX1_init_47 : decode cX1_init 47 = .ok (.aload_n 0, 1) := by decide +kernel
theorem dX1_init_48 : decode cX1_init 48 = .ok (.bipush 109, 2) := by decide +kernel
theorem dX1_init_50 : decode cX1_init 50 = .ok (.newarray .int, 2) := by decide +kernel
theorem dX1_init_52 : decode cX1_init 52 = .ok (.putfield 27, 3) := by decide +kernel
theorem dX1_init_55 : decode cX1_init 55 = .ok (.aload_n 0, 1) := by decide +kernel
theorem dX1_init_56 : decode cX1_init 56 = .ok (.bipush 109, 2) := by decide +kernel
theorem dX1_init_58 : decode cX1_init 58 = .ok (.newarray .int, 2) := by decide +kernel
theorem dX1_init_60 : decode cX1_init 60 = .ok (.putfield 30, 3) := by decide +kernel
theorem dX1_init_63 : decode cX1_init 63 = .ok (.aload_n 0, 1) := by decide +kernel
theorem dX1_init_64 : decode cX1_init 64 = .ok (.bipush 109, 2) := by decide +kernel
theorem dX1_init_66 : decode cX1_init 66 = .ok (.newarray .int, 2) := by decide +kernel
theorem dX1_init_68 : decode cX1_init 68 = .ok (.putfield 33, 3) := by decide +kernel
theorem dX1_init_71 : decode cX1_init 71 = .ok (.return_, 1) := by decide +kernel
theorem dX1_growClumps_0 : decode cX1_growClumps 0 = .ok (.aload_n 0, 1) := by decide +kernel
theorem dX1_growClumps_1 : decode cX1_growClumps 1 = .ok (.getfield 15, 3) := by decide +kernel
theorem dX1_growClumps_4 : decode cX1_growClumps 4 = .ok (.iconst 0, 1) := by decide +kernel
theorem dX1_growClumps_5 : decode cX1_growClumps 5 = .ok (.invokestatic 36, 3) := by decide +kernel
theorem dX1_growClumps_8 : decode cX1_growClumps 8 = .ok (.aload_n 0, 1) := by decide +kernel
theorem dX1_growClumps_9 : decode cX1_growClumps 9 = .ok (.getfield 18, 3) := by decide +kernel
theorem dX1_growClumps_12 : decode cX1_growClumps 12 = .ok (.iconst 0, 1) := by decide +kernel
theorem dX1_growClumps_13 : decode cX1_growClumps 13 = .ok (.invokestatic 36, 3) := by decide +kernel
theorem dX1_growClumps_16 : decode cX1_growClumps 16 = .ok (.aload_n 0, 1) := by decide +kernel
theorem dX1_growClumps_17 : decode cX1_growClumps 17 = .ok (.iconst 0, 1) := by decide +kernel
theorem dX1_growClumps_18 : decode cX1_growClumps 18 = .ok (.putfield 42, 3) := by decide +kernel
theorem dX1_growClumps_21 : decode cX1_growClumps 21 = .ok (.aload_n 0, 1) := by decide +kernel
theorem dX1_growClumps_22 : decode cX1_growClumps 22 = .ok (.aload_n 1, 1) := by decide +kernel
theorem dX1_growClumps_23 : decode cX1_growClumps 23 = .ok (.invokevirtual 46, 3) := by decide +kernel
theorem dX1_growClumps_26 : decode cX1_growClumps 26 = .ok (.aload_n 0, 1) := by decide +kernel
theorem dX1_growClumps_27 : decode cX1_growClumps 27 = .ok (.aload_n 1, 1) := by decide +kernel
theorem dX1_growClumps_28 : decode cX1_growClumps 28 = .ok (.invokevirtual 50, 3) := by decide +kernel
theorem dX1_growClumps_31 : decode cX1_growClumps 31 = .ok (.aload_n 0, 1) := by decide +kernel
theorem dX1_growClumps_32 : decode cX1_growClumps 32 = .ok (.iconst 0, 1) := by decide +kernel
theorem dX1_growClumps_33 : decode cX1_growClumps 33 = .ok (.putfield 53, 3) := by decide +kernel
theorem dX1_growClumps_36 : decode cX1_growClumps 36 = .ok (.aload_n 0, 1) := by decide +kernel
theorem dX1_growClumps_37 : decode cX1_growClumps 37 = .ok (.getfield 53, 3) := by decide +kernel
theorem dX1_growClumps_40 : decode cX1_growClumps 40 = .ok (.ldc 56, 2) := by decide +kernel
theorem dX1_growClumps_42 : decode cX1_growClumps 42 = .ok (.if_icmp .ge 34, 3) := by decide +kernel
theorem dX1_growClumps_45 : decode cX1_growClumps 45 = .ok (.aload_n 0, 1) := by decide +kernel
theorem dX1_growClumps_46 : decode cX1_growClumps 46 = .ok (.aload_n 1, 1) := by decide +kernel
theorem dX1_growClumps_47 : decode cX1_growClumps 47 = .ok (.invokevirtual 57, 3) := by decide +kernel
theorem dX1_growClumps_50 : decode cX1_growClumps 50 = .ok (.ifCond .eq 26, 3) := by decide +kernel
theorem dX1_growClumps_53 : decode cX1_growClumps 53 = .ok (.aload_n 0, 1) := by decide +kernel
theorem dX1_growClumps_54 : decode cX1_growClumps 54 = .ok (.aload_n 1, 1) := by decide +kernel
theorem dX1_growClumps_55 : decode cX1_growClumps 55 = .ok (.invokevirtual 61, 3) := by decide +kernel
theorem dX1_growClumps_58 : decode cX1_growClumps 58 = .ok (.aload_n 0, 1) := by decide +kernel
theorem dX1_growClumps_59 : decode cX1_growClumps 59 = .ok (.aload_n 1, 1) := by decide +kernel
theorem dX1_growClumps_60 : decode cX1_growClumps 60 = .ok (.invokevirtual 64, 3) := by decide +kernel
theorem dX1_growClumps_63 : decode cX1_growClumps 63 = .ok (.aload_n 0, 1) := by decide +kernel
theorem dX1_growClumps_64 : decode cX1_growClumps 64 = .ok (.dup, 1) := by decide +kernel
theorem dX1_growClumps_65 : decode cX1_growClumps 65 = .ok (.getfield 53, 3) := by decide +kernel
theorem dX1_growClumps_68 : decode cX1_growClumps 68 = .ok (.iconst 1, 1) := by decide +kernel
theorem dX1_growClumps_69 : decode cX1_growClumps 69 = .ok (.iadd, 1) := by decide +kernel
theorem dX1_growClumps_70 : decode cX1_growClumps 70 = .ok (.putfield 53, 3) := by decide +kernel
theorem dX1_growClumps_73 : decode cX1_growClumps 73 = .ok (.goto (-37), 3) := by decide +kernel
theorem dX1_growClumps_76 : decode cX1_growClumps 76 = .ok (.return_, 1) := by decide +kernel
theorem dX1_partAll_0 : decode cX1_partAll 0 = .ok (.iconst 0, 1) := by decide +kernel
theorem dX1_partAll_1 : decode cX1_partAll 1 = .ok (.istore_n 2, 1) := by decide +kernel
theorem dX1_partAll_2 : decode cX1_partAll 2 = .ok (.iload_n 2, 1) := by decide +kernel
theorem dX1_partAll_3 : decode cX1_partAll 3 = .ok (.aload_n 1, 1) := by decide +kernel
theorem dX1_partAll_4 : decode cX1_partAll 4 = .ok (.getfield 67, 3) := by decide +kernel
theorem dX1_partAll_7 : decode cX1_partAll 7 = .ok (.if_icmp .gt 16, 3) := by decide +kernel
theorem dX1_partAll_10 : decode cX1_partAll 10 = .ok (.aload_n 0, 1) := by decide +kernel
theorem dX1_partAll_11 : decode cX1_partAll 11 = .ok (.getfield 21, 3) := by decide +kernel
theorem dX1_partAll_14 : decode cX1_partAll 14 = .ok (.iload_n 2, 1) := by decide +kernel
theorem dX1_partAll_15 : decode cX1_partAll 15 = .ok (.iload_n 2, 1) := by decide +kernel
theorem dX1_partAll_16 : decode cX1_partAll 16 = .ok (.iastore, 1) := by decide +kernel
theorem dX1_partAll_17 : decode cX1_partAll 17 = .ok (.iinc 2 1, 3) := by decide +kernel
theorem dX1_partAll_20 : decode cX1_partAll 20 = .ok (.goto (-18), 3) := by decide +kernel
theorem dX1_partAll_23 : decode cX1_partAll 23 = .ok (.return_, 1) := by decide +kernel
theorem dX1_markEvents_0 : decode cX1_markEvents 0 = .ok (.aload_n 0, 1) := by decide +kernel
theorem dX1_markEvents_1 : decode cX1_markEvents 1 = .ok (.getfield 24, 3) := by decide +kernel
theorem dX1_markEvents_4 : decode cX1_markEvents 4 = .ok (.iconst 0, 1) := by decide +kernel
theorem dX1_markEvents_5 : decode cX1_markEvents 5 = .ok (.invokestatic 36, 3) := by decide +kernel
theorem dX1_markEvents_8 : decode cX1_markEvents 8 = .ok (.iconst 0, 1) := by decide +kernel
theorem dX1_markEvents_9 : decode cX1_markEvents 9 = .ok (.istore_n 2, 1) := by decide +kernel
theorem dX1_markEvents_10 : decode cX1_markEvents 10 = .ok (.iload_n 2, 1) := by decide +kernel
theorem dX1_markEvents_11 : decode cX1_markEvents 11 = .ok (.aload_n 1, 1) := by decide +kernel
theorem dX1_markEvents_12 : decode cX1_markEvents 12 = .ok (.getfield 72, 3) := by decide +kernel
theorem dX1_markEvents_15 : decode cX1_markEvents 15 = .ok (.if_icmp .ge 21, 3) := by decide +kernel
theorem dX1_markEvents_18 : decode cX1_markEvents 18 = .ok (.aload_n 0, 1) := by decide +kernel
theorem dX1_markEvents_19 : decode cX1_markEvents 19 = .ok (.getfield 24, 3) := by decide +kernel
theorem dX1_markEvents_22 : decode cX1_markEvents 22 = .ok (.aload_n 1, 1) := by decide +kernel
theorem dX1_markEvents_23 : decode cX1_markEvents 23 = .ok (.getfield 75, 3) := by decide +kernel
theorem dX1_markEvents_26 : decode cX1_markEvents 26 = .ok (.iload_n 2, 1) := by decide +kernel
theorem dX1_markEvents_27 : decode cX1_markEvents 27 = .ok (.iaload, 1) := by decide +kernel
theorem dX1_markEvents_28 : decode cX1_markEvents 28 = .ok (.iconst 1, 1) := by decide +kernel
theorem dX1_markEvents_29 : decode cX1_markEvents 29 = .ok (.iastore, 1) := by decide +kernel
theorem dX1_markEvents_30 : decode cX1_markEvents 30 = .ok (.iinc 2 1, 3) := by decide +kernel
theorem dX1_markEvents_33 : decode cX1_markEvents 33 = .ok (.goto (-23), 3) := by decide +kernel
theorem dX1_markEvents_36 : decode cX1_markEvents 36 = .ok (.return_, 1) := by decide +kernel
theorem dX1_rootOf_0 : decode cX1_rootOf 0 = .ok (.iload_n 1, 1) := by decide +kernel
theorem dX1_rootOf_1 : decode cX1_rootOf 1 = .ok (.istore_n 2, 1) := by decide +kernel
theorem dX1_rootOf_2 : decode cX1_rootOf 2 = .ok (.iconst 0, 1) := by decide +kernel
theorem dX1_rootOf_3 : decode cX1_rootOf 3 = .ok (.istore_n 3, 1) := by decide +kernel
theorem dX1_rootOf_4 : decode cX1_rootOf 4 = .ok (.iload_n 3, 1) := by decide +kernel
theorem dX1_rootOf_5 : decode cX1_rootOf 5 = .ok (.bipush 108, 2) := by decide +kernel
theorem dX1_rootOf_7 : decode cX1_rootOf 7 = .ok (.if_icmp .gt 43, 3) := by decide +kernel
theorem dX1_rootOf_10 : decode cX1_rootOf 10 = .ok (.aload_n 0, 1) := by decide +kernel
theorem dX1_rootOf_11 : decode cX1_rootOf 11 = .ok (.getfield 21, 3) := by decide +kernel
theorem dX1_rootOf_14 : decode cX1_rootOf 14 = .ok (.iload_n 2, 1) := by decide +kernel
theorem dX1_rootOf_15 : decode cX1_rootOf 15 = .ok (.iaload, 1) := by decide +kernel
theorem dX1_rootOf_16 : decode cX1_rootOf 16 = .ok (.iload_n 2, 1) := by decide +kernel
theorem dX1_rootOf_17 : decode cX1_rootOf 17 = .ok (.if_icmp .eq 33, 3) := by decide +kernel
theorem dX1_rootOf_20 : decode cX1_rootOf 20 = .ok (.aload_n 0, 1) := by decide +kernel
theorem dX1_rootOf_21 : decode cX1_rootOf 21 = .ok (.getfield 21, 3) := by decide +kernel
theorem dX1_rootOf_24 : decode cX1_rootOf 24 = .ok (.iload_n 2, 1) := by decide +kernel
theorem dX1_rootOf_25 : decode cX1_rootOf 25 = .ok (.aload_n 0, 1) := by decide +kernel
theorem dX1_rootOf_26 : decode cX1_rootOf 26 = .ok (.getfield 21, 3) := by decide +kernel
theorem dX1_rootOf_29 : decode cX1_rootOf 29 = .ok (.aload_n 0, 1) := by decide +kernel
theorem dX1_rootOf_30 : decode cX1_rootOf 30 = .ok (.getfield 21, 3) := by decide +kernel
theorem dX1_rootOf_33 : decode cX1_rootOf 33 = .ok (.iload_n 2, 1) := by decide +kernel
theorem dX1_rootOf_34 : decode cX1_rootOf 34 = .ok (.iaload, 1) := by decide +kernel
theorem dX1_rootOf_35 : decode cX1_rootOf 35 = .ok (.iaload, 1) := by decide +kernel
theorem dX1_rootOf_36 : decode cX1_rootOf 36 = .ok (.iastore, 1) := by decide +kernel
theorem dX1_rootOf_37 : decode cX1_rootOf 37 = .ok (.aload_n 0, 1) := by decide +kernel
theorem dX1_rootOf_38 : decode cX1_rootOf 38 = .ok (.getfield 21, 3) := by decide +kernel
theorem dX1_rootOf_41 : decode cX1_rootOf 41 = .ok (.iload_n 2, 1) := by decide +kernel
theorem dX1_rootOf_42 : decode cX1_rootOf 42 = .ok (.iaload, 1) := by decide +kernel
theorem dX1_rootOf_43 : decode cX1_rootOf 43 = .ok (.istore_n 2, 1) := by decide +kernel
theorem dX1_rootOf_44 : decode cX1_rootOf 44 = .ok (.iinc 3 1, 3) := by decide +kernel
theorem dX1_rootOf_47 : decode cX1_rootOf 47 = .ok (.goto (-43), 3) := by decide +kernel
theorem dX1_rootOf_50 : decode cX1_rootOf 50 = .ok (.iload_n 2, 1) := by decide +kernel
theorem dX1_rootOf_51 : decode cX1_rootOf 51 = .ok (.ireturn, 1) := by decide +kernel
theorem dX1_findOpen_0 : decode cX1_findOpen 0 = .ok (.aload_n 0, 1) := by decide +kernel
theorem dX1_findOpen_1 : decode cX1_findOpen 1 = .ok (.aload_n 1, 1) := by decide +kernel
theorem dX1_findOpen_2 : decode cX1_findOpen 2 = .ok (.getfield 67, 3) := by decide +kernel
theorem dX1_findOpen_5 : decode cX1_findOpen 5 = .ok (.invokevirtual 78, 3) := by decide +kernel
theorem dX1_findOpen_8 : decode cX1_findOpen 8 = .ok (.istore_n 2, 1) := by decide +kernel
theorem dX1_findOpen_9 : decode cX1_findOpen 9 = .ok (.iconst 0, 1) := by decide +kernel
theorem dX1_findOpen_10 : decode cX1_findOpen 10 = .ok (.istore_n 3, 1) := by decide +kernel
theorem dX1_findOpen_11 : decode cX1_findOpen 11 = .ok (.iconst 0, 1) := by decide +kernel
theorem dX1_findOpen_12 : decode cX1_findOpen 12 = .ok (.istore 4, 2) := by decide +kernel
theorem dX1_findOpen_14 : decode cX1_findOpen 14 = .ok (.iload 4, 2) := by decide +kernel
theorem dX1_findOpen_16 : decode cX1_findOpen 16 = .ok (.aload_n 1, 1) := by decide +kernel
theorem dX1_findOpen_17 : decode cX1_findOpen 17 = .ok (.getfield 82, 3) := by decide +kernel
theorem dX1_findOpen_20 : decode cX1_findOpen 20 = .ok (.if_icmp .ge 51, 3) := by decide +kernel
theorem dX1_findOpen_23 : decode cX1_findOpen 23 = .ok (.aload_n 0, 1) := by decide +kernel
theorem dX1_findOpen_24 : decode cX1_findOpen 24 = .ok (.iload 4, 2) := by decide +kernel
theorem dX1_findOpen_26 : decode cX1_findOpen 26 = .ok (.invokevirtual 78, 3) := by decide +kernel
theorem dX1_findOpen_29 : decode cX1_findOpen 29 = .ok (.istore 5, 2) := by decide +kernel
theorem dX1_findOpen_31 : decode cX1_findOpen 31 = .ok (.aload_n 0, 1) := by decide +kernel
theorem dX1_findOpen_32 : decode cX1_findOpen 32 = .ok (.getfield 27, 3) := by decide +kernel
theorem dX1_findOpen_35 : decode cX1_findOpen 35 = .ok (.iload 4, 2) := by decide +kernel
theorem dX1_findOpen_37 : decode cX1_findOpen 37 = .ok (.iload 5, 2) := by decide +kernel
theorem dX1_findOpen_39 : decode cX1_findOpen 39 = .ok (.iload_n 2, 1) := by decide +kernel
theorem dX1_findOpen_40 : decode cX1_findOpen 40 = .ok (.if_icmp .ne 7, 3) := by decide +kernel
theorem dX1_findOpen_43 : decode cX1_findOpen 43 = .ok (.iconst 0, 1) := by decide +kernel
theorem dX1_findOpen_44 : decode cX1_findOpen 44 = .ok (.goto 10, 3) := by decide +kernel
theorem dX1_findOpen_47 : decode cX1_findOpen 47 = .ok (.aload_n 0, 1) := by decide +kernel
theorem dX1_findOpen_48 : decode cX1_findOpen 48 = .ok (.getfield 24, 3) := by decide +kernel
theorem dX1_findOpen_51 : decode cX1_findOpen 51 = .ok (.iload 5, 2) := by decide +kernel
theorem dX1_findOpen_53 : decode cX1_findOpen 53 = .ok (.iaload, 1) := by decide +kernel
theorem dX1_findOpen_54 : decode cX1_findOpen 54 = .ok (.iastore, 1) := by decide +kernel
theorem dX1_findOpen_55 : decode cX1_findOpen 55 = .ok (.iload_n 3, 1) := by decide +kernel
theorem dX1_findOpen_56 : decode cX1_findOpen 56 = .ok (.aload_n 0, 1) := by decide +kernel
theorem dX1_findOpen_57 : decode cX1_findOpen 57 = .ok (.getfield 27, 3) := by decide +kernel
theorem dX1_findOpen_60 : decode cX1_findOpen 60 = .ok (.iload 4, 2) := by decide +kernel
theorem dX1_findOpen_62 : decode cX1_findOpen 62 = .ok (.iaload, 1) := by decide +kernel
theorem dX1_findOpen_63 : decode cX1_findOpen 63 = .ok (.ior, 1) := by decide +kernel
theorem dX1_findOpen_64 : decode cX1_findOpen 64 = .ok (.istore_n 3, 1) := by decide +kernel
theorem dX1_findOpen_65 : decode cX1_findOpen 65 = .ok (.iinc 4 1, 3) := by decide +kernel
theorem dX1_findOpen_68 : decode cX1_findOpen 68 = .ok (.goto (-54), 3) := by decide +kernel
theorem dX1_findOpen_71 : decode cX1_findOpen 71 = .ok (.aload_n 0, 1) := by decide +kernel
theorem dX1_findOpen_72 : decode cX1_findOpen 72 = .ok (.getfield 27, 3) := by decide +kernel
theorem dX1_findOpen_75 : decode cX1_findOpen 75 = .ok (.aload_n 1, 1) := by decide +kernel
theorem dX1_findOpen_76 : decode cX1_findOpen 76 = .ok (.getfield 67, 3) := by decide +kernel
theorem dX1_findOpen_79 : decode cX1_findOpen 79 = .ok (.iconst 0, 1) := by decide +kernel
theorem dX1_findOpen_80 : decode cX1_findOpen 80 = .ok (.iastore, 1) := by decide +kernel
theorem dX1_findOpen_81 : decode cX1_findOpen 81 = .ok (.iload_n 3, 1) := by decide +kernel
theorem dX1_findOpen_82 : decode cX1_findOpen 82 = .ok (.iconst 1, 1) := by decide +kernel
theorem dX1_findOpen_83 : decode cX1_findOpen 83 = .ok (.if_icmp .ne 7, 3) := by decide +kernel
theorem dX1_findOpen_86 : decode cX1_findOpen 86 = .ok (.iconst 1, 1) := by decide +kernel
theorem dX1_findOpen_87 : decode cX1_findOpen 87 = .ok (.goto 4, 3) := by decide +kernel
theorem dX1_findOpen_90 : decode cX1_findOpen 90 = .ok (.iconst 0, 1) := by decide +kernel
theorem dX1_findOpen_91 : decode cX1_findOpen 91 = .ok (.ireturn, 1) := by decide +kernel
theorem dX1_growEdges_0 : decode cX1_growEdges 0 = .ok (.iconst 0, 1) := by decide +kernel
theorem dX1_growEdges_1 : decode cX1_growEdges 1 = .ok (.istore_n 2, 1) := by decide +kernel
theorem dX1_growEdges_2 : decode cX1_growEdges 2 = .ok (.iload_n 2, 1) := by decide +kernel
theorem dX1_growEdges_3 : decode cX1_growEdges 3 = .ok (.aload_n 1, 1) := by decide +kernel
theorem dX1_growEdges_4 : decode cX1_growEdges 4 = .ok (.getfield 85, 3) := by decide +kernel
theorem dX1_growEdges_7 : decode cX1_growEdges 7 = .ok (.if_icmp .ge 50, 3) := by decide +kernel
theorem dX1_growEdges_10 : decode cX1_growEdges 10 = .ok (.aload_n 0, 1) := by decide +kernel
theorem dX1_growEdges_11 : decode cX1_growEdges 11 = .ok (.getfield 18, 3) := by decide +kernel
theorem dX1_growEdges_14 : decode cX1_growEdges 14 = .ok (.iload_n 2, 1) := by decide +kernel
theorem dX1_growEdges_15 : decode cX1_growEdges 15 = .ok (.iaload, 1) := by decide +kernel
theorem dX1_growEdges_16 : decode cX1_growEdges 16 = .ok (.ifCond .ne 35, 3) := by decide +kernel
theorem dX1_growEdges_19 : decode cX1_growEdges 19 = .ok (.aload_n 0, 1) := by decide +kernel
theorem dX1_growEdges_20 : decode cX1_growEdges 20 = .ok (.getfield 15, 3) := by decide +kernel
theorem dX1_growEdges_23 : decode cX1_growEdges 23 = .ok (.iload_n 2, 1) := by decide +kernel
theorem dX1_growEdges_24 : decode cX1_growEdges 24 = .ok (.dup2, 1) := by decide +kernel
theorem dX1_growEdges_25 : decode cX1_growEdges 25 = .ok (.iaload, 1) := by decide +kernel
theorem dX1_growEdges_26 : decode cX1_growEdges 26 = .ok (.aload_n 0, 1) := by decide +kernel
theorem dX1_growEdges_27 : decode cX1_growEdges 27 = .ok (.getfield 27, 3) := by decide +kernel
theorem dX1_growEdges_30 : decode cX1_growEdges 30 = .ok (.aload_n 1, 1) := by decide +kernel
theorem dX1_growEdges_31 : decode cX1_growEdges 31 = .ok (.getfield 88, 3) := by decide +kernel
theorem dX1_growEdges_34 : decode cX1_growEdges 34 = .ok (.iload_n 2, 1) := by decide +kernel
theorem dX1_growEdges_35 : decode cX1_growEdges 35 = .ok (.iaload, 1) := by decide +kernel
theorem dX1_growEdges_36 : decode cX1_growEdges 36 = .ok (.iaload, 1) := by decide +kernel
theorem dX1_growEdges_37 : decode cX1_growEdges 37 = .ok (.aload_n 0, 1) := by decide +kernel
theorem dX1_growEdges_38 : decode cX1_growEdges 38 = .ok (.getfield 27, 3) := by decide +kernel
theorem dX1_growEdges_41 : decode cX1_growEdges 41 = .ok (.aload_n 1, 1) := by decide +kernel
theorem dX1_growEdges_42 : decode cX1_growEdges 42 = .ok (.getfield 91, 3) := by decide +kernel
theorem dX1_growEdges_45 : decode cX1_growEdges 45 = .ok (.iload_n 2, 1) := by decide +kernel
theorem dX1_growEdges_46 : decode cX1_growEdges 46 = .ok (.iaload, 1) := by decide +kernel
theorem dX1_growEdges_47 : decode cX1_growEdges 47 = .ok (.iaload, 1) := by decide +kernel
theorem dX1_growEdges_48 : decode cX1_growEdges 48 = .ok (.iadd, 1) := by decide +kernel
theorem dX1_growEdges_49 : decode cX1_growEdges 49 = .ok (.iadd, 1) := by decide +kernel
theorem dX1_growEdges_50 : decode cX1_growEdges 50 = .ok (.iastore, 1) := by decide +kernel
theorem dX1_growEdges_51 : decode cX1_growEdges 51 = .ok (.iinc 2 1, 3) := by decide +kernel
theorem dX1_growEdges_54 : decode cX1_growEdges 54 = .ok (.goto (-52), 3) := by decide +kernel
theorem dX1_growEdges_57 : decode cX1_growEdges 57 = .ok (.return_, 1) := by decide +kernel
theorem dX1_joinWhole_0 : decode cX1_joinWhole 0 = .ok (.iconst 0, 1) := by decide +kernel
theorem dX1_joinWhole_1 : decode cX1_joinWhole 1 = .ok (.istore_n 2, 1) := by decide +kernel
theorem dX1_joinWhole_2 : decode cX1_joinWhole 2 = .ok (.iload_n 2, 1) := by decide +kernel
theorem dX1_joinWhole_3 : decode cX1_joinWhole 3 = .ok (.aload_n 1, 1) := by decide +kernel
theorem dX1_joinWhole_4 : decode cX1_joinWhole 4 = .ok (.getfield 85, 3) := by decide +kernel
theorem dX1_joinWhole_7 : decode cX1_joinWhole 7 = .ok (.if_icmp .ge 59, 3) := by decide +kernel
theorem dX1_joinWhole_10 : decode cX1_joinWhole 10 = .ok (.aload_n 0, 1) := by decide +kernel
theorem dX1_joinWhole_11 : decode cX1_joinWhole 11 = .ok (.getfield 18, 3) := by decide +kernel
theorem dX1_joinWhole_14 : decode cX1_joinWhole 14 = .ok (.iload_n 2, 1) := by decide +kernel
theorem dX1_joinWhole_15 : decode cX1_joinWhole 15 = .ok (.iaload, 1) := by decide +kernel
theorem dX1_joinWhole_16 : decode cX1_joinWhole 16 = .ok (.ifCond .ne 44, 3) := by decide +kernel
theorem dX1_joinWhole_19 : decode cX1_joinWhole 19 = .ok (.aload_n 0, 1) := by decide +kernel
theorem dX1_joinWhole_20 : decode cX1_joinWhole 20 = .ok (.getfield 15, 3) := by decide +kernel
theorem dX1_joinWhole_23 : decode cX1_joinWhole 23 = .ok (.iload_n 2, 1) := by decide +kernel
theorem dX1_joinWhole_24 : decode cX1_joinWhole 24 = .ok (.iaload, 1) := by decide +kernel
theorem dX1_joinWhole_25 : decode cX1_joinWhole 25 = .ok (.iconst 2, 1) := by decide +kernel
theorem dX1_joinWhole_26 : decode cX1_joinWhole 26 = .ok (.aload_n 1, 1) := by decide +kernel
theorem dX1_joinWhole_27 : decode cX1_joinWhole 27 = .ok (.getfield 94, 3) := by decide +kernel
theorem dX1_joinWhole_30 : decode cX1_joinWhole 30 = .ok (.iload_n 2, 1) := by decide +kernel
theorem dX1_joinWhole_31 : decode cX1_joinWhole 31 = .ok (.iaload, 1) := by decide +kernel
theorem dX1_joinWhole_32 : decode cX1_joinWhole 32 = .ok (.imul, 1) := by decide +kernel
theorem dX1_joinWhole_33 : decode cX1_joinWhole 33 = .ok (.if_icmp .lt 27, 3) := by decide +kernel
theorem dX1_joinWhole_36 : decode cX1_joinWhole 36 = .ok (.aload_n 0, 1) := by decide +kernel
theorem dX1_joinWhole_37 : decode cX1_joinWhole 37 = .ok (.getfield 18, 3) := by decide +kernel
theorem dX1_joinWhole_40 : decode cX1_joinWhole 40 = .ok (.iload_n 2, 1) := by decide +kernel
theorem dX1_joinWhole_41 : decode cX1_joinWhole 41 = .ok (.iconst 1, 1) := by decide +kernel
theorem dX1_joinWhole_42 : decode cX1_joinWhole 42 = .ok (.iastore, 1) := by decide +kernel
theorem dX1_joinWhole_43 : decode cX1_joinWhole 43 = .ok (.aload_n 0, 1) := by decide +kernel
theorem dX1_joinWhole_44 : decode cX1_joinWhole 44 = .ok (.dup, 1) := by decide +kernel
theorem dX1_joinWhole_45 : decode cX1_joinWhole 45 = .ok (.getfield 42, 3) := by decide +kernel
theorem dX1_joinWhole_48 : decode cX1_joinWhole 48 = .ok (.iconst 1, 1) := by decide +kernel
theorem dX1_joinWhole_49 : decode cX1_joinWhole 49 = .ok (.iadd, 1) := by decide +kernel
theorem dX1_joinWhole_50 : decode cX1_joinWhole 50 = .ok (.putfield 42, 3) := by decide +kernel
theorem dX1_joinWhole_53 : decode cX1_joinWhole 53 = .ok (.aload_n 0, 1) := by decide +kernel
theorem dX1_joinWhole_54 : decode cX1_joinWhole 54 = .ok (.aload_n 1, 1) := by decide +kernel
theorem dX1_joinWhole_55 : decode cX1_joinWhole 55 = .ok (.iload_n 2, 1) := by decide +kernel
theorem dX1_joinWhole_56 : decode cX1_joinWhole 56 = .ok (.invokevirtual 97, 3) := by decide +kernel
theorem dX1_joinWhole_59 : decode cX1_joinWhole 59 = .ok (.pop, 1) := by decide +kernel
theorem dX1_joinWhole_60 : decode cX1_joinWhole 60 = .ok (.iinc 2 1, 3) := by decide +kernel
theorem dX1_joinWhole_63 : decode cX1_joinWhole 63 = .ok (.goto (-61), 3) := by decide +kernel
theorem dX1_joinWhole_66 : decode cX1_joinWhole 66 = .ok (.return_, 1) := by decide +kernel
theorem dX1_joinEnds_0 : decode cX1_joinEnds 0 = .ok (.aload_n 0, 1) := by decide +kernel
theorem dX1_joinEnds_1 : decode cX1_joinEnds 1 = .ok (.aload_n 1, 1) := by decide +kernel
theorem dX1_joinEnds_2 : decode cX1_joinEnds 2 = .ok (.getfield 88, 3) := by decide +kernel
theorem dX1_joinEnds_5 : decode cX1_joinEnds 5 = .ok (.iload_n 2, 1) := by decide +kernel
theorem dX1_joinEnds_6 : decode cX1_joinEnds 6 = .ok (.iaload, 1) := by decide +kernel
theorem dX1_joinEnds_7 : decode cX1_joinEnds 7 = .ok (.invokevirtual 78, 3) := by decide +kernel
theorem dX1_joinEnds_10 : decode cX1_joinEnds 10 = .ok (.istore_n 3, 1) := by decide +kernel
theorem dX1_joinEnds_11 : decode cX1_joinEnds 11 = .ok (.aload_n 0, 1) := by decide +kernel
theorem dX1_joinEnds_12 : decode cX1_joinEnds 12 = .ok (.aload_n 1, 1) := by decide +kernel
theorem dX1_joinEnds_13 : decode cX1_joinEnds 13 = .ok (.getfield 91, 3) := by decide +kernel
theorem dX1_joinEnds_16 : decode cX1_joinEnds 16 = .ok (.iload_n 2, 1) := by decide +kernel
theorem dX1_joinEnds_17 : decode cX1_joinEnds 17 = .ok (.iaload, 1) := by decide +kernel
theorem dX1_joinEnds_18 : decode cX1_joinEnds 18 = .ok (.invokevirtual 78, 3) := by decide +kernel
theorem dX1_joinEnds_21 : decode cX1_joinEnds 21 = .ok (.istore 4, 2) := by decide +kernel
theorem dX1_joinEnds_23 : decode cX1_joinEnds 23 = .ok (.iload_n 3, 1) := by decide +kernel
theorem dX1_joinEnds_24 : decode cX1_joinEnds 24 = .ok (.iload 4, 2) := by decide +kernel
theorem dX1_joinEnds_26 : decode cX1_joinEnds 26 = .ok (.if_icmp .ne 5, 3) := by decide +kernel
theorem dX1_joinEnds_29 : decode cX1_joinEnds 29 = .ok (.iconst 0, 1) := by decide +kernel
theorem dX1_joinEnds_30 : decode cX1_joinEnds 30 = .ok (.ireturn, 1) := by decide +kernel
theorem dX1_joinEnds_31 : decode cX1_joinEnds 31 = .ok (.aload_n 0, 1) := by decide +kernel
theorem dX1_joinEnds_32 : decode cX1_joinEnds 32 = .ok (.getfield 21, 3) := by decide +kernel
theorem dX1_joinEnds_35 : decode cX1_joinEnds 35 = .ok (.iload_n 3, 1) := by decide +kernel
theorem dX1_joinEnds_36 : decode cX1_joinEnds 36 = .ok (.iload 4, 2) := by decide +kernel
theorem dX1_joinEnds_38 : decode cX1_joinEnds 38 = .ok (.iastore, 1) := by decide +kernel
theorem dX1_joinEnds_39 : decode cX1_joinEnds 39 = .ok (.aload_n 0, 1) := by decide +kernel
theorem dX1_joinEnds_40 : decode cX1_joinEnds 40 = .ok (.getfield 24, 3) := by decide +kernel
theorem dX1_joinEnds_43 : decode cX1_joinEnds 43 = .ok (.iload 4, 2) := by decide +kernel
theorem dX1_joinEnds_45 : decode cX1_joinEnds 45 = .ok (.dup2, 1) := by decide +kernel
theorem dX1_joinEnds_46 : decode cX1_joinEnds 46 = .ok (.iaload, 1) := by decide +kernel
theorem dX1_joinEnds_47 : decode cX1_joinEnds 47 = .ok (.aload_n 0, 1) := by decide +kernel
theorem dX1_joinEnds_48 : decode cX1_joinEnds 48 = .ok (.getfield 24, 3) := by decide +kernel
theorem dX1_joinEnds_51 : decode cX1_joinEnds 51 = .ok (.iload_n 3, 1) := by decide +kernel
theorem dX1_joinEnds_52 : decode cX1_joinEnds 52 = .ok (.iaload, 1) := by decide +kernel
theorem dX1_joinEnds_53 : decode cX1_joinEnds 53 = .ok (.ixor, 1) := by decide +kernel
theorem dX1_joinEnds_54 : decode cX1_joinEnds 54 = .ok (.iastore, 1) := by decide +kernel
theorem dX1_joinEnds_55 : decode cX1_joinEnds 55 = .ok (.iconst 1, 1) := by decide +kernel
theorem dX1_joinEnds_56 : decode cX1_joinEnds 56 = .ok (.ireturn, 1) := by decide +kernel
theorem dX1_layForest_0 : decode cX1_layForest 0 = .ok (.aload_n 0, 1) := by decide +kernel
theorem dX1_layForest_1 : decode cX1_layForest 1 = .ok (.getfield 30, 3) := by decide +kernel
theorem dX1_layForest_4 : decode cX1_layForest 4 = .ok (.iconst 0, 1) := by decide +kernel
theorem dX1_layForest_5 : decode cX1_layForest 5 = .ok (.invokestatic 36, 3) := by decide +kernel
theorem dX1_layForest_8 : decode cX1_layForest 8 = .ok (.aload_n 0, 1) := by decide +kernel
theorem dX1_layForest_9 : decode cX1_layForest 9 = .ok (.getfield 33, 3) := by decide +kernel
theorem dX1_layForest_12 : decode cX1_layForest 12 = .ok (.iconst 0, 1) := by decide +kernel
theorem dX1_layForest_13 : decode cX1_layForest 13 = .ok (.invokestatic 36, 3) := by decide +kernel
theorem dX1_layForest_16 : decode cX1_layForest 16 = .ok (.aload_n 0, 1) := by decide +kernel
theorem dX1_layForest_17 : decode cX1_layForest 17 = .ok (.iconst 0, 1) := by decide +kernel
theorem dX1_layForest_18 : decode cX1_layForest 18 = .ok (.putfield 101, 3) := by decide +kernel
theorem dX1_layForest_21 : decode cX1_layForest 21 = .ok (.aload_n 0, 1) := by decide +kernel
theorem dX1_layForest_22 : decode cX1_layForest 22 = .ok (.aload_n 1, 1) := by decide +kernel
theorem dX1_layForest_23 : decode cX1_layForest 23 = .ok (.invokevirtual 46, 3) := by decide +kernel
theorem dX1_layForest_26 : decode cX1_layForest 26 = .ok (.iconst 0, 1) := by decide +kernel
theorem dX1_layForest_27 : decode cX1_layForest 27 = .ok (.istore_n 2, 1) := by decide +kernel
theorem dX1_layForest_28 : decode cX1_layForest 28 = .ok (.iload_n 2, 1) := by decide +kernel
theorem dX1_layForest_29 : decode cX1_layForest 29 = .ok (.aload_n 1, 1) := by decide +kernel
theorem dX1_layForest_30 : decode cX1_layForest 30 = .ok (.getfield 85, 3) := by decide +kernel
theorem dX1_layForest_33 : decode cX1_layForest 33 = .ok (.if_icmp .ge 60, 3) := by decide +kernel
theorem dX1_layForest_36 : decode cX1_layForest 36 = .ok (.aload_n 0, 1) := by decide +kernel
theorem dX1_layForest_37 : decode cX1_layForest 37 = .ok (.getfield 18, 3) := by decide +kernel
theorem dX1_layForest_40 : decode cX1_layForest 40 = .ok (.iload_n 2, 1) := by decide +kernel
theorem dX1_layForest_41 : decode cX1_layForest 41 = .ok (.iaload, 1) := by decide +kernel
theorem dX1_layForest_42 : decode cX1_layForest 42 = .ok (.iconst 1, 1) := by decide +kernel
theorem dX1_layForest_43 : decode cX1_layForest 43 = .ok (.if_icmp .ne 44, 3) := by decide +kernel
theorem dX1_layForest_46 : decode cX1_layForest 46 = .ok (.aload_n 0, 1) := by decide +kernel
theorem dX1_layForest_47 : decode cX1_layForest 47 = .ok (.aload_n 1, 1) := by decide +kernel
theorem dX1_layForest_48 : decode cX1_layForest 48 = .ok (.iload_n 2, 1) := by decide +kernel
theorem dX1_layForest_49 : decode cX1_layForest 49 = .ok (.invokevirtual 97, 3) := by decide +kernel
theorem dX1_layForest_52 : decode cX1_layForest 52 = .ok (.ifCond .eq 35, 3) := by decide +kernel
theorem dX1_layForest_55 : decode cX1_layForest 55 = .ok (.aload_n 0, 1) := by decide +kernel
theorem dX1_layForest_56 : decode cX1_layForest 56 = .ok (.dup, 1) := by decide +kernel
theorem dX1_layForest_57 : decode cX1_layForest 57 = .ok (.getfield 101, 3) := by decide +kernel
theorem dX1_layForest_60 : decode cX1_layForest 60 = .ok (.iconst 1, 1) := by decide +kernel
theorem dX1_layForest_61 : decode cX1_layForest 61 = .ok (.iadd, 1) := by decide +kernel
theorem dX1_layForest_62 : decode cX1_layForest 62 = .ok (.putfield 101, 3) := by decide +kernel
theorem dX1_layForest_65 : decode cX1_layForest 65 = .ok (.aload_n 0, 1) := by decide +kernel
theorem dX1_layForest_66 : decode cX1_layForest 66 = .ok (.aload_n 1, 1) := by decide +kernel
theorem dX1_layForest_67 : decode cX1_layForest 67 = .ok (.getfield 88, 3) := by decide +kernel
theorem dX1_layForest_70 : decode cX1_layForest 70 = .ok (.iload_n 2, 1) := by decide +kernel
theorem dX1_layForest_71 : decode cX1_layForest 71 = .ok (.iaload, 1) := by decide +kernel
theorem dX1_layForest_72 : decode cX1_layForest 72 = .ok (.iload_n 2, 1) := by decide +kernel
theorem dX1_layForest_73 : decode cX1_layForest 73 = .ok (.invokevirtual 104, 3) := by decide +kernel
theorem dX1_layForest_76 : decode cX1_layForest 76 = .ok (.aload_n 0, 1) := by decide +kernel
theorem dX1_layForest_77 : decode cX1_layForest 77 = .ok (.aload_n 1, 1) := by decide +kernel
theorem dX1_layForest_78 : decode cX1_layForest 78 = .ok (.getfield 91, 3) := by decide +kernel
theorem dX1_layForest_81 : decode cX1_layForest 81 = .ok (.iload_n 2, 1) := by decide +kernel
theorem dX1_layForest_82 : decode cX1_layForest 82 = .ok (.iaload, 1) := by decide +kernel
theorem dX1_layForest_83 : decode cX1_layForest 83 = .ok (.iload_n 2, 1) := by decide +kernel
theorem dX1_layForest_84 : decode cX1_layForest 84 = .ok (.invokevirtual 104, 3) := by decide +kernel
theorem dX1_layForest_87 : decode cX1_layForest 87 = .ok (.iinc 2 1, 3) := by decide +kernel
theorem dX1_layForest_90 : decode cX1_layForest 90 = .ok (.goto (-62), 3) := by decide +kernel
theorem dX1_layForest_93 : decode cX1_layForest 93 = .ok (.return_, 1) := by decide +kernel
theorem dX1_addBranch_0 : decode cX1_addBranch 0 = .ok (.aload_n 0, 1) := by decide +kernel
theorem dX1_addBranch_1 : decode cX1_addBranch 1 = .ok (.getfield 30, 3) := by decide +kernel
theorem dX1_addBranch_4 : decode cX1_addBranch 4 = .ok (.iload_n 1, 1) := by decide +kernel
theorem dX1_addBranch_5 : decode cX1_addBranch 5 = .ok (.dup2, 1) := by decide +kernel
theorem dX1_addBranch_6 : decode cX1_addBranch 6 = .ok (.iaload, 1) := by decide +kernel
theorem dX1_addBranch_7 : decode cX1_addBranch 7 = .ok (.iconst 1, 1) := by decide +kernel
theorem dX1_addBranch_8 : decode cX1_addBranch 8 = .ok (.iadd, 1) := by decide +kernel
theorem dX1_addBranch_9 : decode cX1_addBranch 9 = .ok (.iastore, 1) := by decide +kernel
theorem dX1_addBranch_10 : decode cX1_addBranch 10 = .ok (.aload_n 0, 1) := by decide +kernel
theorem dX1_addBranch_11 : decode cX1_addBranch 11 = .ok (.getfield 33, 3) := by decide +kernel
theorem dX1_addBranch_14 : decode cX1_addBranch 14 = .ok (.iload_n 1, 1) := by decide +kernel
theorem dX1_addBranch_15 : decode cX1_addBranch 15 = .ok (.dup2, 1) := by decide +kernel
theorem dX1_addBranch_16 : decode cX1_addBranch 16 = .ok (.iaload, 1) := by decide +kernel
theorem dX1_addBranch_17 : decode cX1_addBranch 17 = .ok (.iload_n 2, 1) := by decide +kernel
theorem dX1_addBranch_18 : decode cX1_addBranch 18 = .ok (.ixor, 1) := by decide +kernel
theorem dX1_addBranch_19 : decode cX1_addBranch 19 = .ok (.iastore, 1) := by decide +kernel
theorem dX1_addBranch_20 : decode cX1_addBranch 20 = .ok (.return_, 1) := by decide +kernel
theorem dX1_peelForest_0 : decode cX1_peelForest 0 = .ok (.aload_n 0, 1) := by decide +kernel
theorem dX1_peelForest_1 : decode cX1_peelForest 1 = .ok (.getfield 9, 3) := by decide +kernel
theorem dX1_peelForest_4 : decode cX1_peelForest 4 = .ok (.iconst 0, 1) := by decide +kernel
theorem dX1_peelForest_5 : decode cX1_peelForest 5 = .ok (.invokestatic 36, 3) := by decide +kernel
theorem dX1_peelForest_8 : decode cX1_peelForest 8 = .ok (.aload_n 0, 1) := by decide +kernel
theorem dX1_peelForest_9 : decode cX1_peelForest 9 = .ok (.iconst 0, 1) := by decide +kernel
theorem dX1_peelForest_10 : decode cX1_peelForest 10 = .ok (.putfield 108, 3) := by decide +kernel
theorem dX1_peelForest_13 : decode cX1_peelForest 13 = .ok (.aload_n 0, 1) := by decide +kernel
theorem dX1_peelForest_14 : decode cX1_peelForest 14 = .ok (.iconst 0, 1) := by decide +kernel
theorem dX1_peelForest_15 : decode cX1_peelForest 15 = .ok (.putfield 111, 3) := by decide +kernel
theorem dX1_peelForest_18 : decode cX1_peelForest 18 = .ok (.aload_n 0, 1) := by decide +kernel
theorem dX1_peelForest_19 : decode cX1_peelForest 19 = .ok (.aload_n 1, 1) := by decide +kernel
theorem dX1_peelForest_20 : decode cX1_peelForest 20 = .ok (.invokevirtual 50, 3) := by decide +kernel
theorem dX1_peelForest_23 : decode cX1_peelForest 23 = .ok (.iconst 0, 1) := by decide +kernel
theorem dX1_peelForest_24 : decode cX1_peelForest 24 = .ok (.istore_n 2, 1) := by decide +kernel
theorem dX1_peelForest_25 : decode cX1_peelForest 25 = .ok (.iload_n 2, 1) := by decide +kernel
theorem dX1_peelForest_26 : decode cX1_peelForest 26 = .ok (.aload_n 1, 1) := by decide +kernel
theorem dX1_peelForest_27 : decode cX1_peelForest 27 = .ok (.getfield 82, 3) := by decide +kernel
theorem dX1_peelForest_30 : decode cX1_peelForest 30 = .ok (.if_icmp .ge 45, 3) := by decide +kernel
theorem dX1_peelForest_33 : decode cX1_peelForest 33 = .ok (.iload_n 2, 1) := by decide +kernel
theorem dX1_peelForest_34 : decode cX1_peelForest 34 = .ok (.istore_n 3, 1) := by decide +kernel
theorem dX1_peelForest_35 : decode cX1_peelForest 35 = .ok (.iconst 0, 1) := by decide +kernel
theorem dX1_peelForest_36 : decode cX1_peelForest 36 = .ok (.istore 4, 2) := by decide +kernel
theorem dX1_peelForest_38 : decode cX1_peelForest 38 = .ok (.iload 4, 2) := by decide +kernel
theorem dX1_peelForest_40 : decode cX1_peelForest 40 = .ok (.aload_n 1, 1) := by decide +kernel
theorem dX1_peelForest_41 : decode cX1_peelForest 41 = .ok (.getfield 82, 3) := by decide +kernel
theorem dX1_peelForest_44 : decode cX1_peelForest 44 = .ok (.if_icmp .gt 25, 3) := by decide +kernel
theorem dX1_peelForest_47 : decode cX1_peelForest 47 = .ok (.aload_n 0, 1) := by decide +kernel
theorem dX1_peelForest_48 : decode cX1_peelForest 48 = .ok (.aload_n 1, 1) := by decide +kernel
theorem dX1_peelForest_49 : decode cX1_peelForest 49 = .ok (.iload_n 3, 1) := by decide +kernel
theorem dX1_peelForest_50 : decode cX1_peelForest 50 = .ok (.invokevirtual 113, 3) := by decide +kernel
theorem dX1_peelForest_53 : decode cX1_peelForest 53 = .ok (.ifCond .eq 16, 3) := by decide +kernel
theorem dX1_peelForest_56 : decode cX1_peelForest 56 = .ok (.aload_n 0, 1) := by decide +kernel
theorem dX1_peelForest_57 : decode cX1_peelForest 57 = .ok (.aload_n 1, 1) := by decide +kernel
theorem dX1_peelForest_58 : decode cX1_peelForest 58 = .ok (.iload_n 3, 1) := by decide +kernel
theorem dX1_peelForest_59 : decode cX1_peelForest 59 = .ok (.invokevirtual 116, 3) := by decide +kernel
theorem dX1_peelForest_62 : decode cX1_peelForest 62 = .ok (.istore_n 3, 1) := by decide +kernel
theorem dX1_peelForest_63 : decode cX1_peelForest 63 = .ok (.iinc 4 1, 3) := by decide +kernel
theorem dX1_peelForest_66 : decode cX1_peelForest 66 = .ok (.goto (-28), 3) := by decide +kernel
theorem dX1_peelForest_69 : decode cX1_peelForest 69 = .ok (.iinc 2 1, 3) := by decide +kernel
theorem dX1_peelForest_72 : decode cX1_peelForest 72 = .ok (.goto (-47), 3) := by decide +kernel
theorem dX1_peelForest_75 : decode cX1_peelForest 75 = .ok (.return_, 1) := by decide +kernel
theorem dX1_isLeaf_0 : decode cX1_isLeaf 0 = .ok (.iload_n 2, 1) := by decide +kernel
theorem dX1_isLeaf_1 : decode cX1_isLeaf 1 = .ok (.aload_n 1, 1) := by decide +kernel
theorem dX1_isLeaf_2 : decode cX1_isLeaf 2 = .ok (.getfield 67, 3) := by decide +kernel
theorem dX1_isLeaf_5 : decode cX1_isLeaf 5 = .ok (.if_icmp .eq 17, 3) := by decide +kernel
theorem dX1_isLeaf_8 : decode cX1_isLeaf 8 = .ok (.aload_n 0, 1) := by decide +kernel
theorem dX1_isLeaf_9 : decode cX1_isLeaf 9 = .ok (.getfield 30, 3) := by decide +kernel
theorem dX1_isLeaf_12 : decode cX1_isLeaf 12 = .ok (.iload_n 2, 1) := by decide +kernel
theorem dX1_isLeaf_13 : decode cX1_isLeaf 13 = .ok (.iaload, 1) := by decide +kernel
theorem dX1_isLeaf_14 : decode cX1_isLeaf 14 = .ok (.iconst 1, 1) := by decide +kernel
theorem dX1_isLeaf_15 : decode cX1_isLeaf 15 = .ok (.if_icmp .ne 7, 3) := by decide +kernel
theorem dX1_isLeaf_18 : decode cX1_isLeaf 18 = .ok (.iconst 1, 1) := by decide +kernel
theorem dX1_isLeaf_19 : decode cX1_isLeaf 19 = .ok (.goto 4, 3) := by decide +kernel
theorem dX1_isLeaf_22 : decode cX1_isLeaf 22 = .ok (.iconst 0, 1) := by decide +kernel
theorem dX1_isLeaf_23 : decode cX1_isLeaf 23 = .ok (.ireturn, 1) := by decide +kernel
theorem dX1_peelLeaf_0 : decode cX1_peelLeaf 0 = .ok (.aload_n 0, 1) := by decide +kernel
theorem dX1_peelLeaf_1 : decode cX1_peelLeaf 1 = .ok (.getfield 33, 3) := by decide +kernel
theorem dX1_peelLeaf_4 : decode cX1_peelLeaf 4 = .ok (.iload_n 2, 1) := by decide +kernel
theorem dX1_peelLeaf_5 : decode cX1_peelLeaf 5 = .ok (.iaload, 1) := by decide +kernel
theorem dX1_peelLeaf_6 : decode cX1_peelLeaf 6 = .ok (.istore_n 3, 1) := by decide +kernel
theorem dX1_peelLeaf_7 : decode cX1_peelLeaf 7 = .ok (.aload_n 1, 1) := by decide +kernel
theorem dX1_peelLeaf_8 : decode cX1_peelLeaf 8 = .ok (.iload_n 3, 1) := by decide +kernel
theorem dX1_peelLeaf_9 : decode cX1_peelLeaf 9 = .ok (.iload_n 2, 1) := by decide +kernel
theorem dX1_peelLeaf_10 : decode cX1_peelLeaf 10 = .ok (.invokevirtual 120, 3) := by decide +kernel
theorem dX1_peelLeaf_13 : decode cX1_peelLeaf 13 = .ok (.istore 4, 2) := by decide +kernel
theorem dX1_peelLeaf_15 : decode cX1_peelLeaf 15 = .ok (.aload_n 0, 1) := by decide +kernel
theorem dX1_peelLeaf_16 : decode cX1_peelLeaf 16 = .ok (.getfield 30, 3) := by decide +kernel
theorem dX1_peelLeaf_19 : decode cX1_peelLeaf 19 = .ok (.iload_n 2, 1) := by decide +kernel
theorem dX1_peelLeaf_20 : decode cX1_peelLeaf 20 = .ok (.iconst 0, 1) := by decide +kernel
theorem dX1_peelLeaf_21 : decode cX1_peelLeaf 21 = .ok (.iastore, 1) := by decide +kernel
theorem dX1_peelLeaf_22 : decode cX1_peelLeaf 22 = .ok (.aload_n 0, 1) := by decide +kernel
theorem dX1_peelLeaf_23 : decode cX1_peelLeaf 23 = .ok (.getfield 30, 3) := by decide +kernel
theorem dX1_peelLeaf_26 : decode cX1_peelLeaf 26 = .ok (.iload 4, 2) := by decide +kernel
theorem dX1_peelLeaf_28 : decode cX1_peelLeaf 28 = .ok (.dup2, 1) := by decide +kernel
theorem dX1_peelLeaf_29 : decode cX1_peelLeaf 29 = .ok (.iaload, 1) := by decide +kernel
theorem dX1_peelLeaf_30 : decode cX1_peelLeaf 30 = .ok (.iconst 1, 1) := by decide +kernel
theorem dX1_peelLeaf_31 : decode cX1_peelLeaf 31 = .ok (.isub, 1) := by decide +kernel
theorem dX1_peelLeaf_32 : decode cX1_peelLeaf 32 = .ok (.iastore, 1) := by decide +kernel
theorem dX1_peelLeaf_33 : decode cX1_peelLeaf 33 = .ok (.aload_n 0, 1) := by decide +kernel
theorem dX1_peelLeaf_34 : decode cX1_peelLeaf 34 = .ok (.getfield 33, 3) := by decide +kernel
theorem dX1_peelLeaf_37 : decode cX1_peelLeaf 37 = .ok (.iload 4, 2) := by decide +kernel
theorem dX1_peelLeaf_39 : decode cX1_peelLeaf 39 = .ok (.dup2, 1) := by decide +kernel
theorem dX1_peelLeaf_40 : decode cX1_peelLeaf 40 = .ok (.iaload, 1) := by decide +kernel
theorem dX1_peelLeaf_41 : decode cX1_peelLeaf 41 = .ok (.iload_n 3, 1) := by decide +kernel
theorem dX1_peelLeaf_42 : decode cX1_peelLeaf 42 = .ok (.ixor, 1) := by decide +kernel
theorem dX1_peelLeaf_43 : decode cX1_peelLeaf 43 = .ok (.iastore, 1) := by decide +kernel
theorem dX1_peelLeaf_44 : decode cX1_peelLeaf 44 = .ok (.aload_n 0, 1) := by decide +kernel
theorem dX1_peelLeaf_45 : decode cX1_peelLeaf 45 = .ok (.getfield 24, 3) := by decide +kernel
theorem dX1_peelLeaf_48 : decode cX1_peelLeaf 48 = .ok (.iload_n 2, 1) := by decide +kernel
theorem dX1_peelLeaf_49 : decode cX1_peelLeaf 49 = .ok (.iaload, 1) := by decide +kernel
theorem dX1_peelLeaf_50 : decode cX1_peelLeaf 50 = .ok (.iconst 1, 1) := by decide +kernel
theorem dX1_peelLeaf_51 : decode cX1_peelLeaf 51 = .ok (.if_icmp .ne 46, 3) := by decide +kernel
theorem dX1_peelLeaf_54 : decode cX1_peelLeaf 54 = .ok (.aload_n 0, 1) := by decide +kernel
theorem dX1_peelLeaf_55 : decode cX1_peelLeaf 55 = .ok (.getfield 24, 3) := by decide +kernel
theorem dX1_peelLeaf_58 : decode cX1_peelLeaf 58 = .ok (.iload 4, 2) := by decide +kernel
theorem dX1_peelLeaf_60 : decode cX1_peelLeaf 60 = .ok (.dup2, 1) := by decide +kernel
theorem dX1_peelLeaf_61 : decode cX1_peelLeaf 61 = .ok (.iaload, 1) := by decide +kernel
theorem dX1_peelLeaf_62 : decode cX1_peelLeaf 62 = .ok (.iconst 1, 1) := by decide +kernel
theorem dX1_peelLeaf_63 : decode cX1_peelLeaf 63 = .ok (.ixor, 1) := by decide +kernel
theorem dX1_peelLeaf_64 : decode cX1_peelLeaf 64 = .ok (.iastore, 1) := by decide +kernel
theorem dX1_peelLeaf_65 : decode cX1_peelLeaf 65 = .ok (.aload_n 0, 1) := by decide +kernel
theorem dX1_peelLeaf_66 : decode cX1_peelLeaf 66 = .ok (.getfield 9, 3) := by decide +kernel
theorem dX1_peelLeaf_69 : decode cX1_peelLeaf 69 = .ok (.iload_n 3, 1) := by decide +kernel
theorem dX1_peelLeaf_70 : decode cX1_peelLeaf 70 = .ok (.iconst 1, 1) := by decide +kernel
theorem dX1_peelLeaf_71 : decode cX1_peelLeaf 71 = .ok (.iastore, 1) := by decide +kernel
theorem dX1_peelLeaf_72 : decode cX1_peelLeaf 72 = .ok (.aload_n 0, 1) := by decide +kernel
theorem dX1_peelLeaf_73 : decode cX1_peelLeaf 73 = .ok (.dup, 1) := by decide +kernel
theorem dX1_peelLeaf_74 : decode cX1_peelLeaf 74 = .ok (.getfield 108, 3) := by decide +kernel
theorem dX1_peelLeaf_77 : decode cX1_peelLeaf 77 = .ok (.iconst 1, 1) := by decide +kernel
theorem dX1_peelLeaf_78 : decode cX1_peelLeaf 78 = .ok (.iadd, 1) := by decide +kernel
theorem dX1_peelLeaf_79 : decode cX1_peelLeaf 79 = .ok (.putfield 108, 3) := by decide +kernel
theorem dX1_peelLeaf_82 : decode cX1_peelLeaf 82 = .ok (.aload_n 0, 1) := by decide +kernel
theorem dX1_peelLeaf_83 : decode cX1_peelLeaf 83 = .ok (.dup, 1) := by decide +kernel
theorem dX1_peelLeaf_84 : decode cX1_peelLeaf 84 = .ok (.getfield 111, 3) := by decide +kernel
theorem dX1_peelLeaf_87 : decode cX1_peelLeaf 87 = .ok (.aload_n 1, 1) := by decide +kernel
theorem dX1_peelLeaf_88 : decode cX1_peelLeaf 88 = .ok (.getfield 94, 3) := by decide +kernel
theorem dX1_peelLeaf_91 : decode cX1_peelLeaf 91 = .ok (.iload_n 3, 1) := by decide +kernel
theorem dX1_peelLeaf_92 : decode cX1_peelLeaf 92 = .ok (.iaload, 1) := by decide +kernel
theorem dX1_peelLeaf_93 : decode cX1_peelLeaf 93 = .ok (.iadd, 1) := by decide +kernel
theorem dX1_peelLeaf_94 : decode cX1_peelLeaf 94 = .ok (.putfield 111, 3) := by decide +kernel
theorem dX1_peelLeaf_97 : decode cX1_peelLeaf 97 = .ok (.iload 4, 2) := by decide +kernel
theorem dX1_peelLeaf_99 : decode cX1_peelLeaf 99 = .ok (.ireturn, 1) := by decide +kernel
theorem dX2_init_0 : decode cX2_init 0 = .ok (.aload_n 0, 1) := by decide +kernel
theorem dX2_init_1 : decode cX2_init 1 = .ok (.invokespecial 3, 3) := by decide +kernel
theorem dX2_init_4 : decode cX2_init 4 = .ok (.aload_n 0, 1) := by decide +kernel
theorem dX2_init_5 : decode cX2_init 5 = .ok (.bipush 8, 2) := by decide +kernel
theorem dX2_init_7 : decode cX2_init 7 = .ok (.anewarray 9, 3) := by decide +kernel
theorem dX2_init_10 : decode cX2_init 10 = .ok (.putfield 11, 3) := by decide +kernel
theorem dX2_init_13 : decode cX2_init 13 = .ok (.iconst 0, 1) := by decide +kernel
theorem dX2_init_14 : decode cX2_init 14 = .ok (.istore_n 2, 1) := by decide +kernel
theorem dX2_init_15 : decode cX2_init 15 = .ok (.iload_n 2, 1) := by decide +kernel
theorem dX2_init_16 : decode cX2_init 16 = .ok (.bipush 8, 2) := by decide +kernel
theorem dX2_init_18 : decode cX2_init 18 = .ok (.if_icmp .ge 23, 3) := by decide +kernel
theorem dX2_init_21 : decode cX2_init 21 = .ok (.aload_n 0, 1) := by decide +kernel
theorem dX2_init_22 : decode cX2_init 22 = .ok (.getfield 11, 3) := by decide +kernel
theorem dX2_init_25 : decode cX2_init 25 = .ok (.iload_n 2, 1) := by decide +kernel
theorem dX2_init_26 : decode cX2_init 26 = .ok (.new 9, 3) := by decide +kernel
theorem dX2_init_29 : decode cX2_init 29 = .ok (.dup, 1) := by decide +kernel
theorem dX2_init_30 : decode cX2_init 30 = .ok (.aload_n 1, 1) := by decide +kernel
theorem dX2_init_31 : decode cX2_init 31 = .ok (.invokespecial 17, 3) := by decide +kernel
theorem dX2_init_34 : decode cX2_init 34 = .ok (.aastore, 1) := by decide +kernel
theorem dX2_init_35 : decode cX2_init 35 = .ok (.iinc 2 1, 3) := by decide +kernel
theorem dX2_init_38 : decode cX2_init 38 = .ok (.goto (-23), 3) := by decide +kernel
theorem dX2_init_41 : decode cX2_init 41 = .ok (.return_, 1) := by decide +kernel
theorem dX2_keep_0 : decode cX2_keep 0 = .ok (.aload_n 0, 1) := by decide +kernel
theorem dX2_keep_1 : decode cX2_keep 1 = .ok (.getfield 11, 3) := by decide +kernel
theorem dX2_keep_4 : decode cX2_keep 4 = .ok (.aload_n 0, 1) := by decide +kernel
theorem dX2_keep_5 : decode cX2_keep 5 = .ok (.getfield 20, 3) := by decide +kernel
theorem dX2_keep_8 : decode cX2_keep 8 = .ok (.aaload, 1) := by decide +kernel
theorem dX2_keep_9 : decode cX2_keep 9 = .ok (.aload_n 1, 1) := by decide +kernel
theorem dX2_keep_10 : decode cX2_keep 10 = .ok (.invokevirtual 24, 3) := by decide +kernel
theorem dX2_keep_13 : decode cX2_keep 13 = .ok (.aload_n 0, 1) := by decide +kernel
theorem dX2_keep_14 : decode cX2_keep 14 = .ok (.aload_n 0, 1) := by decide +kernel
theorem dX2_keep_15 : decode cX2_keep 15 = .ok (.getfield 20, 3) := by decide +kernel
theorem dX2_keep_18 : decode cX2_keep 18 = .ok (.iconst 1, 1) := by decide +kernel
theorem dX2_keep_19 : decode cX2_keep 19 = .ok (.iadd, 1) := by decide +kernel
theorem dX2_keep_20 : decode cX2_keep 20 = .ok (.bipush 8, 2) := by decide +kernel
theorem dX2_keep_22 : decode cX2_keep 22 = .ok (.if_icmp .ge 12, 3) := by decide +kernel
theorem dX2_keep_25 : decode cX2_keep 25 = .ok (.aload_n 0, 1) := by decide +kernel
theorem dX2_keep_26 : decode cX2_keep 26 = .ok (.getfield 20, 3) := by decide +kernel
theorem dX2_keep_29 : decode cX2_keep 29 = .ok (.iconst 1, 1) := by decide +kernel
theorem dX2_keep_30 : decode cX2_keep 30 = .ok (.iadd, 1) := by decide +kernel
theorem dX2_keep_31 : decode cX2_keep 31 = .ok (.goto 4, 3) := by decide +kernel
theorem dX2_keep_34 : decode cX2_keep 34 = .ok (.iconst 0, 1) := by decide +kernel
theorem dX2_keep_35 : decode cX2_keep 35 = .ok (.putfield 20, 3) := by decide +kernel
theorem dX2_keep_38 : decode cX2_keep 38 = .ok (.aload_n 0, 1) := by decide +kernel
theorem dX2_keep_39 : decode cX2_keep 39 = .ok (.bipush 8, 2) := by decide +kernel
theorem dX2_keep_41 : decode cX2_keep 41 = .ok (.aload_n 0, 1) := by decide +kernel
theorem dX2_keep_42 : decode cX2_keep 42 = .ok (.getfield 28, 3) := by decide +kernel
theorem dX2_keep_45 : decode cX2_keep 45 = .ok (.iconst 1, 1) := by decide +kernel
theorem dX2_keep_46 : decode cX2_keep 46 = .ok (.iadd, 1) := by decide +kernel
theorem dX2_keep_47 : decode cX2_keep 47 = .ok (.invokestatic 31, 3) := by decide +kernel
theorem dX2_keep_50 : decode cX2_keep 50 = .ok (.putfield 28, 3) := by decide +kernel
theorem dX2_keep_53 : decode cX2_keep 53 = .ok (.return_, 1) := by decide +kernel
theorem dX2_takeBack_0 : decode cX2_takeBack 0 = .ok (.aload_n 0, 1) := by decide +kernel
theorem dX2_takeBack_1 : decode cX2_takeBack 1 = .ok (.aload_n 0, 1) := by decide +kernel
theorem dX2_takeBack_2 : decode cX2_takeBack 2 = .ok (.getfield 20, 3) := by decide +kernel
theorem dX2_takeBack_5 : decode cX2_takeBack 5 = .ok (.ifCond .le 12, 3) := by decide +kernel
theorem dX2_takeBack_8 : decode cX2_takeBack 8 = .ok (.aload_n 0, 1) := by decide +kernel
theorem dX2_takeBack_9 : decode cX2_takeBack 9 = .ok (.getfield 20, 3) := by decide +kernel
theorem dX2_takeBack_12 : decode cX2_takeBack 12 = .ok (.iconst 1, 1) := by decide +kernel
theorem dX2_takeBack_13 : decode cX2_takeBack 13 = .ok (.isub, 1) := by decide +kernel
theorem dX2_takeBack_14 : decode cX2_takeBack 14 = .ok (.goto 5, 3) := by decide +kernel
theorem dX2_takeBack_17 : decode cX2_takeBack 17 = .ok (.bipush 7, 2) := by decide +kernel
theorem dX2_takeBack_19 : decode cX2_takeBack 19 = .ok (.putfield 20, 3) := by decide +kernel
theorem dX2_takeBack_22 : decode cX2_takeBack 22 = .ok (.aload_n 0, 1) := by decide +kernel
theorem dX2_takeBack_23 : decode cX2_takeBack 23 = .ok (.dup, 1) := by decide +kernel
theorem dX2_takeBack_24 : decode cX2_takeBack 24 = .ok (.getfield 28, 3) := by decide +kernel
theorem dX2_takeBack_27 : decode cX2_takeBack 27 = .ok (.iconst 1, 1) := by decide +kernel
theorem dX2_takeBack_28 : decode cX2_takeBack 28 = .ok (.isub, 1) := by decide +kernel
theorem dX2_takeBack_29 : decode cX2_takeBack 29 = .ok (.putfield 28, 3) := by decide +kernel
theorem dX2_takeBack_32 : decode cX2_takeBack 32 = .ok (.aload_n 1, 1) := by decide +kernel
theorem dX2_takeBack_33 : decode cX2_takeBack 33 = .ok (.aload_n 0, 1) := by decide +kernel
theorem dX2_takeBack_34 : decode cX2_takeBack 34 = .ok (.getfield 11, 3) := by decide +kernel
theorem dX2_takeBack_37 : decode cX2_takeBack 37 = .ok (.aload_n 0, 1) := by decide +kernel
theorem dX2_takeBack_38 : decode cX2_takeBack 38 = .ok (.getfield 20, 3) := by decide +kernel
theorem dX2_takeBack_41 : decode cX2_takeBack 41 = .ok (.aaload, 1) := by decide +kernel
theorem dX2_takeBack_42 : decode cX2_takeBack 42 = .ok (.invokevirtual 24, 3) := by decide +kernel
theorem dX2_takeBack_45 : decode cX2_takeBack 45 = .ok (.return_, 1) := by decide +kernel
theorem dX3_init_0 : decode cX3_init 0 = .ok (.aload_n 0, 1) := by decide +kernel
theorem dX3_init_1 : decode cX3_init 1 = .ok (.invokespecial 3, 3) := by decide +kernel
theorem dX3_init_4 : decode cX3_init 4 = .ok (.aload_n 0, 1) := by decide +kernel
theorem dX3_init_5 : decode cX3_init 5 = .ok (.bipush 26, 2) := by decide +kernel
theorem dX3_init_7 : decode cX3_init 7 = .ok (.newarray .int, 2) := by decide +kernel
theorem dX3_init_9 : decode cX3_init 9 = .ok (.putfield 9, 3) := by decide +kernel
theorem dX3_init_12 : decode cX3_init 12 = .ok (.aload_n 0, 1) := by decide +kernel
theorem dX3_init_13 : decode cX3_init 13 = .ok (.sipush 160, 3) := by decide +kernel
theorem dX3_init_16 : decode cX3_init 16 = .ok (.newarray .int, 2) := by decide +kernel
theorem dX3_init_18 : decode cX3_init 18 = .ok (.putfield 15, 3) := by decide +kernel
theorem dX3_init_21 : decode cX3_init 21 = .ok (.return_, 1) := by decide +kernel
theorem dX3_countSizes_0 : decode cX3_countSizes 0 = .ok (.aload_n 1, 1) := by decide +kernel
theorem dX3_countSizes_1 : decode cX3_countSizes 1 = .ok (.getfield 18, 3) := by decide +kernel
theorem dX3_countSizes_4 : decode cX3_countSizes 4 = .ok (.astore 4, 2) := by decide +kernel
theorem dX3_countSizes_6 : decode cX3_countSizes 6 = .ok (.aload_n 0, 1) := by decide +kernel
theorem dX3_countSizes_7 : decode cX3_countSizes 7 = .ok (.getfield 9, 3) := by decide +kernel
theorem dX3_countSizes_10 : decode cX3_countSizes 10 = .ok (.iconst 0, 1) := by decide +kernel
theorem dX3_countSizes_11 : decode cX3_countSizes 11 = .ok (.invokestatic 24, 3) := by decide +kernel
theorem dX3_countSizes_14 : decode cX3_countSizes 14 = .ok (.aload_n 1, 1) := by decide +kernel
theorem dX3_countSizes_15 : decode cX3_countSizes 15 = .ok (.getfield 30, 3) := by decide +kernel
theorem dX3_countSizes_18 : decode cX3_countSizes 18 = .ok (.iload_n 2, 1) := by decide +kernel
theorem dX3_countSizes_19 : decode cX3_countSizes 19 = .ok (.iaload, 1) := by decide +kernel
theorem dX3_countSizes_20 : decode cX3_countSizes 20 = .ok (.istore 5, 2) := by decide +kernel
theorem dX3_countSizes_22 : decode cX3_countSizes 22 = .ok (.aload 4, 2) := by decide +kernel
theorem dX3_countSizes_24 : decode cX3_countSizes 24 = .ok (.iload_n 2, 1) := by decide +kernel
theorem dX3_countSizes_25 : decode cX3_countSizes 25 = .ok (.iload 5, 2) := by decide +kernel
theorem dX3_countSizes_27 : decode cX3_countSizes 27 = .ok (.invokevirtual 33, 3) := by decide +kernel
theorem dX3_countSizes_30 : decode cX3_countSizes 30 = .ok (.iload_n 3, 1) := by decide +kernel
theorem dX3_countSizes_31 : decode cX3_countSizes 31 = .ok (.if_icmp .eq 15, 3) := by decide +kernel
theorem dX3_countSizes_34 : decode cX3_countSizes 34 = .ok (.iload 5, 2) := by decide +kernel
theorem dX3_countSizes_36 : decode cX3_countSizes 36 = .ok (.aload 4, 2) := by decide +kernel
theorem dX3_countSizes_38 : decode cX3_countSizes 38 = .ok (.getfield 39, 3) := by decide +kernel
theorem dX3_countSizes_41 : decode cX3_countSizes 41 = .ok (.iload_n 2, 1) := by decide +kernel
theorem dX3_countSizes_42 : decode cX3_countSizes 42 = .ok (.iaload, 1) := by decide +kernel
theorem dX3_countSizes_43 : decode cX3_countSizes 43 = .ok (.ixor, 1) := by decide +kernel
theorem dX3_countSizes_44 : decode cX3_countSizes 44 = .ok (.istore 5, 2) := by decide +kernel
theorem dX3_countSizes_46 : decode cX3_countSizes 46 = .ok (.aload_n 0, 1) := by decide +kernel
theorem dX3_countSizes_47 : decode cX3_countSizes 47 = .ok (.getfield 9, 3) := by decide +kernel
theorem dX3_countSizes_50 : decode cX3_countSizes 50 = .ok (.iload 5, 2) := by decide +kernel
theorem dX3_countSizes_52 : decode cX3_countSizes 52 = .ok (.invokestatic 42, 3) := by decide +kernel
theorem dX3_countSizes_55 : decode cX3_countSizes 55 = .ok (.dup2, 1) := by decide +kernel
theorem dX3_countSizes_56 : decode cX3_countSizes 56 = .ok (.iaload, 1) := by decide +kernel
theorem dX3_countSizes_57 : decode cX3_countSizes 57 = .ok (.iconst 1, 1) := by decide +kernel
theorem dX3_countSizes_58 : decode cX3_countSizes 58 = .ok (.iadd, 1) := by decide +kernel
theorem dX3_countSizes_59 : decode cX3_countSizes 59 = .ok (.iastore, 1) := by decide +kernel
theorem dX3_countSizes_60 : decode cX3_countSizes 60 = .ok (.iconst 1, 1) := by decide +kernel
theorem dX3_countSizes_61 : decode cX3_countSizes 61 = .ok (.aload 4, 2) := by decide +kernel
theorem dX3_countSizes_63 : decode cX3_countSizes 63 = .ok (.getfield 48, 3) := by decide +kernel
theorem dX3_countSizes_66 : decode cX3_countSizes 66 = .ok (.ishl, 1) := by decide +kernel
theorem dX3_countSizes_67 : decode cX3_countSizes 67 = .ok (.istore 6, 2) := by decide +kernel
theorem dX3_countSizes_69 : decode cX3_countSizes 69 = .ok (.iconst 1, 1) := by decide +kernel
theorem dX3_countSizes_70 : decode cX3_countSizes 70 = .ok (.istore 7, 2) := by decide +kernel
theorem dX3_countSizes_72 : decode cX3_countSizes 72 = .ok (.iload 7, 2) := by decide +kernel
theorem dX3_countSizes_74 : decode cX3_countSizes 74 = .ok (.iload 6, 2) := by decide +kernel
theorem dX3_countSizes_76 : decode cX3_countSizes 76 = .ok (.if_icmp .ge 43, 3) := by decide +kernel
theorem dX3_countSizes_79 : decode cX3_countSizes 79 = .ok (.iload 5, 2) := by decide +kernel
theorem dX3_countSizes_81 : decode cX3_countSizes 81 = .ok (.aload 4, 2) := by decide +kernel
theorem dX3_countSizes_83 : decode cX3_countSizes 83 = .ok (.getfield 52, 3) := by decide +kernel
theorem dX3_countSizes_86 : decode cX3_countSizes 86 = .ok (.iconst 1, 1) := by decide +kernel
theorem dX3_countSizes_87 : decode cX3_countSizes 87 = .ok (.iload_n 2, 1) := by decide +kernel
theorem dX3_countSizes_88 : decode cX3_countSizes 88 = .ok (.isub, 1) := by decide +kernel
theorem dX3_countSizes_89 : decode cX3_countSizes 89 = .ok (.aaload, 1) := by decide +kernel
theorem dX3_countSizes_90 : decode cX3_countSizes 90 = .ok (.iload 7, 2) := by decide +kernel
theorem dX3_countSizes_92 : decode cX3_countSizes 92 = .ok (.invokestatic 56, 3) := by decide +kernel
theorem dX3_countSizes_95 : decode cX3_countSizes 95 = .ok (.iaload, 1) := by decide +kernel
theorem dX3_countSizes_96 : decode cX3_countSizes 96 = .ok (.ixor, 1) := by decide +kernel
theorem dX3_countSizes_97 : decode cX3_countSizes 97 = .ok (.istore 5, 2) := by decide +kernel
theorem dX3_countSizes_99 : decode cX3_countSizes 99 = .ok (.aload_n 0, 1) := by decide +kernel
theorem dX3_countSizes_100 : decode cX3_countSizes 100 = .ok (.getfield 9, 3) := by decide +kernel
theorem dX3_countSizes_103 : decode cX3_countSizes 103 = .ok (.iload 5, 2) := by decide +kernel
theorem dX3_countSizes_105 : decode cX3_countSizes 105 = .ok (.invokestatic 42, 3) := by decide +kernel
theorem dX3_countSizes_108 : decode cX3_countSizes 108 = .ok (.dup2, 1) := by decide +kernel
theorem dX3_countSizes_109 : decode cX3_countSizes 109 = .ok (.iaload, 1) := by decide +kernel
theorem dX3_countSizes_110 : decode cX3_countSizes 110 = .ok (.iconst 1, 1) := by decide +kernel
theorem dX3_countSizes_111 : decode cX3_countSizes 111 = .ok (.iadd, 1) := by decide +kernel
theorem dX3_countSizes_112 : decode cX3_countSizes 112 = .ok (.iastore, 1) := by decide +kernel
theorem dX3_countSizes_113 : decode cX3_countSizes 113 = .ok (.iinc 7 1, 3) := by decide +kernel
theorem dX3_countSizes_116 : decode cX3_countSizes 116 = .ok (.goto (-44), 3) := by decide +kernel
theorem dX3_countSizes_119 : decode cX3_countSizes 119 = .ok (.return_, 1) := by decide +kernel
theorem dX3_leastSize_0 : decode cX3_leastSize 0 = .ok (.iconst 0, 1) := by decide +kernel
theorem dX3_leastSize_1 : decode cX3_leastSize 1 = .ok (.istore_n 2, 1) := by decide +kernel
theorem dX3_leastSize_2 : decode cX3_leastSize 2 = .ok (.iload_n 2, 1) := by decide +kernel
theorem dX3_leastSize_3 : decode cX3_leastSize 3 = .ok (.iload_n 1, 1) := by decide +kernel
theorem dX3_leastSize_4 : decode cX3_leastSize 4 = .ok (.if_icmp .gt 20, 3) := by decide +kernel
theorem dX3_leastSize_7 : decode cX3_leastSize 7 = .ok (.aload_n 0, 1) := by decide +kernel
theorem dX3_leastSize_8 : decode cX3_leastSize 8 = .ok (.getfield 9, 3) := by decide +kernel
theorem dX3_leastSize_11 : decode cX3_leastSize 11 = .ok (.iload_n 2, 1) := by decide +kernel
theorem dX3_leastSize_12 : decode cX3_leastSize 12 = .ok (.iaload, 1) := by decide +kernel
theorem dX3_leastSize_13 : decode cX3_leastSize 13 = .ok (.ifCond .le 5, 3) := by decide +kernel
theorem dX3_leastSize_16 : decode cX3_leastSize 16 = .ok (.iload_n 2, 1) := by decide +kernel
theorem dX3_leastSize_17 : decode cX3_leastSize 17 = .ok (.ireturn, 1) := by decide +kernel
theorem dX3_leastSize_18 : decode cX3_leastSize 18 = .ok (.iinc 2 1, 3) := by decide +kernel
theorem dX3_leastSize_21 : decode cX3_leastSize 21 = .ok (.goto (-19), 3) := by decide +kernel
theorem dX3_leastSize_24 : decode cX3_leastSize 24 = .ok (.iconst (-1), 1) := by decide +kernel
theorem dX3_leastSize_25 : decode cX3_leastSize 25 = .ok (.ireturn, 1) := by decide +kernel
theorem dX3_chances_0 : decode cX3_chances 0 = .ok (.lconst 0, 1) := by decide +kernel
theorem dX3_chances_1 : decode cX3_chances 1 = .ok (.lstore 4, 2) := by decide +kernel
theorem dX3_chances_3 : decode cX3_chances 3 = .ok (.iconst 0, 1) := by decide +kernel
theorem dX3_chances_4 : decode cX3_chances 4 = .ok (.istore 6, 2) := by decide +kernel
theorem dX3_chances_6 : decode cX3_chances 6 = .ok (.iload 6, 2) := by decide +kernel
theorem dX3_chances_8 : decode cX3_chances 8 = .ok (.iload_n 1, 1) := by decide +kernel
theorem dX3_chances_9 : decode cX3_chances 9 = .ok (.if_icmp .gt 75, 3) := by decide +kernel
theorem dX3_chances_12 : decode cX3_chances 12 = .ok (.iload_n 2, 1) := by decide +kernel
theorem dX3_chances_13 : decode cX3_chances 13 = .ok (.iload 6, 2) := by decide +kernel
theorem dX3_chances_15 : decode cX3_chances 15 = .ok (.invokestatic 59, 3) := by decide +kernel
theorem dX3_chances_18 : decode cX3_chances 18 = .ok (.iload_n 3, 1) := by decide +kernel
theorem dX3_chances_19 : decode cX3_chances 19 = .ok (.iload_n 1, 1) := by decide +kernel
theorem dX3_chances_20 : decode cX3_chances 20 = .ok (.iload 6, 2) := by decide +kernel
theorem dX3_chances_22 : decode cX3_chances 22 = .ok (.isub, 1) := by decide +kernel
theorem dX3_chances_23 : decode cX3_chances 23 = .ok (.invokestatic 59, 3) := by decide +kernel
theorem dX3_chances_26 : decode cX3_chances 26 = .ok (.invokestatic 63, 3) := by decide +kernel
theorem dX3_chances_29 : decode cX3_chances 29 = .ok (.lstore 7, 2) := by decide +kernel
theorem dX3_chances_31 : decode cX3_chances 31 = .ok (.aload_n 0, 1) := by decide +kernel
theorem dX3_chances_32 : decode cX3_chances 32 = .ok (.getfield 9, 3) := by decide +kernel
theorem dX3_chances_35 : decode cX3_chances 35 = .ok (.iload 6, 2) := by decide +kernel
theorem dX3_chances_37 : decode cX3_chances 37 = .ok (.iaload, 1) := by decide +kernel
theorem dX3_chances_38 : decode cX3_chances 38 = .ok (.i2l, 1) := by decide +kernel
theorem dX3_chances_39 : decode cX3_chances 39 = .ok (.lload 7, 2) := by decide +kernel
theorem dX3_chances_41 : decode cX3_chances 41 = .ok (.invokestatic 63, 3) := by decide +kernel
theorem dX3_chances_44 : decode cX3_chances 44 = .ok (.lstore 9, 2) := by decide +kernel
theorem dX3_chances_46 : decode cX3_chances 46 = .ok (.lload 9, 2) := by decide +kernel
theorem dX3_chances_48 : decode cX3_chances 48 = .ok (.ldc2_w 67, 3) := by decide +kernel
theorem dX3_chances_51 : decode cX3_chances 51 = .ok (.lcmp, 1) := by decide +kernel
theorem dX3_chances_52 : decode cX3_chances 52 = .ok (.ifCond .eq 15, 3) := by decide +kernel
theorem dX3_chances_55 : decode cX3_chances 55 = .ok (.lload 9, 2) := by decide +kernel
theorem dX3_chances_57 : decode cX3_chances 57 = .ok (.ldc2_w 69, 3) := by decide +kernel
theorem dX3_chances_60 : decode cX3_chances 60 = .ok (.lload 4, 2) := by decide +kernel
theorem dX3_chances_62 : decode cX3_chances 62 = .ok (.lsub, 1) := by decide +kernel
theorem dX3_chances_63 : decode cX3_chances 63 = .ok (.lcmp, 1) := by decide +kernel
theorem dX3_chances_64 : decode cX3_chances 64 = .ok (.ifCond .le 7, 3) := by decide +kernel
theorem dX3_chances_67 : decode cX3_chances 67 = .ok (.ldc2_w 67, 3) := by decide +kernel
theorem dX3_chances_70 : decode cX3_chances 70 = .ok (.lreturn, 1) := by decide +kernel
theorem dX3_chances_71 : decode cX3_chances 71 = .ok (.lload 4, 2) := by decide +kernel
theorem dX3_chances_73 : decode cX3_chances 73 = .ok (.lload 9, 2) := by decide +kernel
theorem dX3_chances_75 : decode cX3_chances 75 = .ok (.ladd, 1) := by decide +kernel
theorem dX3_chances_76 : decode cX3_chances 76 = .ok (.lstore 4, 2) := by decide +kernel
theorem dX3_chances_78 : decode cX3_chances 78 = .ok (.iinc 6 1, 3) := by decide +kernel
theorem dX3_chances_81 : decode cX3_chances 81 = .ok (.goto (-75), 3) := by decide +kernel
theorem dX3_chances_84 : decode cX3_chances 84 = .ok (.lload 4, 2) := by decide +kernel
theorem dX3_chances_86 : decode cX3_chances 86 = .ok (.lreturn, 1) := by decide +kernel
theorem dX3_power_0 : decode cX3_power 0 = .ok (.lconst 1, 1) := by decide +kernel
theorem dX3_power_1 : decode cX3_power 1 = .ok (.lstore_n 2, 1) := by decide +kernel
theorem dX3_power_2 : decode cX3_power 2 = .ok (.iconst 0, 1) := by decide +kernel
theorem dX3_power_3 : decode cX3_power 3 = .ok (.istore 4, 2) := by decide +kernel
theorem dX3_power_5 : decode cX3_power 5 = .ok (.iload 4, 2) := by decide +kernel
theorem dX3_power_7 : decode cX3_power 7 = .ok (.iload_n 1, 1) := by decide +kernel
theorem dX3_power_8 : decode cX3_power 8 = .ok (.if_icmp .ge 16, 3) := by decide +kernel
theorem dX3_power_11 : decode cX3_power 11 = .ok (.lload_n 2, 1) := by decide +kernel
theorem dX3_power_12 : decode cX3_power 12 = .ok (.iload_n 0, 1) := by decide +kernel
theorem dX3_power_13 : decode cX3_power 13 = .ok (.i2l, 1) := by decide +kernel
theorem dX3_power_14 : decode cX3_power 14 = .ok (.invokestatic 63, 3) := by decide +kernel
theorem dX3_power_17 : decode cX3_power 17 = .ok (.lstore_n 2, 1) := by decide +kernel
theorem dX3_power_18 : decode cX3_power 18 = .ok (.iinc 4 1, 3) := by decide +kernel
theorem dX3_power_21 : decode cX3_power 21 = .ok (.goto (-16), 3) := by decide +kernel
theorem dX3_power_24 : decode cX3_power 24 = .ok (.lload_n 2, 1) := by decide +kernel
theorem dX3_power_25 : decode cX3_power 25 = .ok (.lreturn, 1) := by decide +kernel
theorem dX3_times_0 : decode cX3_times 0 = .ok (.lload_n 0, 1) := by decide +kernel
theorem dX3_times_1 : decode cX3_times 1 = .ok (.lconst 0, 1) := by decide +kernel
theorem dX3_times_2 : decode cX3_times 2 = .ok (.lcmp, 1) := by decide +kernel
theorem dX3_times_3 : decode cX3_times 3 = .ok (.ifCond .eq 9, 3) := by decide +kernel
theorem dX3_times_6 : decode cX3_times 6 = .ok (.lload_n 2, 1) := by decide +kernel
theorem dX3_times_7 : decode cX3_times 7 = .ok (.lconst 0, 1) := by decide +kernel
theorem dX3_times_8 : decode cX3_times 8 = .ok (.lcmp, 1) := by decide +kernel
theorem dX3_times_9 : decode cX3_times 9 = .ok (.ifCond .ne 5, 3) := by decide +kernel
theorem dX3_times_12 : decode cX3_times 12 = .ok (.lconst 0, 1) := by decide +kernel
theorem dX3_times_13 : decode cX3_times 13 = .ok (.lreturn, 1) := by decide +kernel
theorem dX3_times_14 : decode cX3_times 14 = .ok (.lload_n 0, 1) := by decide +kernel
theorem dX3_times_15 : decode cX3_times 15 = .ok (.ldc2_w 67, 3) := by decide +kernel
theorem dX3_times_18 : decode cX3_times 18 = .ok (.lcmp, 1) := by decide +kernel
theorem dX3_times_19 : decode cX3_times 19 = .ok (.ifCond .eq 21, 3) := by decide +kernel
theorem dX3_times_22 : decode cX3_times 22 = .ok (.lload_n 2, 1) := by decide +kernel
theorem dX3_times_23 : decode cX3_times 23 = .ok (.ldc2_w 67, 3) := by decide +kernel
theorem dX3_times_26 : decode cX3_times 26 = .ok (.lcmp, 1) := by decide +kernel
theorem dX3_times_27 : decode cX3_times 27 = .ok (.ifCond .eq 13, 3) := by decide +kernel
theorem dX3_times_30 : decode cX3_times 30 = .ok (.lload_n 0, 1) := by decide +kernel
theorem dX3_times_31 : decode cX3_times 31 = .ok (.ldc2_w 69, 3) := by decide +kernel
theorem dX3_times_34 : decode cX3_times 34 = .ok (.lload_n 2, 1) := by decide +kernel
theorem dX3_times_35 : decode cX3_times 35 = .ok (.ldiv, 1) := by decide +kernel
theorem dX3_times_36 : decode cX3_times 36 = .ok (.lcmp, 1) := by decide +kernel
theorem dX3_times_37 : decode cX3_times 37 = .ok (.ifCond .le 7, 3) := by decide +kernel
theorem dX3_times_40 : decode cX3_times 40 = .ok (.ldc2_w 67, 3) := by decide +kernel
theorem dX3_times_43 : decode cX3_times 43 = .ok (.lreturn, 1) := by decide +kernel
theorem dX3_times_44 : decode cX3_times 44 = .ok (.lload_n 0, 1) := by decide +kernel
theorem dX3_times_45 : decode cX3_times 45 = .ok (.lload_n 2, 1) := by decide +kernel
theorem dX3_times_46 : decode cX3_times 46 = .ok (.lmul, 1) := by decide +kernel
theorem dX3_times_47 : decode cX3_times 47 = .ok (.lreturn, 1) := by decide +kernel
theorem dX3_lightestSet_0 : decode cX3_lightestSet 0 = .ok (.aload_n 1, 1) := by decide +kernel
theorem dX3_lightestSet_1 : decode cX3_lightestSet 1 = .ok (.getfield 30, 3) := by decide +kernel
theorem dX3_lightestSet_4 : decode cX3_lightestSet 4 = .ok (.iload_n 2, 1) := by decide +kernel
theorem dX3_lightestSet_5 : decode cX3_lightestSet 5 = .ok (.iaload, 1) := by decide +kernel
theorem dX3_lightestSet_6 : decode cX3_lightestSet 6 = .ok (.istore_n 3, 1) := by decide +kernel
theorem dX3_lightestSet_7 : decode cX3_lightestSet 7 = .ok (.aload_n 0, 1) := by decide +kernel
theorem dX3_lightestSet_8 : decode cX3_lightestSet 8 = .ok (.aload_n 1, 1) := by decide +kernel
theorem dX3_lightestSet_9 : decode cX3_lightestSet 9 = .ok (.invokevirtual 71, 3) := by decide +kernel
theorem dX3_lightestSet_12 : decode cX3_lightestSet 12 = .ok (.aload_n 0, 1) := by decide +kernel
theorem dX3_lightestSet_13 : decode cX3_lightestSet 13 = .ok (.aload_n 1, 1) := by decide +kernel
theorem dX3_lightestSet_14 : decode cX3_lightestSet 14 = .ok (.getfield 18, 3) := by decide +kernel
theorem dX3_lightestSet_17 : decode cX3_lightestSet 17 = .ok (.iload_n 2, 1) := by decide +kernel
theorem dX3_lightestSet_18 : decode cX3_lightestSet 18 = .ok (.iload_n 3, 1) := by decide +kernel
theorem dX3_lightestSet_19 : decode cX3_lightestSet 19 = .ok (.invokevirtual 75, 3) := by decide +kernel
theorem dX3_lightestSet_22 : decode cX3_lightestSet 22 = .ok (.aload_n 0, 1) := by decide +kernel
theorem dX3_lightestSet_23 : decode cX3_lightestSet 23 = .ok (.aload_n 1, 1) := by decide +kernel
theorem dX3_lightestSet_24 : decode cX3_lightestSet 24 = .ok (.getfield 18, 3) := by decide +kernel
theorem dX3_lightestSet_27 : decode cX3_lightestSet 27 = .ok (.iload_n 2, 1) := by decide +kernel
theorem dX3_lightestSet_28 : decode cX3_lightestSet 28 = .ok (.iload_n 3, 1) := by decide +kernel
theorem dX3_lightestSet_29 : decode cX3_lightestSet 29 = .ok (.aload_n 1, 1) := by decide +kernel
theorem dX3_lightestSet_30 : decode cX3_lightestSet 30 = .ok (.getfield 18, 3) := by decide +kernel
theorem dX3_lightestSet_33 : decode cX3_lightestSet 33 = .ok (.getfield 39, 3) := by decide +kernel
theorem dX3_lightestSet_36 : decode cX3_lightestSet 36 = .ok (.iload_n 2, 1) := by decide +kernel
theorem dX3_lightestSet_37 : decode cX3_lightestSet 37 = .ok (.iaload, 1) := by decide +kernel
theorem dX3_lightestSet_38 : decode cX3_lightestSet 38 = .ok (.ixor, 1) := by decide +kernel
theorem dX3_lightestSet_39 : decode cX3_lightestSet 39 = .ok (.invokevirtual 75, 3) := by decide +kernel
theorem dX3_lightestSet_42 : decode cX3_lightestSet 42 = .ok (.aload_n 0, 1) := by decide +kernel
theorem dX3_lightestSet_43 : decode cX3_lightestSet 43 = .ok (.getfield 79, 3) := by decide +kernel
theorem dX3_lightestSet_46 : decode cX3_lightestSet 46 = .ok (.ireturn, 1) := by decide +kernel
theorem dX3_leastChain_0 : decode cX3_leastChain 0 = .ok (.aload_n 0, 1) := by decide +kernel
theorem dX3_leastChain_1 : decode cX3_leastChain 1 = .ok (.aload_n 1, 1) := by decide +kernel
theorem dX3_leastChain_2 : decode cX3_leastChain 2 = .ok (.invokevirtual 71, 3) := by decide +kernel
theorem dX3_leastChain_5 : decode cX3_leastChain 5 = .ok (.aload_n 0, 1) := by decide +kernel
theorem dX3_leastChain_6 : decode cX3_leastChain 6 = .ok (.aload_n 1, 1) := by decide +kernel
theorem dX3_leastChain_7 : decode cX3_leastChain 7 = .ok (.getfield 18, 3) := by decide +kernel
theorem dX3_leastChain_10 : decode cX3_leastChain 10 = .ok (.iload_n 2, 1) := by decide +kernel
theorem dX3_leastChain_11 : decode cX3_leastChain 11 = .ok (.aload_n 1, 1) := by decide +kernel
theorem dX3_leastChain_12 : decode cX3_leastChain 12 = .ok (.getfield 18, 3) := by decide +kernel
theorem dX3_leastChain_15 : decode cX3_leastChain 15 = .ok (.getfield 39, 3) := by decide +kernel
theorem dX3_leastChain_18 : decode cX3_leastChain 18 = .ok (.iload_n 2, 1) := by decide +kernel
theorem dX3_leastChain_19 : decode cX3_leastChain 19 = .ok (.iaload, 1) := by decide +kernel
theorem dX3_leastChain_20 : decode cX3_leastChain 20 = .ok (.invokevirtual 75, 3) := by decide +kernel
theorem dX3_leastChain_23 : decode cX3_leastChain 23 = .ok (.aload_n 0, 1) := by decide +kernel
theorem dX3_leastChain_24 : decode cX3_leastChain 24 = .ok (.getfield 82, 3) := by decide +kernel
theorem dX3_leastChain_27 : decode cX3_leastChain 27 = .ok (.ireturn, 1) := by decide +kernel
theorem dX3_weighRows_0 : decode cX3_weighRows 0 = .ok (.aload_n 0, 1) := by decide +kernel
theorem dX3_weighRows_1 : decode cX3_weighRows 1 = .ok (.iconst (-1), 1) := by decide +kernel
theorem dX3_weighRows_2 : decode cX3_weighRows 2 = .ok (.putfield 79, 3) := by decide +kernel
theorem dX3_weighRows_5 : decode cX3_weighRows 5 = .ok (.aload_n 0, 1) := by decide +kernel
theorem dX3_weighRows_6 : decode cX3_weighRows 6 = .ok (.sipush 1000, 3) := by decide +kernel
theorem dX3_weighRows_9 : decode cX3_weighRows 9 = .ok (.putfield 82, 3) := by decide +kernel
theorem dX3_weighRows_12 : decode cX3_weighRows 12 = .ok (.iconst 0, 1) := by decide +kernel
theorem dX3_weighRows_13 : decode cX3_weighRows 13 = .ok (.istore_n 2, 1) := by decide +kernel
theorem dX3_weighRows_14 : decode cX3_weighRows 14 = .ok (.iload_n 2, 1) := by decide +kernel
theorem dX3_weighRows_15 : decode cX3_weighRows 15 = .ok (.iconst 5, 1) := by decide +kernel
theorem dX3_weighRows_16 : decode cX3_weighRows 16 = .ok (.if_icmp .ge 77, 3) := by decide +kernel
theorem dX3_weighRows_19 : decode cX3_weighRows 19 = .ok (.aload_n 0, 1) := by decide +kernel
theorem dX3_weighRows_20 : decode cX3_weighRows 20 = .ok (.getfield 15, 3) := by decide +kernel
theorem dX3_weighRows_23 : decode cX3_weighRows 23 = .ok (.iload_n 2, 1) := by decide +kernel
theorem dX3_weighRows_24 : decode cX3_weighRows 24 = .ok (.bipush 32, 2) := by decide +kernel
theorem dX3_weighRows_26 : decode cX3_weighRows 26 = .ok (.imul, 1) := by decide +kernel
theorem dX3_weighRows_27 : decode cX3_weighRows 27 = .ok (.iconst 0, 1) := by decide +kernel
theorem dX3_weighRows_28 : decode cX3_weighRows 28 = .ok (.iastore, 1) := by decide +kernel
theorem dX3_weighRows_29 : decode cX3_weighRows 29 = .ok (.iconst 1, 1) := by decide +kernel
theorem dX3_weighRows_30 : decode cX3_weighRows 30 = .ok (.istore_n 3, 1) := by decide +kernel
theorem dX3_weighRows_31 : decode cX3_weighRows 31 = .ok (.iload_n 3, 1) := by decide +kernel
theorem dX3_weighRows_32 : decode cX3_weighRows 32 = .ok (.bipush 32, 2) := by decide +kernel
theorem dX3_weighRows_34 : decode cX3_weighRows 34 = .ok (.if_icmp .ge 53, 3) := by decide +kernel
theorem dX3_weighRows_37 : decode cX3_weighRows 37 = .ok (.iload_n 2, 1) := by decide +kernel
theorem dX3_weighRows_38 : decode cX3_weighRows 38 = .ok (.iconst 5, 1) := by decide +kernel
theorem dX3_weighRows_39 : decode cX3_weighRows 39 = .ok (.imul, 1) := by decide +kernel
theorem dX3_weighRows_40 : decode cX3_weighRows 40 = .ok (.iload_n 3, 1) := by decide +kernel
theorem dX3_weighRows_41 : decode cX3_weighRows 41 = .ok (.invokestatic 56, 3) := by decide +kernel
theorem dX3_weighRows_44 : decode cX3_weighRows 44 = .ok (.iadd, 1) := by decide +kernel
theorem dX3_weighRows_45 : decode cX3_weighRows 45 = .ok (.istore 4, 2) := by decide +kernel
theorem dX3_weighRows_47 : decode cX3_weighRows 47 = .ok (.aload_n 0, 1) := by decide +kernel
theorem dX3_weighRows_48 : decode cX3_weighRows 48 = .ok (.getfield 15, 3) := by decide +kernel
theorem dX3_weighRows_51 : decode cX3_weighRows 51 = .ok (.iload_n 2, 1) := by decide +kernel
theorem dX3_weighRows_52 : decode cX3_weighRows 52 = .ok (.bipush 32, 2) := by decide +kernel
theorem dX3_weighRows_54 : decode cX3_weighRows 54 = .ok (.imul, 1) := by decide +kernel
theorem dX3_weighRows_55 : decode cX3_weighRows 55 = .ok (.iload_n 3, 1) := by decide +kernel
theorem dX3_weighRows_56 : decode cX3_weighRows 56 = .ok (.iadd, 1) := by decide +kernel
theorem dX3_weighRows_57 : decode cX3_weighRows 57 = .ok (.aload_n 0, 1) := by decide +kernel
theorem dX3_weighRows_58 : decode cX3_weighRows 58 = .ok (.getfield 15, 3) := by decide +kernel
theorem dX3_weighRows_61 : decode cX3_weighRows 61 = .ok (.iload_n 2, 1) := by decide +kernel
theorem dX3_weighRows_62 : decode cX3_weighRows 62 = .ok (.bipush 32, 2) := by decide +kernel
theorem dX3_weighRows_64 : decode cX3_weighRows 64 = .ok (.imul, 1) := by decide +kernel
theorem dX3_weighRows_65 : decode cX3_weighRows 65 = .ok (.iload_n 3, 1) := by decide +kernel
theorem dX3_weighRows_66 : decode cX3_weighRows 66 = .ok (.iload_n 3, 1) := by decide +kernel
theorem dX3_weighRows_67 : decode cX3_weighRows 67 = .ok (.iconst 1, 1) := by decide +kernel
theorem dX3_weighRows_68 : decode cX3_weighRows 68 = .ok (.isub, 1) := by decide +kernel
theorem dX3_weighRows_69 : decode cX3_weighRows 69 = .ok (.iand, 1) := by decide +kernel
theorem dX3_weighRows_70 : decode cX3_weighRows 70 = .ok (.iadd, 1) := by decide +kernel
theorem dX3_weighRows_71 : decode cX3_weighRows 71 = .ok (.iaload, 1) := by decide +kernel
theorem dX3_weighRows_72 : decode cX3_weighRows 72 = .ok (.aload_n 1, 1) := by decide +kernel
theorem dX3_weighRows_73 : decode cX3_weighRows 73 = .ok (.getfield 85, 3) := by decide +kernel
theorem dX3_weighRows_76 : decode cX3_weighRows 76 = .ok (.iload 4, 2) := by decide +kernel
theorem dX3_weighRows_78 : decode cX3_weighRows 78 = .ok (.iaload, 1) := by decide +kernel
theorem dX3_weighRows_79 : decode cX3_weighRows 79 = .ok (.iadd, 1) := by decide +kernel
theorem dX3_weighRows_80 : decode cX3_weighRows 80 = .ok (.iastore, 1) := by decide +kernel
theorem dX3_weighRows_81 : decode cX3_weighRows 81 = .ok (.iinc 3 1, 3) := by decide +kernel
theorem dX3_weighRows_84 : decode cX3_weighRows 84 = .ok (.goto (-53), 3) := by decide +kernel
theorem dX3_weighRows_87 : decode cX3_weighRows 87 = .ok (.iinc 2 1, 3) := by decide +kernel
theorem dX3_weighRows_90 : decode cX3_weighRows 90 = .ok (.goto (-76), 3) := by decide +kernel
theorem dX3_weighRows_93 : decode cX3_weighRows 93 = .ok (.return_, 1) := by decide +kernel
theorem dX3_seekLightest_0 : decode cX3_seekLightest 0 = .ok (.iload_n 3, 1) := by decide +kernel
theorem dX3_seekLightest_1 : decode cX3_seekLightest 1 = .ok (.istore 4, 2) := by decide +kernel
theorem dX3_seekLightest_3 : decode cX3_seekLightest 3 = .ok (.aload_n 0, 1) := by decide +kernel
theorem dX3_seekLightest_4 : decode cX3_seekLightest 4 = .ok (.iload 4, 2) := by decide +kernel
theorem dX3_seekLightest_6 : decode cX3_seekLightest 6 = .ok (.invokevirtual 88, 3) := by decide +kernel
theorem dX3_seekLightest_9 : decode cX3_seekLightest 9 = .ok (.iconst 1, 1) := by decide +kernel
theorem dX3_seekLightest_10 : decode cX3_seekLightest 10 = .ok (.aload_n 1, 1) := by decide +kernel
theorem dX3_seekLightest_11 : decode cX3_seekLightest 11 = .ok (.getfield 48, 3) := by decide +kernel
theorem dX3_seekLightest_14 : decode cX3_seekLightest 14 = .ok (.ishl, 1) := by decide +kernel
theorem dX3_seekLightest_15 : decode cX3_seekLightest 15 = .ok (.istore 5, 2) := by decide +kernel
theorem dX3_seekLightest_17 : decode cX3_seekLightest 17 = .ok (.iconst 1, 1) := by decide +kernel
theorem dX3_seekLightest_18 : decode cX3_seekLightest 18 = .ok (.istore 6, 2) := by decide +kernel
theorem dX3_seekLightest_20 : decode cX3_seekLightest 20 = .ok (.iload 6, 2) := by decide +kernel
theorem dX3_seekLightest_22 : decode cX3_seekLightest 22 = .ok (.iload 5, 2) := by decide +kernel
theorem dX3_seekLightest_24 : decode cX3_seekLightest 24 = .ok (.if_icmp .ge 34, 3) := by decide +kernel
theorem dX3_seekLightest_27 : decode cX3_seekLightest 27 = .ok (.iload 4, 2) := by decide +kernel
theorem dX3_seekLightest_29 : decode cX3_seekLightest 29 = .ok (.aload_n 1, 1) := by decide +kernel
theorem dX3_seekLightest_30 : decode cX3_seekLightest 30 = .ok (.getfield 52, 3) := by decide +kernel
theorem dX3_seekLightest_33 : decode cX3_seekLightest 33 = .ok (.iconst 1, 1) := by decide +kernel
theorem dX3_seekLightest_34 : decode cX3_seekLightest 34 = .ok (.iload_n 2, 1) := by decide +kernel
theorem dX3_seekLightest_35 : decode cX3_seekLightest 35 = .ok (.isub, 1) := by decide +kernel
theorem dX3_seekLightest_36 : decode cX3_seekLightest 36 = .ok (.aaload, 1) := by decide +kernel
theorem dX3_seekLightest_37 : decode cX3_seekLightest 37 = .ok (.iload 6, 2) := by decide +kernel
theorem dX3_seekLightest_39 : decode cX3_seekLightest 39 = .ok (.invokestatic 56, 3) := by decide +kernel
theorem dX3_seekLightest_42 : decode cX3_seekLightest 42 = .ok (.iaload, 1) := by decide +kernel
theorem dX3_seekLightest_43 : decode cX3_seekLightest 43 = .ok (.ixor, 1) := by decide +kernel
theorem dX3_seekLightest_44 : decode cX3_seekLightest 44 = .ok (.istore 4, 2) := by decide +kernel
theorem dX3_seekLightest_46 : decode cX3_seekLightest 46 = .ok (.aload_n 0, 1) := by decide +kernel
theorem dX3_seekLightest_47 : decode cX3_seekLightest 47 = .ok (.iload 4, 2) := by decide +kernel
theorem dX3_seekLightest_49 : decode cX3_seekLightest 49 = .ok (.invokevirtual 88, 3) := by decide +kernel
theorem dX3_seekLightest_52 : decode cX3_seekLightest 52 = .ok (.iinc 6 1, 3) := by decide +kernel
theorem dX3_seekLightest_55 : decode cX3_seekLightest 55 = .ok (.goto (-35), 3) := by decide +kernel
theorem dX3_seekLightest_58 : decode cX3_seekLightest 58 = .ok (.return_, 1) := by decide +kernel
theorem dX3_lookAt_0 : decode cX3_lookAt 0 = .ok (.aload_n 0, 1) := by decide +kernel
theorem dX3_lookAt_1 : decode cX3_lookAt 1 = .ok (.getfield 15, 3) := by decide +kernel
theorem dX3_lookAt_4 : decode cX3_lookAt 4 = .ok (.iload_n 1, 1) := by decide +kernel
theorem dX3_lookAt_5 : decode cX3_lookAt 5 = .ok (.bipush 31, 2) := by decide +kernel
theorem dX3_lookAt_7 : decode cX3_lookAt 7 = .ok (.iand, 1) := by decide +kernel
theorem dX3_lookAt_8 : decode cX3_lookAt 8 = .ok (.iaload, 1) := by decide +kernel
theorem dX3_lookAt_9 : decode cX3_lookAt 9 = .ok (.aload_n 0, 1) := by decide +kernel
theorem dX3_lookAt_10 : decode cX3_lookAt 10 = .ok (.getfield 15, 3) := by decide +kernel
theorem dX3_lookAt_13 : decode cX3_lookAt 13 = .ok (.bipush 32, 2) := by decide +kernel
theorem dX3_lookAt_15 : decode cX3_lookAt 15 = .ok (.iload_n 1, 1) := by decide +kernel
theorem dX3_lookAt_16 : decode cX3_lookAt 16 = .ok (.iconst 5, 1) := by decide +kernel
theorem dX3_lookAt_17 : decode cX3_lookAt 17 = .ok (.ishr, 1) := by decide +kernel
theorem dX3_lookAt_18 : decode cX3_lookAt 18 = .ok (.bipush 31, 2) := by decide +kernel
theorem dX3_lookAt_20 : decode cX3_lookAt 20 = .ok (.iand, 1) := by decide +kernel
theorem dX3_lookAt_21 : decode cX3_lookAt 21 = .ok (.iadd, 1) := by decide +kernel
theorem dX3_lookAt_22 : decode cX3_lookAt 22 = .ok (.iaload, 1) := by decide +kernel
theorem dX3_lookAt_23 : decode cX3_lookAt 23 = .ok (.iadd, 1) := by decide +kernel
theorem dX3_lookAt_24 : decode cX3_lookAt 24 = .ok (.aload_n 0, 1) := by decide +kernel
theorem dX3_lookAt_25 : decode cX3_lookAt 25 = .ok (.getfield 15, 3) := by decide +kernel
theorem dX3_lookAt_28 : decode cX3_lookAt 28 = .ok (.bipush 64, 2) := by decide +kernel
theorem dX3_lookAt_30 : decode cX3_lookAt 30 = .ok (.iload_n 1, 1) := by decide +kernel
theorem dX3_lookAt_31 : decode cX3_lookAt 31 = .ok (.bipush 10, 2) := by decide +kernel
theorem dX3_lookAt_33 : decode cX3_lookAt 33 = .ok (.ishr, 1) := by decide +kernel
theorem dX3_lookAt_34 : decode cX3_lookAt 34 = .ok (.bipush 31, 2) := by decide +kernel
theorem dX3_lookAt_36 : decode cX3_lookAt 36 = .ok (.iand, 1) := by decide +kernel
theorem dX3_lookAt_37 : decode cX3_lookAt 37 = .ok (.iadd, 1) := by decide +kernel
theorem dX3_lookAt_38 : decode cX3_lookAt 38 = .ok (.iaload, 1) := by decide +kernel
theorem dX3_lookAt_39 : decode cX3_lookAt 39 = .ok (.iadd, 1) := by decide +kernel
theorem dX3_lookAt_40 : decode cX3_lookAt 40 = .ok (.aload_n 0, 1) := by decide +kernel
theorem dX3_lookAt_41 : decode cX3_lookAt 41 = .ok (.getfield 15, 3) := by decide +kernel
theorem dX3_lookAt_44 : decode cX3_lookAt 44 = .ok (.bipush 96, 2) := by decide +kernel
theorem dX3_lookAt_46 : decode cX3_lookAt 46 = .ok (.iload_n 1, 1) := by decide +kernel
theorem dX3_lookAt_47 : decode cX3_lookAt 47 = .ok (.bipush 15, 2) := by decide +kernel
theorem dX3_lookAt_49 : decode cX3_lookAt 49 = .ok (.ishr, 1) := by decide +kernel
theorem dX3_lookAt_50 : decode cX3_lookAt 50 = .ok (.bipush 31, 2) := by decide +kernel
theorem dX3_lookAt_52 : decode cX3_lookAt 52 = .ok (.iand, 1) := by decide +kernel
theorem dX3_lookAt_53 : decode cX3_lookAt 53 = .ok (.iadd, 1) := by decide +kernel
theorem dX3_lookAt_54 : decode cX3_lookAt 54 = .ok (.iaload, 1) := by decide +kernel
theorem dX3_lookAt_55 : decode cX3_lookAt 55 = .ok (.iadd, 1) := by decide +kernel
theorem dX3_lookAt_56 : decode cX3_lookAt 56 = .ok (.aload_n 0, 1) := by decide +kernel
theorem dX3_lookAt_57 : decode cX3_lookAt 57 = .ok (.getfield 15, 3) := by decide +kernel
theorem dX3_lookAt_60 : decode cX3_lookAt 60 = .ok (.sipush 128, 3) := by decide +kernel
theorem dX3_lookAt_63 : decode cX3_lookAt 63 = .ok (.iload_n 1, 1) := by decide +kernel
theorem dX3_lookAt_64 : decode cX3_lookAt 64 = .ok (.bipush 20, 2) := by decide +kernel
theorem dX3_lookAt_66 : decode cX3_lookAt 66 = .ok (.ishr, 1) := by decide +kernel
theorem dX3_lookAt_67 : decode cX3_lookAt 67 = .ok (.bipush 31, 2) := by decide +kernel
theorem dX3_lookAt_69 : decode cX3_lookAt 69 = .ok (.iand, 1) := by decide +kernel
theorem dX3_lookAt_70 : decode cX3_lookAt 70 = .ok (.iadd, 1) := by decide +kernel
theorem dX3_lookAt_71 : decode cX3_lookAt 71 = .ok (.iaload, 1) := by decide +kernel
theorem dX3_lookAt_72 : decode cX3_lookAt 72 = .ok (.iadd, 1) := by decide +kernel
theorem dX3_lookAt_73 : decode cX3_lookAt 73 = .ok (.istore_n 2, 1) := by decide +kernel
theorem dX3_lookAt_74 : decode cX3_lookAt 74 = .ok (.iload_n 2, 1) := by decide +kernel
theorem dX3_lookAt_75 : decode cX3_lookAt 75 = .ok (.aload_n 0, 1) := by decide +kernel
theorem dX3_lookAt_76 : decode cX3_lookAt 76 = .ok (.getfield 82, 3) := by decide +kernel
theorem dX3_lookAt_79 : decode cX3_lookAt 79 = .ok (.if_icmp .lt 19, 3) := by decide +kernel
theorem dX3_lookAt_82 : decode cX3_lookAt 82 = .ok (.iload_n 2, 1) := by decide +kernel
theorem dX3_lookAt_83 : decode cX3_lookAt 83 = .ok (.aload_n 0, 1) := by decide +kernel
theorem dX3_lookAt_84 : decode cX3_lookAt 84 = .ok (.getfield 82, 3) := by decide +kernel
theorem dX3_lookAt_87 : decode cX3_lookAt 87 = .ok (.if_icmp .ne 21, 3) := by decide +kernel
theorem dX3_lookAt_90 : decode cX3_lookAt 90 = .ok (.iload_n 1, 1) := by decide +kernel
theorem dX3_lookAt_91 : decode cX3_lookAt 91 = .ok (.aload_n 0, 1) := by decide +kernel
theorem dX3_lookAt_92 : decode cX3_lookAt 92 = .ok (.getfield 79, 3) := by decide +kernel
theorem dX3_lookAt_95 : decode cX3_lookAt 95 = .ok (.if_icmp .ge 13, 3) := by decide +kernel
theorem dX3_lookAt_98 : decode cX3_lookAt 98 = .ok (.aload_n 0, 1) := by decide +kernel
theorem dX3_lookAt_99 : decode cX3_lookAt 99 = .ok (.iload_n 2, 1) := by decide +kernel
theorem dX3_lookAt_100 : decode cX3_lookAt 100 = .ok (.putfield 82, 3) := by decide +kernel
theorem dX3_lookAt_103 : decode cX3_lookAt 103 = .ok (.aload_n 0, 1) := by decide +kernel
theorem dX3_lookAt_104 : decode cX3_lookAt 104 = .ok (.iload_n 1, 1) := by decide +kernel
theorem dX3_lookAt_105 : decode cX3_lookAt 105 = .ok (.putfield 79, 3) := by decide +kernel
theorem dX3_lookAt_108 : decode cX3_lookAt 108 = .ok (.return_, 1) := by decide +kernel
theorem dX4_init_0 : decode cX4_init 0 = .ok (.aload_n 0, 1) := by decide +kernel
theorem dX4_init_1 : decode cX4_init 1 = .ok (.invokespecial 3, 3) := by decide +kernel
theorem dX4_init_4 : decode cX4_init 4 = .ok (.aload_n 0, 1) := by decide +kernel
theorem dX4_init_5 : decode cX4_init 5 = .ok (.sipush 321, 3) := by decide +kernel
theorem dX4_init_8 : decode cX4_init 8 = .ok (.newarray .int, 2) := by decide +kernel
theorem dX4_init_10 : decode cX4_init 10 = .ok (.putfield 9, 3) := by decide +kernel
theorem dX4_init_13 : decode cX4_init 13 = .ok (.aload_n 0, 1) := by decide +kernel
theorem dX4_init_14 : decode cX4_init 14 = .ok (.sipush 321, 3) := by decide +kernel
theorem dX4_init_17 : decode cX4_init 17 = .ok (.newarray .int, 2) := by decide +kernel
theorem dX4_init_19 : decode cX4_init 19 = .ok (.putfield 15, 3) := by decide +kernel
theorem dX4_init_22 : decode cX4_init 22 = .ok (.aload_n 0, 1) := by decide +kernel
theorem dX4_init_23 : decode cX4_init 23 = .ok (.sipush 321, 3) := by decide +kernel
theorem dX4_init_26 : decode cX4_init 26 = .ok (.newarray .int, 2) := by decide +kernel
theorem dX4_init_28 : decode cX4_init 28 = .ok (.putfield 18, 3) := by decide +kernel
theorem dX4_init_31 : decode cX4_init 31 = .ok (.aload_n 0, 1) := by decide +kernel
theorem dX4_init_32 : decode cX4_init 32 = .ok (.bipush 108, 2) := by decide +kernel
theorem dX4_init_34 : decode cX4_init 34 = .ok (.newarray .int, 2) := by decide +kernel
theorem dX4_init_36 : decode cX4_init 36 = .ok (.putfield 21, 3) := by decide +kernel
theorem dX4_init_39 : decode cX4_init 39 = .ok (.aload_n 0, 1) := by decide +kernel
theorem dX4_init_40 : decode cX4_init 40 = .ok (.sipush 648, 3) := by decide +kernel
theorem dX4_init_43 : decode cX4_init 43 = .ok (.newarray .int, 2) := by decide +kernel
theorem dX4_init_45 : decode cX4_init 45 = .ok (.putfield 24, 3) := by decide +kernel
theorem dX4_init_48 : decode cX4_init 48 = .ok (.aload_n 0, 1) := by decide +kernel
theorem dX4_init_49 : decode cX4_init 49 = .ok (.bipush 108, 2) := by decide +kernel
theorem dX4_init_51 : decode cX4_init 51 = .ok (.newarray .int, 2) := by decide +kernel
theorem dX4_init_53 : decode cX4_init 53 = .ok (.putfield 27, 3) := by decide +kernel
theorem dX4_init_56 : decode cX4_init 56 = .ok (.aload_n 0, 1) := by decide +kernel
theorem dX4_init_57 : decode cX4_init 57 = .ok (.bipush 108, 2) := by decide +kernel
theorem dX4_init_59 : decode cX4_init 59 = .ok (.newarray .int, 2) := by decide +kernel
theorem dX4_init_61 : decode cX4_init 61 = .ok (.putfield 30, 3) := by decide +kernel
theorem dX4_init_64 : decode cX4_init 64 = .ok (.aload_n 0, 1) := by decide +kernel
theorem dX4_init_65 : decode cX4_init 65 = .ok (.bipush 108, 2) := by decide +kernel
theorem dX4_init_67 : decode cX4_init 67 = .ok (.newarray .int, 2) := by decide +kernel
theorem dX4_init_69 : decode cX4_init 69 = .ok (.putfield 33, 3) := by decide +kernel
theorem dX4_init_72 : decode cX4_init 72 = .ok (.return_, 1) := by decide +kernel
theorem dX4_spread_0 : decode cX4_spread 0 = .ok (.aload_n 0, 1) := by decide +kernel
theorem dX4_spread_1 : decode cX4_spread 1 = .ok (.aload_n 1, 1) := by decide +kernel
theorem dX4_spread_2 : decode cX4_spread 2 = .ok (.getfield 36, 3) := by decide +kernel
theorem dX4_spread_5 : decode cX4_spread 5 = .ok (.iconst 1, 1) := by decide +kernel
theorem dX4_spread_6 : decode cX4_spread 6 = .ok (.iadd, 1) := by decide +kernel
theorem dX4_spread_7 : decode cX4_spread 7 = .ok (.putfield 42, 3) := by decide +kernel
theorem dX4_spread_10 : decode cX4_spread 10 = .ok (.aload_n 0, 1) := by decide +kernel
theorem dX4_spread_11 : decode cX4_spread 11 = .ok (.aload_n 1, 1) := by decide +kernel
theorem dX4_spread_12 : decode cX4_spread 12 = .ok (.getfield 45, 3) := by decide +kernel
theorem dX4_spread_15 : decode cX4_spread 15 = .ok (.getfield 49, 3) := by decide +kernel
theorem dX4_spread_18 : decode cX4_spread 18 = .ok (.putfield 54, 3) := by decide +kernel
theorem dX4_spread_21 : decode cX4_spread 21 = .ok (.aload_n 0, 1) := by decide +kernel
theorem dX4_spread_22 : decode cX4_spread 22 = .ok (.aload_n 1, 1) := by decide +kernel
theorem dX4_spread_23 : decode cX4_spread 23 = .ok (.getfield 45, 3) := by decide +kernel
theorem dX4_spread_26 : decode cX4_spread 26 = .ok (.getfield 55, 3) := by decide +kernel
theorem dX4_spread_29 : decode cX4_spread 29 = .ok (.putfield 58, 3) := by decide +kernel
theorem dX4_spread_32 : decode cX4_spread 32 = .ok (.aload_n 0, 1) := by decide +kernel
theorem dX4_spread_33 : decode cX4_spread 33 = .ok (.aload_n 0, 1) := by decide +kernel
theorem dX4_spread_34 : decode cX4_spread 34 = .ok (.getfield 42, 3) := by decide +kernel
theorem dX4_spread_37 : decode cX4_spread 37 = .ok (.aload_n 0, 1) := by decide +kernel
theorem dX4_spread_38 : decode cX4_spread 38 = .ok (.getfield 58, 3) := by decide +kernel
theorem dX4_spread_41 : decode cX4_spread 41 = .ok (.imul, 1) := by decide +kernel
theorem dX4_spread_42 : decode cX4_spread 42 = .ok (.putfield 59, 3) := by decide +kernel
theorem dX4_spread_45 : decode cX4_spread 45 = .ok (.aload_n 0, 1) := by decide +kernel
theorem dX4_spread_46 : decode cX4_spread 46 = .ok (.aload_n 0, 1) := by decide +kernel
theorem dX4_spread_47 : decode cX4_spread 47 = .ok (.getfield 59, 3) := by decide +kernel
theorem dX4_spread_50 : decode cX4_spread 50 = .ok (.putfield 62, 3) := by decide +kernel
theorem dX4_spread_53 : decode cX4_spread 53 = .ok (.aload_n 0, 1) := by decide +kernel
theorem dX4_spread_54 : decode cX4_spread 54 = .ok (.iconst 0, 1) := by decide +kernel
theorem dX4_spread_55 : decode cX4_spread 55 = .ok (.putfield 65, 3) := by decide +kernel
theorem dX4_spread_58 : decode cX4_spread 58 = .ok (.aload_n 0, 1) := by decide +kernel
theorem dX4_spread_59 : decode cX4_spread 59 = .ok (.getfield 21, 3) := by decide +kernel
theorem dX4_spread_62 : decode cX4_spread 62 = .ok (.iconst 0, 1) := by decide +kernel
theorem dX4_spread_63 : decode cX4_spread 63 = .ok (.invokestatic 68, 3) := by decide +kernel
theorem dX4_spread_66 : decode cX4_spread 66 = .ok (.iconst 0, 1) := by decide +kernel
theorem dX4_spread_67 : decode cX4_spread 67 = .ok (.istore_n 3, 1) := by decide +kernel
theorem dX4_spread_68 : decode cX4_spread 68 = .ok (.iload_n 3, 1) := by decide +kernel
theorem dX4_spread_69 : decode cX4_spread 69 = .ok (.aload_n 0, 1) := by decide +kernel
theorem dX4_spread_70 : decode cX4_spread 70 = .ok (.getfield 42, 3) := by decide +kernel
theorem dX4_spread_73 : decode cX4_spread 73 = .ok (.if_icmp .ge 33, 3) := by decide +kernel
theorem dX4_spread_76 : decode cX4_spread 76 = .ok (.aload_n 0, 1) := by decide +kernel
theorem dX4_spread_77 : decode cX4_spread 77 = .ok (.aload_n 1, 1) := by decide +kernel
theorem dX4_spread_78 : decode cX4_spread 78 = .ok (.iload_n 2, 1) := by decide +kernel
theorem dX4_spread_79 : decode cX4_spread 79 = .ok (.iload_n 3, 1) := by decide +kernel
theorem dX4_spread_80 : decode cX4_spread 80 = .ok (.invokevirtual 74, 3) := by decide +kernel
theorem dX4_spread_83 : decode cX4_spread 83 = .ok (.iload_n 3, 1) := by decide +kernel
theorem dX4_spread_84 : decode cX4_spread 84 = .ok (.iconst 1, 1) := by decide +kernel
theorem dX4_spread_85 : decode cX4_spread 85 = .ok (.iadd, 1) := by decide +kernel
theorem dX4_spread_86 : decode cX4_spread 86 = .ok (.aload_n 0, 1) := by decide +kernel
theorem dX4_spread_87 : decode cX4_spread 87 = .ok (.getfield 42, 3) := by decide +kernel
theorem dX4_spread_90 : decode cX4_spread 90 = .ok (.if_icmp .ge 10, 3) := by decide +kernel
theorem dX4_spread_93 : decode cX4_spread 93 = .ok (.aload_n 0, 1) := by decide +kernel
theorem dX4_spread_94 : decode cX4_spread 94 = .ok (.aload_n 1, 1) := by decide +kernel
theorem dX4_spread_95 : decode cX4_spread 95 = .ok (.iload_n 2, 1) := by decide +kernel
theorem dX4_spread_96 : decode cX4_spread 96 = .ok (.iload_n 3, 1) := by decide +kernel
theorem dX4_spread_97 : decode cX4_spread 97 = .ok (.invokevirtual 78, 3) := by decide +kernel
theorem dX4_spread_100 : decode cX4_spread 100 = .ok (.iinc 3 1, 3) := by decide +kernel
theorem dX4_spread_103 : decode cX4_spread 103 = .ok (.goto (-35), 3) := by decide +kernel
theorem dX4_spread_106 : decode cX4_spread 106 = .ok (.aload_n 0, 1) := by decide +kernel
theorem dX4_spread_107 : decode cX4_spread 107 = .ok (.aload_n 1, 1) := by decide +kernel
theorem dX4_spread_108 : decode cX4_spread 108 = .ok (.iload_n 2, 1) := by decide +kernel
theorem dX4_spread_109 : decode cX4_spread 109 = .ok (.invokevirtual 81, 3) := by decide +kernel
theorem dX4_spread_112 : decode cX4_spread 112 = .ok (.return_, 1) := by decide +kernel
theorem dX4_joinWithin_0 : decode cX4_joinWithin 0 = .ok (.iconst 0, 1) := by decide +kernel
theorem dX4_joinWithin_1 : decode cX4_joinWithin 1 = .ok (.istore 4, 2) := by decide +kernel
theorem dX4_joinWithin_3 : decode cX4_joinWithin 3 = .ok (.iload 4, 2) := by decide +kernel
theorem dX4_joinWithin_5 : decode cX4_joinWithin 5 = .ok (.aload_n 0, 1) := by decide +kernel
theorem dX4_joinWithin_6 : decode cX4_joinWithin 6 = .ok (.getfield 54, 3) := by decide +kernel
theorem dX4_joinWithin_9 : decode cX4_joinWithin 9 = .ok (.if_icmp .ge 79, 3) := by decide +kernel
theorem dX4_joinWithin_12 : decode cX4_joinWithin 12 = .ok (.aload_n 1, 1) := by decide +kernel
theorem dX4_joinWithin_13 : decode cX4_joinWithin 13 = .ok (.getfield 45, 3) := by decide +kernel
theorem dX4_joinWithin_16 : decode cX4_joinWithin 16 = .ok (.getfield 85, 3) := by decide +kernel
theorem dX4_joinWithin_19 : decode cX4_joinWithin 19 = .ok (.iload_n 2, 1) := by decide +kernel
theorem dX4_joinWithin_20 : decode cX4_joinWithin 20 = .ok (.aaload, 1) := by decide +kernel
theorem dX4_joinWithin_21 : decode cX4_joinWithin 21 = .ok (.iload 4, 2) := by decide +kernel
theorem dX4_joinWithin_23 : decode cX4_joinWithin 23 = .ok (.iaload, 1) := by decide +kernel
theorem dX4_joinWithin_24 : decode cX4_joinWithin 24 = .ok (.istore 5, 2) := by decide +kernel
theorem dX4_joinWithin_26 : decode cX4_joinWithin 26 = .ok (.iload 5, 2) := by decide +kernel
theorem dX4_joinWithin_28 : decode cX4_joinWithin 28 = .ok (.iconst (-1), 1) := by decide +kernel
theorem dX4_joinWithin_29 : decode cX4_joinWithin 29 = .ok (.if_icmp .ne 10, 3) := by decide +kernel
theorem dX4_joinWithin_32 : decode cX4_joinWithin 32 = .ok (.aload_n 0, 1) := by decide +kernel
theorem dX4_joinWithin_33 : decode cX4_joinWithin 33 = .ok (.getfield 62, 3) := by decide +kernel
theorem dX4_joinWithin_36 : decode cX4_joinWithin 36 = .ok (.goto 12, 3) := by decide +kernel
theorem dX4_joinWithin_39 : decode cX4_joinWithin 39 = .ok (.iload_n 3, 1) := by decide +kernel
theorem dX4_joinWithin_40 : decode cX4_joinWithin 40 = .ok (.aload_n 0, 1) := by decide +kernel
theorem dX4_joinWithin_41 : decode cX4_joinWithin 41 = .ok (.getfield 58, 3) := by decide +kernel
theorem dX4_joinWithin_44 : decode cX4_joinWithin 44 = .ok (.imul, 1) := by decide +kernel
theorem dX4_joinWithin_45 : decode cX4_joinWithin 45 = .ok (.iload 5, 2) := by decide +kernel
theorem dX4_joinWithin_47 : decode cX4_joinWithin 47 = .ok (.iadd, 1) := by decide +kernel
theorem dX4_joinWithin_48 : decode cX4_joinWithin 48 = .ok (.istore 6, 2) := by decide +kernel
theorem dX4_joinWithin_50 : decode cX4_joinWithin 50 = .ok (.aload_n 0, 1) := by decide +kernel
theorem dX4_joinWithin_51 : decode cX4_joinWithin 51 = .ok (.iload_n 3, 1) := by decide +kernel
theorem dX4_joinWithin_52 : decode cX4_joinWithin 52 = .ok (.aload_n 0, 1) := by decide +kernel
theorem dX4_joinWithin_53 : decode cX4_joinWithin 53 = .ok (.getfield 58, 3) := by decide +kernel
theorem dX4_joinWithin_56 : decode cX4_joinWithin 56 = .ok (.imul, 1) := by decide +kernel
theorem dX4_joinWithin_57 : decode cX4_joinWithin 57 = .ok (.aload_n 1, 1) := by decide +kernel
theorem dX4_joinWithin_58 : decode cX4_joinWithin 58 = .ok (.getfield 45, 3) := by decide +kernel
theorem dX4_joinWithin_61 : decode cX4_joinWithin 61 = .ok (.getfield 89, 3) := by decide +kernel
theorem dX4_joinWithin_64 : decode cX4_joinWithin 64 = .ok (.iload_n 2, 1) := by decide +kernel
theorem dX4_joinWithin_65 : decode cX4_joinWithin 65 = .ok (.aaload, 1) := by decide +kernel
theorem dX4_joinWithin_66 : decode cX4_joinWithin 66 = .ok (.iload 4, 2) := by decide +kernel
theorem dX4_joinWithin_68 : decode cX4_joinWithin 68 = .ok (.iaload, 1) := by decide +kernel
theorem dX4_joinWithin_69 : decode cX4_joinWithin 69 = .ok (.iadd, 1) := by decide +kernel
theorem dX4_joinWithin_70 : decode cX4_joinWithin 70 = .ok (.iload 6, 2) := by decide +kernel
theorem dX4_joinWithin_72 : decode cX4_joinWithin 72 = .ok (.aload_n 1, 1) := by decide +kernel
theorem dX4_joinWithin_73 : decode cX4_joinWithin 73 = .ok (.getfield 92, 3) := by decide +kernel
theorem dX4_joinWithin_76 : decode cX4_joinWithin 76 = .ok (.iload 4, 2) := by decide +kernel
theorem dX4_joinWithin_78 : decode cX4_joinWithin 78 = .ok (.iaload, 1) := by decide +kernel
theorem dX4_joinWithin_79 : decode cX4_joinWithin 79 = .ok (.invokevirtual 95, 3) := by decide +kernel
theorem dX4_joinWithin_82 : decode cX4_joinWithin 82 = .ok (.iinc 4 1, 3) := by decide +kernel
theorem dX4_joinWithin_85 : decode cX4_joinWithin 85 = .ok (.goto (-82), 3) := by decide +kernel
theorem dX4_joinWithin_88 : decode cX4_joinWithin 88 = .ok (.return_, 1) := by decide +kernel
theorem dX4_joinToNext_0 : decode cX4_joinToNext 0 = .ok (.iconst 0, 1) := by decide +kernel
theorem dX4_joinToNext_1 : decode cX4_joinToNext 1 = .ok (.istore 4, 2) := by decide +kernel
theorem dX4_joinToNext_3 : decode cX4_joinToNext 3 = .ok (.iload 4, 2) := by decide +kernel
theorem dX4_joinToNext_5 : decode cX4_joinToNext 5 = .ok (.aload_n 0, 1) := by decide +kernel
theorem dX4_joinToNext_6 : decode cX4_joinToNext 6 = .ok (.getfield 58, 3) := by decide +kernel
theorem dX4_joinToNext_9 : decode cX4_joinToNext 9 = .ok (.if_icmp .ge 42, 3) := by decide +kernel
theorem dX4_joinToNext_12 : decode cX4_joinToNext 12 = .ok (.aload_n 0, 1) := by decide +kernel
theorem dX4_joinToNext_13 : decode cX4_joinToNext 13 = .ok (.iload_n 3, 1) := by decide +kernel
theorem dX4_joinToNext_14 : decode cX4_joinToNext 14 = .ok (.aload_n 0, 1) := by decide +kernel
theorem dX4_joinToNext_15 : decode cX4_joinToNext 15 = .ok (.getfield 58, 3) := by decide +kernel
theorem dX4_joinToNext_18 : decode cX4_joinToNext 18 = .ok (.imul, 1) := by decide +kernel
theorem dX4_joinToNext_19 : decode cX4_joinToNext 19 = .ok (.iload 4, 2) := by decide +kernel
theorem dX4_joinToNext_21 : decode cX4_joinToNext 21 = .ok (.iadd, 1) := by decide +kernel
theorem dX4_joinToNext_22 : decode cX4_joinToNext 22 = .ok (.iload_n 3, 1) := by decide +kernel
theorem dX4_joinToNext_23 : decode cX4_joinToNext 23 = .ok (.iconst 1, 1) := by decide +kernel
theorem dX4_joinToNext_24 : decode cX4_joinToNext 24 = .ok (.iadd, 1) := by decide +kernel
theorem dX4_joinToNext_25 : decode cX4_joinToNext 25 = .ok (.aload_n 0, 1) := by decide +kernel
theorem dX4_joinToNext_26 : decode cX4_joinToNext 26 = .ok (.getfield 58, 3) := by decide +kernel
theorem dX4_joinToNext_29 : decode cX4_joinToNext 29 = .ok (.imul, 1) := by decide +kernel
theorem dX4_joinToNext_30 : decode cX4_joinToNext 30 = .ok (.iload 4, 2) := by decide +kernel
theorem dX4_joinToNext_32 : decode cX4_joinToNext 32 = .ok (.iadd, 1) := by decide +kernel
theorem dX4_joinToNext_33 : decode cX4_joinToNext 33 = .ok (.aload_n 1, 1) := by decide +kernel
theorem dX4_joinToNext_34 : decode cX4_joinToNext 34 = .ok (.getfield 99, 3) := by decide +kernel
theorem dX4_joinToNext_37 : decode cX4_joinToNext 37 = .ok (.iload_n 2, 1) := by decide +kernel
theorem dX4_joinToNext_38 : decode cX4_joinToNext 38 = .ok (.aaload, 1) := by decide +kernel
theorem dX4_joinToNext_39 : decode cX4_joinToNext 39 = .ok (.iload 4, 2) := by decide +kernel
theorem dX4_joinToNext_41 : decode cX4_joinToNext 41 = .ok (.iaload, 1) := by decide +kernel
theorem dX4_joinToNext_42 : decode cX4_joinToNext 42 = .ok (.invokevirtual 95, 3) := by decide +kernel
theorem dX4_joinToNext_45 : decode cX4_joinToNext 45 = .ok (.iinc 4 1, 3) := by decide +kernel
theorem dX4_joinToNext_48 : decode cX4_joinToNext 48 = .ok (.goto (-45), 3) := by decide +kernel
theorem dX4_joinToNext_51 : decode cX4_joinToNext 51 = .ok (.return_, 1) := by decide +kernel
theorem dX4_join_0 : decode cX4_join 0 = .ok (.aload_n 0, 1) := by decide +kernel
theorem dX4_join_1 : decode cX4_join 1 = .ok (.getfield 65, 3) := by decide +kernel
theorem dX4_join_4 : decode cX4_join 4 = .ok (.sipush 321, 3) := by decide +kernel
theorem dX4_join_7 : decode cX4_join 7 = .ok (.if_icmp .lt 4, 3) := by decide +kernel
theorem dX4_join_10 : decode cX4_join 10 = .ok (.return_, 1) := by decide +kernel
theorem dX4_join_11 : decode cX4_join 11 = .ok (.aload_n 0, 1) := by decide +kernel
theorem dX4_join_12 : decode cX4_join 12 = .ok (.getfield 9, 3) := by decide +kernel
theorem dX4_join_15 : decode cX4_join 15 = .ok (.aload_n 0, 1) := by decide +kernel
theorem dX4_join_16 : decode cX4_join 16 = .ok (.getfield 65, 3) := by decide +kernel
theorem dX4_join_19 : decode cX4_join 19 = .ok (.iload_n 1, 1) := by decide +kernel
theorem dX4_join_20 : decode cX4_join 20 = .ok (.iastore, 1) := by decide +kernel
theorem dX4_join_21 : decode cX4_join 21 = .ok (.aload_n 0, 1) := by decide +kernel
theorem dX4_join_22 : decode cX4_join 22 = .ok (.getfield 15, 3) := by decide +kernel
theorem dX4_join_25 : decode cX4_join 25 = .ok (.aload_n 0, 1) := by decide +kernel
theorem dX4_join_26 : decode cX4_join 26 = .ok (.getfield 65, 3) := by decide +kernel
theorem dX4_join_29 : decode cX4_join 29 = .ok (.iload_n 2, 1) := by decide +kernel
theorem dX4_join_30 : decode cX4_join 30 = .ok (.iastore, 1) := by decide +kernel
theorem dX4_join_31 : decode cX4_join 31 = .ok (.aload_n 0, 1) := by decide +kernel
theorem dX4_join_32 : decode cX4_join 32 = .ok (.getfield 18, 3) := by decide +kernel
theorem dX4_join_35 : decode cX4_join 35 = .ok (.aload_n 0, 1) := by decide +kernel
theorem dX4_join_36 : decode cX4_join 36 = .ok (.getfield 65, 3) := by decide +kernel
theorem dX4_join_39 : decode cX4_join 39 = .ok (.iload_n 3, 1) := by decide +kernel
theorem dX4_join_40 : decode cX4_join 40 = .ok (.iastore, 1) := by decide +kernel
theorem dX4_join_41 : decode cX4_join 41 = .ok (.aload_n 0, 1) := by decide +kernel
theorem dX4_join_42 : decode cX4_join 42 = .ok (.iload_n 1, 1) := by decide +kernel
theorem dX4_join_43 : decode cX4_join 43 = .ok (.aload_n 0, 1) := by decide +kernel
theorem dX4_join_44 : decode cX4_join 44 = .ok (.getfield 65, 3) := by decide +kernel
theorem dX4_join_47 : decode cX4_join 47 = .ok (.invokevirtual 102, 3) := by decide +kernel
theorem dX4_join_50 : decode cX4_join 50 = .ok (.aload_n 0, 1) := by decide +kernel
theorem dX4_join_51 : decode cX4_join 51 = .ok (.iload_n 2, 1) := by decide +kernel
theorem dX4_join_52 : decode cX4_join 52 = .ok (.aload_n 0, 1) := by decide +kernel
theorem dX4_join_53 : decode cX4_join 53 = .ok (.getfield 65, 3) := by decide +kernel
theorem dX4_join_56 : decode cX4_join 56 = .ok (.invokevirtual 102, 3) := by decide +kernel
theorem dX4_join_59 : decode cX4_join 59 = .ok (.aload_n 0, 1) := by decide +kernel
theorem dX4_join_60 : decode cX4_join 60 = .ok (.dup, 1) := by decide +kernel
theorem dX4_join_61 : decode cX4_join 61 = .ok (.getfield 65, 3) := by decide +kernel
theorem dX4_join_64 : decode cX4_join 64 = .ok (.iconst 1, 1) := by decide +kernel
theorem dX4_join_65 : decode cX4_join 65 = .ok (.iadd, 1) := by decide +kernel
theorem dX4_join_66 : decode cX4_join 66 = .ok (.putfield 65, 3) := by decide +kernel
theorem dX4_join_69 : decode cX4_join 69 = .ok (.return_, 1) := by decide +kernel
theorem dX4_link_0 : decode cX4_link 0 = .ok (.iload_n 1, 1) := by decide +kernel
theorem dX4_link_1 : decode cX4_link 1 = .ok (.ifCond .lt 22, 3) := by decide +kernel
theorem dX4_link_4 : decode cX4_link 4 = .ok (.iload_n 1, 1) := by decide +kernel
theorem dX4_link_5 : decode cX4_link 5 = .ok (.aload_n 0, 1) := by decide +kernel
theorem dX4_link_6 : decode cX4_link 6 = .ok (.getfield 59, 3) := by decide +kernel
theorem dX4_link_9 : decode cX4_link 9 = .ok (.if_icmp .ge 14, 3) := by decide +kernel
theorem dX4_link_12 : decode cX4_link 12 = .ok (.aload_n 0, 1) := by decide +kernel
theorem dX4_link_13 : decode cX4_link 13 = .ok (.getfield 21, 3) := by decide +kernel
theorem dX4_link_16 : decode cX4_link 16 = .ok (.iload_n 1, 1) := by decide +kernel
theorem dX4_link_17 : decode cX4_link 17 = .ok (.iaload, 1) := by decide +kernel
theorem dX4_link_18 : decode cX4_link 18 = .ok (.bipush 6, 2) := by decide +kernel
theorem dX4_link_20 : decode cX4_link 20 = .ok (.if_icmp .lt 4, 3) := by decide +kernel
theorem dX4_link_23 : decode cX4_link 23 = .ok (.return_, 1) := by decide +kernel
theorem dX4_link_24 : decode cX4_link 24 = .ok (.aload_n 0, 1) := by decide +kernel
theorem dX4_link_25 : decode cX4_link 25 = .ok (.getfield 24, 3) := by decide +kernel
theorem dX4_link_28 : decode cX4_link 28 = .ok (.iload_n 1, 1) := by decide +kernel
theorem dX4_link_29 : decode cX4_link 29 = .ok (.bipush 6, 2) := by decide +kernel
theorem dX4_link_31 : decode cX4_link 31 = .ok (.imul, 1) := by decide +kernel
theorem dX4_link_32 : decode cX4_link 32 = .ok (.aload_n 0, 1) := by decide +kernel
theorem dX4_link_33 : decode cX4_link 33 = .ok (.getfield 21, 3) := by decide +kernel
theorem dX4_link_36 : decode cX4_link 36 = .ok (.iload_n 1, 1) := by decide +kernel
theorem dX4_link_37 : decode cX4_link 37 = .ok (.iaload, 1) := by decide +kernel
theorem dX4_link_38 : decode cX4_link 38 = .ok (.iadd, 1) := by decide +kernel
theorem dX4_link_39 : decode cX4_link 39 = .ok (.iload_n 2, 1) := by decide +kernel
theorem dX4_link_40 : decode cX4_link 40 = .ok (.iastore, 1) := by decide +kernel
theorem dX4_link_41 : decode cX4_link 41 = .ok (.aload_n 0, 1) := by decide +kernel
theorem dX4_link_42 : decode cX4_link 42 = .ok (.getfield 21, 3) := by decide +kernel
theorem dX4_link_45 : decode cX4_link 45 = .ok (.iload_n 1, 1) := by decide +kernel
theorem dX4_link_46 : decode cX4_link 46 = .ok (.dup2, 1) := by decide +kernel
theorem dX4_link_47 : decode cX4_link 47 = .ok (.iaload, 1) := by decide +kernel
theorem dX4_link_48 : decode cX4_link 48 = .ok (.iconst 1, 1) := by decide +kernel
theorem dX4_link_49 : decode cX4_link 49 = .ok (.iadd, 1) := by decide +kernel
theorem dX4_link_50 : decode cX4_link 50 = .ok (.iastore, 1) := by decide +kernel
theorem dX4_link_51 : decode cX4_link 51 = .ok (.return_, 1) := by decide +kernel
theorem dX4_findEvents_0 : decode cX4_findEvents 0 = .ok (.aload_n 0, 1) := by decide +kernel
theorem dX4_findEvents_1 : decode cX4_findEvents 1 = .ok (.iconst 0, 1) := by decide +kernel
theorem dX4_findEvents_2 : decode cX4_findEvents 2 = .ok (.putfield 106, 3) := by decide +kernel
theorem dX4_findEvents_5 : decode cX4_findEvents 5 = .ok (.iconst 0, 1) := by decide +kernel
theorem dX4_findEvents_6 : decode cX4_findEvents 6 = .ok (.istore_n 3, 1) := by decide +kernel
theorem dX4_findEvents_7 : decode cX4_findEvents 7 = .ok (.aload_n 1, 1) := by decide +kernel
theorem dX4_findEvents_8 : decode cX4_findEvents 8 = .ok (.iload_n 2, 1) := by decide +kernel
theorem dX4_findEvents_9 : decode cX4_findEvents 9 = .ok (.invokevirtual 109, 3) := by decide +kernel
theorem dX4_findEvents_12 : decode cX4_findEvents 12 = .ok (.istore 4, 2) := by decide +kernel
theorem dX4_findEvents_14 : decode cX4_findEvents 14 = .ok (.iconst 0, 1) := by decide +kernel
theorem dX4_findEvents_15 : decode cX4_findEvents 15 = .ok (.istore 5, 2) := by decide +kernel
theorem dX4_findEvents_17 : decode cX4_findEvents 17 = .ok (.iload 5, 2) := by decide +kernel
theorem dX4_findEvents_19 : decode cX4_findEvents 19 = .ok (.aload_n 0, 1) := by decide +kernel
theorem dX4_findEvents_20 : decode cX4_findEvents 20 = .ok (.getfield 42, 3) := by decide +kernel
theorem dX4_findEvents_23 : decode cX4_findEvents 23 = .ok (.if_icmp .ge 119, 3) := by decide +kernel
theorem dX4_findEvents_26 : decode cX4_findEvents 26 = .ok (.iload 5, 2) := by decide +kernel
theorem dX4_findEvents_28 : decode cX4_findEvents 28 = .ok (.aload_n 1, 1) := by decide +kernel
theorem dX4_findEvents_29 : decode cX4_findEvents 29 = .ok (.getfield 36, 3) := by decide +kernel
theorem dX4_findEvents_32 : decode cX4_findEvents 32 = .ok (.if_icmp .ge 15, 3) := by decide +kernel
theorem dX4_findEvents_35 : decode cX4_findEvents 35 = .ok (.aload_n 1, 1) := by decide +kernel
theorem dX4_findEvents_36 : decode cX4_findEvents 36 = .ok (.getfield 113, 3) := by decide +kernel
theorem dX4_findEvents_39 : decode cX4_findEvents 39 = .ok (.iload_n 2, 1) := by decide +kernel
theorem dX4_findEvents_40 : decode cX4_findEvents 40 = .ok (.aaload, 1) := by decide +kernel
theorem dX4_findEvents_41 : decode cX4_findEvents 41 = .ok (.iload 5, 2) := by decide +kernel
theorem dX4_findEvents_43 : decode cX4_findEvents 43 = .ok (.iaload, 1) := by decide +kernel
theorem dX4_findEvents_44 : decode cX4_findEvents 44 = .ok (.goto 5, 3) := by decide +kernel
theorem dX4_findEvents_47 : decode cX4_findEvents 47 = .ok (.iload 4, 2) := by decide +kernel
theorem dX4_findEvents_49 : decode cX4_findEvents 49 = .ok (.istore 6, 2) := by decide +kernel
theorem dX4_findEvents_51 : decode cX4_findEvents 51 = .ok (.iconst 0, 1) := by decide +kernel
theorem dX4_findEvents_52 : decode cX4_findEvents 52 = .ok (.istore 7, 2) := by decide +kernel
theorem dX4_findEvents_54 : decode cX4_findEvents 54 = .ok (.iload 7, 2) := by decide +kernel
theorem dX4_findEvents_56 : decode cX4_findEvents 56 = .ok (.aload_n 0, 1) := by decide +kernel
theorem dX4_findEvents_57 : decode cX4_findEvents 57 = .ok (.getfield 58, 3) := by decide +kernel
theorem dX4_findEvents_60 : decode cX4_findEvents 60 = .ok (.if_icmp .ge 73, 3) := by decide +kernel
theorem dX4_findEvents_63 : decode cX4_findEvents 63 = .ok (.iload 6, 2) := by decide +kernel
theorem dX4_findEvents_65 : decode cX4_findEvents 65 = .ok (.iload_n 3, 1) := by decide +kernel
theorem dX4_findEvents_66 : decode cX4_findEvents 66 = .ok (.ixor, 1) := by decide +kernel
theorem dX4_findEvents_67 : decode cX4_findEvents 67 = .ok (.iload 7, 2) := by decide +kernel
theorem dX4_findEvents_69 : decode cX4_findEvents 69 = .ok (.ishr, 1) := by decide +kernel
theorem dX4_findEvents_70 : decode cX4_findEvents 70 = .ok (.iconst 1, 1) := by decide +kernel
theorem dX4_findEvents_71 : decode cX4_findEvents 71 = .ok (.iand, 1) := by decide +kernel
theorem dX4_findEvents_72 : decode cX4_findEvents 72 = .ok (.iconst 1, 1) := by decide +kernel
theorem dX4_findEvents_73 : decode cX4_findEvents 73 = .ok (.if_icmp .ne 54, 3) := by decide +kernel
theorem dX4_findEvents_76 : decode cX4_findEvents 76 = .ok (.aload_n 0, 1) := by decide +kernel
theorem dX4_findEvents_77 : decode cX4_findEvents 77 = .ok (.getfield 27, 3) := by decide +kernel
theorem dX4_findEvents_80 : decode cX4_findEvents 80 = .ok (.aload_n 0, 1) := by decide +kernel
theorem dX4_findEvents_81 : decode cX4_findEvents 81 = .ok (.getfield 106, 3) := by decide +kernel
theorem dX4_findEvents_84 : decode cX4_findEvents 84 = .ok (.iload 7, 2) := by decide +kernel
theorem dX4_findEvents_86 : decode cX4_findEvents 86 = .ok (.iastore, 1) := by decide +kernel
theorem dX4_findEvents_87 : decode cX4_findEvents 87 = .ok (.aload_n 0, 1) := by decide +kernel
theorem dX4_findEvents_88 : decode cX4_findEvents 88 = .ok (.getfield 30, 3) := by decide +kernel
theorem dX4_findEvents_91 : decode cX4_findEvents 91 = .ok (.aload_n 0, 1) := by decide +kernel
theorem dX4_findEvents_92 : decode cX4_findEvents 92 = .ok (.getfield 106, 3) := by decide +kernel
theorem dX4_findEvents_95 : decode cX4_findEvents 95 = .ok (.iload 5, 2) := by decide +kernel
theorem dX4_findEvents_97 : decode cX4_findEvents 97 = .ok (.iastore, 1) := by decide +kernel
theorem dX4_findEvents_98 : decode cX4_findEvents 98 = .ok (.aload_n 0, 1) := by decide +kernel
theorem dX4_findEvents_99 : decode cX4_findEvents 99 = .ok (.getfield 33, 3) := by decide +kernel
theorem dX4_findEvents_102 : decode cX4_findEvents 102 = .ok (.aload_n 0, 1) := by decide +kernel
theorem dX4_findEvents_103 : decode cX4_findEvents 103 = .ok (.getfield 106, 3) := by decide +kernel
theorem dX4_findEvents_106 : decode cX4_findEvents 106 = .ok (.iload 5, 2) := by decide +kernel
theorem dX4_findEvents_108 : decode cX4_findEvents 108 = .ok (.aload_n 0, 1) := by decide +kernel
theorem dX4_findEvents_109 : decode cX4_findEvents 109 = .ok (.getfield 58, 3) := by decide +kernel
theorem dX4_findEvents_112 : decode cX4_findEvents 112 = .ok (.imul, 1) := by decide +kernel
theorem dX4_findEvents_113 : decode cX4_findEvents 113 = .ok (.iload 7, 2) := by decide +kernel
theorem dX4_findEvents_115 : decode cX4_findEvents 115 = .ok (.iadd, 1) := by decide +kernel
theorem dX4_findEvents_116 : decode cX4_findEvents 116 = .ok (.iastore, 1) := by decide +kernel
theorem dX4_findEvents_117 : decode cX4_findEvents 117 = .ok (.aload_n 0, 1) := by decide +kernel
theorem dX4_findEvents_118 : decode cX4_findEvents 118 = .ok (.dup, 1) := by decide +kernel
theorem dX4_findEvents_119 : decode cX4_findEvents 119 = .ok (.getfield 106, 3) := by decide +kernel
theorem dX4_findEvents_122 : decode cX4_findEvents 122 = .ok (.iconst 1, 1) := by decide +kernel
theorem dX4_findEvents_123 : decode cX4_findEvents 123 = .ok (.iadd, 1) := by decide +kernel
theorem dX4_findEvents_124 : decode cX4_findEvents 124 = .ok (.putfield 106, 3) := by decide +kernel
theorem dX4_findEvents_127 : decode cX4_findEvents 127 = .ok (.iinc 7 1, 3) := by decide +kernel
theorem dX4_findEvents_130 : decode cX4_findEvents 130 = .ok (.goto (-76), 3) := by decide +kernel
theorem dX4_findEvents_133 : decode cX4_findEvents 133 = .ok (.iload 6, 2) := by decide +kernel
theorem dX4_findEvents_135 : decode cX4_findEvents 135 = .ok (.istore_n 3, 1) := by decide +kernel
theorem dX4_findEvents_136 : decode cX4_findEvents 136 = .ok (.iinc 5 1, 3) := by decide +kernel
theorem dX4_findEvents_139 : decode cX4_findEvents 139 = .ok (.goto (-122), 3) := by decide +kernel
theorem dX4_findEvents_142 : decode cX4_findEvents 142 = .ok (.return_, 1) := by decide +kernel
theorem dX4_hasEvent_0 : decode cX4_hasEvent 0 = .ok (.iload_n 1, 1) := by decide +kernel
theorem dX4_hasEvent_1 : decode cX4_hasEvent 1 = .ok (.ifCond .lt 15, 3) := by decide +kernel
theorem dX4_hasEvent_4 : decode cX4_hasEvent 4 = .ok (.iload_n 1, 1) := by decide +kernel
theorem dX4_hasEvent_5 : decode cX4_hasEvent 5 = .ok (.aload_n 0, 1) := by decide +kernel
theorem dX4_hasEvent_6 : decode cX4_hasEvent 6 = .ok (.getfield 106, 3) := by decide +kernel
theorem dX4_hasEvent_9 : decode cX4_hasEvent 9 = .ok (.if_icmp .ge 7, 3) := by decide +kernel
theorem dX4_hasEvent_12 : decode cX4_hasEvent 12 = .ok (.iconst 1, 1) := by decide +kernel
theorem dX4_hasEvent_13 : decode cX4_hasEvent 13 = .ok (.goto 4, 3) := by decide +kernel
theorem dX4_hasEvent_16 : decode cX4_hasEvent 16 = .ok (.iconst 0, 1) := by decide +kernel
theorem dX4_hasEvent_17 : decode cX4_hasEvent 17 = .ok (.ireturn, 1) := by decide +kernel
theorem dX4_nearAt_0 : decode cX4_nearAt 0 = .ok (.aload_n 0, 1) := by decide +kernel
theorem dX4_nearAt_1 : decode cX4_nearAt 1 = .ok (.getfield 24, 3) := by decide +kernel
theorem dX4_nearAt_4 : decode cX4_nearAt 4 = .ok (.iload_n 1, 1) := by decide +kernel
theorem dX4_nearAt_5 : decode cX4_nearAt 5 = .ok (.bipush 6, 2) := by decide +kernel
theorem dX4_nearAt_7 : decode cX4_nearAt 7 = .ok (.imul, 1) := by decide +kernel
theorem dX4_nearAt_8 : decode cX4_nearAt 8 = .ok (.iload_n 2, 1) := by decide +kernel
theorem dX4_nearAt_9 : decode cX4_nearAt 9 = .ok (.iadd, 1) := by decide +kernel
theorem dX4_nearAt_10 : decode cX4_nearAt 10 = .ok (.iaload, 1) := by decide +kernel
theorem dX4_nearAt_11 : decode cX4_nearAt 11 = .ok (.ireturn, 1) := by decide +kernel
theorem dX4_otherEnd_0 : decode cX4_otherEnd 0 = .ok (.aload_n 0, 1) := by decide +kernel
theorem dX4_otherEnd_1 : decode cX4_otherEnd 1 = .ok (.getfield 9, 3) := by decide +kernel
theorem dX4_otherEnd_4 : decode cX4_otherEnd 4 = .ok (.iload_n 1, 1) := by decide +kernel
theorem dX4_otherEnd_5 : decode cX4_otherEnd 5 = .ok (.iaload, 1) := by decide +kernel
theorem dX4_otherEnd_6 : decode cX4_otherEnd 6 = .ok (.iload_n 2, 1) := by decide +kernel
theorem dX4_otherEnd_7 : decode cX4_otherEnd 7 = .ok (.if_icmp .ne 12, 3) := by decide +kernel
theorem dX4_otherEnd_10 : decode cX4_otherEnd 10 = .ok (.aload_n 0, 1) := by decide +kernel
theorem dX4_otherEnd_11 : decode cX4_otherEnd 11 = .ok (.getfield 15, 3) := by decide +kernel
theorem dX4_otherEnd_14 : decode cX4_otherEnd 14 = .ok (.iload_n 1, 1) := by decide +kernel
theorem dX4_otherEnd_15 : decode cX4_otherEnd 15 = .ok (.iaload, 1) := by decide +kernel
theorem dX4_otherEnd_16 : decode cX4_otherEnd 16 = .ok (.goto 9, 3) := by decide +kernel
theorem dX4_otherEnd_19 : decode cX4_otherEnd 19 = .ok (.aload_n 0, 1) := by decide +kernel
theorem dX4_otherEnd_20 : decode cX4_otherEnd 20 = .ok (.getfield 9, 3) := by decide +kernel
theorem dX4_otherEnd_23 : decode cX4_otherEnd 23 = .ok (.iload_n 1, 1) := by decide +kernel
theorem dX4_otherEnd_24 : decode cX4_otherEnd 24 = .ok (.iaload, 1) := by decide +kernel
theorem dX4_otherEnd_25 : decode cX4_otherEnd 25 = .ok (.ireturn, 1) := by decide +kernel
theorem dX4_qubitsOf_0 : decode cX4_qubitsOf 0 = .ok (.iconst 0, 1) := by decide +kernel
theorem dX4_qubitsOf_1 : decode cX4_qubitsOf 1 = .ok (.istore_n 2, 1) := by decide +kernel
theorem dX4_qubitsOf_2 : decode cX4_qubitsOf 2 = .ok (.iconst 0, 1) := by decide +kernel
theorem dX4_qubitsOf_3 : decode cX4_qubitsOf 3 = .ok (.istore_n 3, 1) := by decide +kernel
theorem dX4_qubitsOf_4 : decode cX4_qubitsOf 4 = .ok (.iload_n 3, 1) := by decide +kernel
theorem dX4_qubitsOf_5 : decode cX4_qubitsOf 5 = .ok (.aload_n 0, 1) := by decide +kernel
theorem dX4_qubitsOf_6 : decode cX4_qubitsOf 6 = .ok (.getfield 42, 3) := by decide +kernel
theorem dX4_qubitsOf_9 : decode cX4_qubitsOf 9 = .ok (.if_icmp .ge 49, 3) := by decide +kernel
theorem dX4_qubitsOf_12 : decode cX4_qubitsOf 12 = .ok (.iconst 0, 1) := by decide +kernel
theorem dX4_qubitsOf_13 : decode cX4_qubitsOf 13 = .ok (.istore 4, 2) := by decide +kernel
theorem dX4_qubitsOf_15 : decode cX4_qubitsOf 15 = .ok (.iload 4, 2) := by decide +kernel
theorem dX4_qubitsOf_17 : decode cX4_qubitsOf 17 = .ok (.aload_n 0, 1) := by decide +kernel
theorem dX4_qubitsOf_18 : decode cX4_qubitsOf 18 = .ok (.getfield 54, 3) := by decide +kernel
theorem dX4_qubitsOf_21 : decode cX4_qubitsOf 21 = .ok (.if_icmp .ge 31, 3) := by decide +kernel
theorem dX4_qubitsOf_24 : decode cX4_qubitsOf 24 = .ok (.iload_n 2, 1) := by decide +kernel
theorem dX4_qubitsOf_25 : decode cX4_qubitsOf 25 = .ok (.aload_n 1, 1) := by decide +kernel
theorem dX4_qubitsOf_26 : decode cX4_qubitsOf 26 = .ok (.iload_n 3, 1) := by decide +kernel
theorem dX4_qubitsOf_27 : decode cX4_qubitsOf 27 = .ok (.aload_n 0, 1) := by decide +kernel
theorem dX4_qubitsOf_28 : decode cX4_qubitsOf 28 = .ok (.getfield 54, 3) := by decide +kernel
theorem dX4_qubitsOf_31 : decode cX4_qubitsOf 31 = .ok (.aload_n 0, 1) := by decide +kernel
theorem dX4_qubitsOf_32 : decode cX4_qubitsOf 32 = .ok (.getfield 58, 3) := by decide +kernel
theorem dX4_qubitsOf_35 : decode cX4_qubitsOf 35 = .ok (.iadd, 1) := by decide +kernel
theorem dX4_qubitsOf_36 : decode cX4_qubitsOf 36 = .ok (.imul, 1) := by decide +kernel
theorem dX4_qubitsOf_37 : decode cX4_qubitsOf 37 = .ok (.iload 4, 2) := by decide +kernel
theorem dX4_qubitsOf_39 : decode cX4_qubitsOf 39 = .ok (.iadd, 1) := by decide +kernel
theorem dX4_qubitsOf_40 : decode cX4_qubitsOf 40 = .ok (.iaload, 1) := by decide +kernel
theorem dX4_qubitsOf_41 : decode cX4_qubitsOf 41 = .ok (.iload 4, 2) := by decide +kernel
theorem dX4_qubitsOf_43 : decode cX4_qubitsOf 43 = .ok (.ishl, 1) := by decide +kernel
theorem dX4_qubitsOf_44 : decode cX4_qubitsOf 44 = .ok (.ixor, 1) := by decide +kernel
theorem dX4_qubitsOf_45 : decode cX4_qubitsOf 45 = .ok (.istore_n 2, 1) := by decide +kernel
theorem dX4_qubitsOf_46 : decode cX4_qubitsOf 46 = .ok (.iinc 4 1, 3) := by decide +kernel
theorem dX4_qubitsOf_49 : decode cX4_qubitsOf 49 = .ok (.goto (-34), 3) := by decide +kernel
theorem dX4_qubitsOf_52 : decode cX4_qubitsOf 52 = .ok (.iinc 3 1, 3) := by decide +kernel
theorem dX4_qubitsOf_55 : decode cX4_qubitsOf 55 = .ok (.goto (-51), 3) := by decide +kernel
theorem dX4_qubitsOf_58 : decode cX4_qubitsOf 58 = .ok (.iload_n 2, 1) := by decide +kernel
theorem dX4_qubitsOf_59 : decode cX4_qubitsOf 59 = .ok (.ireturn, 1) := by decide +kernel
theorem dX4_risesOf_0 : decode cX4_risesOf 0 = .ok (.iconst 0, 1) := by decide +kernel
theorem dX4_risesOf_1 : decode cX4_risesOf 1 = .ok (.istore_n 3, 1) := by decide +kernel
theorem dX4_risesOf_2 : decode cX4_risesOf 2 = .ok (.iconst 0, 1) := by decide +kernel
theorem dX4_risesOf_3 : decode cX4_risesOf 3 = .ok (.istore 4, 2) := by decide +kernel
theorem dX4_risesOf_5 : decode cX4_risesOf 5 = .ok (.iload 4, 2) := by decide +kernel
theorem dX4_risesOf_7 : decode cX4_risesOf 7 = .ok (.aload_n 0, 1) := by decide +kernel
theorem dX4_risesOf_8 : decode cX4_risesOf 8 = .ok (.getfield 58, 3) := by decide +kernel
theorem dX4_risesOf_11 : decode cX4_risesOf 11 = .ok (.if_icmp .ge 36, 3) := by decide +kernel
theorem dX4_risesOf_14 : decode cX4_risesOf 14 = .ok (.iload_n 3, 1) := by decide +kernel
theorem dX4_risesOf_15 : decode cX4_risesOf 15 = .ok (.aload_n 1, 1) := by decide +kernel
theorem dX4_risesOf_16 : decode cX4_risesOf 16 = .ok (.iload_n 2, 1) := by decide +kernel
theorem dX4_risesOf_17 : decode cX4_risesOf 17 = .ok (.aload_n 0, 1) := by decide +kernel
theorem dX4_risesOf_18 : decode cX4_risesOf 18 = .ok (.getfield 54, 3) := by decide +kernel
theorem dX4_risesOf_21 : decode cX4_risesOf 21 = .ok (.aload_n 0, 1) := by decide +kernel
theorem dX4_risesOf_22 : decode cX4_risesOf 22 = .ok (.getfield 58, 3) := by decide +kernel
theorem dX4_risesOf_25 : decode cX4_risesOf 25 = .ok (.iadd, 1) := by decide +kernel
theorem dX4_risesOf_26 : decode cX4_risesOf 26 = .ok (.imul, 1) := by decide +kernel
theorem dX4_risesOf_27 : decode cX4_risesOf 27 = .ok (.aload_n 0, 1) := by decide +kernel
theorem dX4_risesOf_28 : decode cX4_risesOf 28 = .ok (.getfield 54, 3) := by decide +kernel
theorem dX4_risesOf_31 : decode cX4_risesOf 31 = .ok (.iadd, 1) := by decide +kernel
theorem dX4_risesOf_32 : decode cX4_risesOf 32 = .ok (.iload 4, 2) := by decide +kernel
theorem dX4_risesOf_34 : decode cX4_risesOf 34 = .ok (.iadd, 1) := by decide +kernel
theorem dX4_risesOf_35 : decode cX4_risesOf 35 = .ok (.iaload, 1) := by decide +kernel
theorem dX4_risesOf_36 : decode cX4_risesOf 36 = .ok (.iload 4, 2) := by decide +kernel
theorem dX4_risesOf_38 : decode cX4_risesOf 38 = .ok (.ishl, 1) := by decide +kernel
theorem dX4_risesOf_39 : decode cX4_risesOf 39 = .ok (.ior, 1) := by decide +kernel
theorem dX4_risesOf_40 : decode cX4_risesOf 40 = .ok (.istore_n 3, 1) := by decide +kernel
theorem dX4_risesOf_41 : decode cX4_risesOf 41 = .ok (.iinc 4 1, 3) := by decide +kernel
theorem dX4_risesOf_44 : decode cX4_risesOf 44 = .ok (.goto (-39), 3) := by decide +kernel
theorem dX4_risesOf_47 : decode cX4_risesOf 47 = .ok (.iload_n 3, 1) := by decide +kernel
theorem dX4_risesOf_48 : decode cX4_risesOf 48 = .ok (.ireturn, 1) := by decide +kernel
theorem dX5_init_0 : decode cX5_init 0 = .ok (.aload_n 0, 1) := by decide +kernel
theorem dX5_init_1 : decode cX5_init 1 = .ok (.invokespecial 3, 3) := by decide +kernel
theorem dX5_init_4 : decode cX5_init 4 = .ok (.aload_n 0, 1) := by decide +kernel
theorem dX5_init_5 : decode cX5_init 5 = .ok (.bipush 14, 2) := by decide +kernel
theorem dX5_init_7 : decode cX5_init 7 = .ok (.newarray .int, 2) := by decide +kernel
theorem dX5_init_9 : decode cX5_init 9 = .ok (.putfield 9, 3) := by decide +kernel
theorem dX5_init_12 : decode cX5_init 12 = .ok (.aload_n 0, 1) := by decide +kernel
theorem dX5_init_13 : decode cX5_init 13 = .ok (.sipush 321, 3) := by decide +kernel
theorem dX5_init_16 : decode cX5_init 16 = .ok (.newarray .int, 2) := by decide +kernel
theorem dX5_init_18 : decode cX5_init 18 = .ok (.putfield 15, 3) := by decide +kernel
theorem dX5_init_21 : decode cX5_init 21 = .ok (.aload_n 0, 1) := by decide +kernel
theorem dX5_init_22 : decode cX5_init 22 = .ok (.bipush 14, 2) := by decide +kernel
theorem dX5_init_24 : decode cX5_init 24 = .ok (.newarray .int, 2) := by decide +kernel
theorem dX5_init_26 : decode cX5_init 26 = .ok (.putfield 18, 3) := by decide +kernel
theorem dX5_init_29 : decode cX5_init 29 = .ok (.aload_n 0, 1) := by decide +kernel
theorem dX5_init_30 : decode cX5_init 30 = .ok (.bipush 15, 2) := by decide +kernel
theorem dX5_init_32 : decode cX5_init 32 = .ok (.bipush 109, 2) := by decide +kernel
theorem dX5_init_34 : decode cX5_init 34 = .ok (.multianewarray 21 2, 4) := by decide +kernel
theorem dX5_init_38 : decode cX5_init 38 = .ok (.putfield 23, 3) := by decide +kernel
theorem dX5_init_41 : decode cX5_init 41 = .ok (.aload_n 0, 1) := by decide +kernel
theorem dX5_init_42 : decode cX5_init 42 = .ok (.sipush 256, 3) := by decide +kernel
theorem dX5_init_45 : decode cX5_init 45 = .ok (.newarray .int, 2) := by decide +kernel
theorem dX5_init_47 : decode cX5_init 47 = .ok (.putfield 26, 3) := by decide +kernel
theorem dX5_init_50 : decode cX5_init 50 = .ok (.aload_n 0, 1) := by decide +kernel
theorem dX5_init_51 : decode cX5_init 51 = .ok (.sipush 256, 3) := by decide +kernel
theorem dX5_init_54 : decode cX5_init 54 = .ok (.newarray .int, 2) := by decide +kernel
theorem dX5_init_56 : decode cX5_init 56 = .ok (.putfield 29, 3) := by decide +kernel
theorem dX5_init_59 : decode cX5_init 59 = .ok (.return_, 1) := by decide +kernel
theorem dX5_solve_0 : decode cX5_solve 0 = .ok (.aload_n 0, 1) := by decide +kernel
theorem dX5_solve_1 : decode cX5_solve 1 = .ok (.bipush 14, 2) := by decide +kernel
theorem dX5_solve_3 : decode cX5_solve 3 = .ok (.aload_n 1, 1) := by decide +kernel
theorem dX5_solve_4 : decode cX5_solve 4 = .ok (.getfield 32, 3) := by decide +kernel
theorem dX5_solve_7 : decode cX5_solve 7 = .ok (.invokestatic 38, 3) := by decide +kernel
theorem dX5_solve_10 : decode cX5_solve 10 = .ok (.putfield 44, 3) := by decide +kernel
theorem dX5_solve_13 : decode cX5_solve 13 = .ok (.iconst 0, 1) := by decide +kernel
theorem dX5_solve_14 : decode cX5_solve 14 = .ok (.istore_n 3, 1) := by decide +kernel
theorem dX5_solve_15 : decode cX5_solve 15 = .ok (.iload_n 3, 1) := by decide +kernel
theorem dX5_solve_16 : decode cX5_solve 16 = .ok (.aload_n 0, 1) := by decide +kernel
theorem dX5_solve_17 : decode cX5_solve 17 = .ok (.getfield 44, 3) := by decide +kernel
theorem dX5_solve_20 : decode cX5_solve 20 = .ok (.if_icmp .ge 38, 3) := by decide +kernel
theorem dX5_solve_23 : decode cX5_solve 23 = .ok (.aload_n 0, 1) := by decide +kernel
theorem dX5_solve_24 : decode cX5_solve 24 = .ok (.getfield 18, 3) := by decide +kernel
theorem dX5_solve_27 : decode cX5_solve 27 = .ok (.iload_n 3, 1) := by decide +kernel
theorem dX5_solve_28 : decode cX5_solve 28 = .ok (.aload_n 1, 1) := by decide +kernel
theorem dX5_solve_29 : decode cX5_solve 29 = .ok (.getfield 47, 3) := by decide +kernel
theorem dX5_solve_32 : decode cX5_solve 32 = .ok (.iload_n 3, 1) := by decide +kernel
theorem dX5_solve_33 : decode cX5_solve 33 = .ok (.iaload, 1) := by decide +kernel
theorem dX5_solve_34 : decode cX5_solve 34 = .ok (.iastore, 1) := by decide +kernel
theorem dX5_solve_35 : decode cX5_solve 35 = .ok (.aload_n 2, 1) := by decide +kernel
theorem dX5_solve_36 : decode cX5_solve 36 = .ok (.aload_n 1, 1) := by decide +kernel
theorem dX5_solve_37 : decode cX5_solve 37 = .ok (.aload_n 0, 1) := by decide +kernel
theorem dX5_solve_38 : decode cX5_solve 38 = .ok (.getfield 18, 3) := by decide +kernel
theorem dX5_solve_41 : decode cX5_solve 41 = .ok (.iload_n 3, 1) := by decide +kernel
theorem dX5_solve_42 : decode cX5_solve 42 = .ok (.iaload, 1) := by decide +kernel
theorem dX5_solve_43 : decode cX5_solve 43 = .ok (.aload_n 0, 1) := by decide +kernel
theorem dX5_solve_44 : decode cX5_solve 44 = .ok (.getfield 23, 3) := by decide +kernel
theorem dX5_solve_47 : decode cX5_solve 47 = .ok (.iload_n 3, 1) := by decide +kernel
theorem dX5_solve_48 : decode cX5_solve 48 = .ok (.aaload, 1) := by decide +kernel
theorem dX5_solve_49 : decode cX5_solve 49 = .ok (.invokevirtual 50, 3) := by decide +kernel
theorem dX5_solve_52 : decode cX5_solve 52 = .ok (.iinc 3 1, 3) := by decide +kernel
theorem dX5_solve_55 : decode cX5_solve 55 = .ok (.goto (-40), 3) := by decide +kernel
theorem dX5_solve_58 : decode cX5_solve 58 = .ok (.aload_n 2, 1) := by decide +kernel
theorem dX5_solve_59 : decode cX5_solve 59 = .ok (.aload_n 1, 1) := by decide +kernel
theorem dX5_solve_60 : decode cX5_solve 60 = .ok (.aload_n 1, 1) := by decide +kernel
theorem dX5_solve_61 : decode cX5_solve 61 = .ok (.getfield 56, 3) := by decide +kernel
theorem dX5_solve_64 : decode cX5_solve 64 = .ok (.aload_n 0, 1) := by decide +kernel
theorem dX5_solve_65 : decode cX5_solve 65 = .ok (.getfield 23, 3) := by decide +kernel
theorem dX5_solve_68 : decode cX5_solve 68 = .ok (.bipush 14, 2) := by decide +kernel
theorem dX5_solve_70 : decode cX5_solve 70 = .ok (.aaload, 1) := by decide +kernel
theorem dX5_solve_71 : decode cX5_solve 71 = .ok (.invokevirtual 50, 3) := by decide +kernel
theorem dX5_solve_74 : decode cX5_solve 74 = .ok (.iconst 1, 1) := by decide +kernel
theorem dX5_solve_75 : decode cX5_solve 75 = .ok (.aload_n 0, 1) := by decide +kernel
theorem dX5_solve_76 : decode cX5_solve 76 = .ok (.getfield 44, 3) := by decide +kernel
theorem dX5_solve_79 : decode cX5_solve 79 = .ok (.ishl, 1) := by decide +kernel
theorem dX5_solve_80 : decode cX5_solve 80 = .ok (.iconst 1, 1) := by decide +kernel
theorem dX5_solve_81 : decode cX5_solve 81 = .ok (.isub, 1) := by decide +kernel
theorem dX5_solve_82 : decode cX5_solve 82 = .ok (.istore_n 3, 1) := by decide +kernel
theorem dX5_solve_83 : decode cX5_solve 83 = .ok (.aload_n 0, 1) := by decide +kernel
theorem dX5_solve_84 : decode cX5_solve 84 = .ok (.iload_n 3, 1) := by decide +kernel
theorem dX5_solve_85 : decode cX5_solve 85 = .ok (.invokevirtual 59, 3) := by decide +kernel
theorem dX5_solve_88 : decode cX5_solve 88 = .ok (.aload_n 0, 1) := by decide +kernel
theorem dX5_solve_89 : decode cX5_solve 89 = .ok (.aload_n 0, 1) := by decide +kernel
theorem dX5_solve_90 : decode cX5_solve 90 = .ok (.iload_n 3, 1) := by decide +kernel
theorem dX5_solve_91 : decode cX5_solve 91 = .ok (.iconst 0, 1) := by decide +kernel
theorem dX5_solve_92 : decode cX5_solve 92 = .ok (.invokevirtual 63, 3) := by decide +kernel
theorem dX5_solve_95 : decode cX5_solve 95 = .ok (.putfield 66, 3) := by decide +kernel
theorem dX5_solve_98 : decode cX5_solve 98 = .ok (.aload_n 0, 1) := by decide +kernel
theorem dX5_solve_99 : decode cX5_solve 99 = .ok (.aload_n 0, 1) := by decide +kernel
theorem dX5_solve_100 : decode cX5_solve 100 = .ok (.getfield 29, 3) := by decide +kernel
theorem dX5_solve_103 : decode cX5_solve 103 = .ok (.iload_n 3, 1) := by decide +kernel
theorem dX5_solve_104 : decode cX5_solve 104 = .ok (.iaload, 1) := by decide +kernel
theorem dX5_solve_105 : decode cX5_solve 105 = .ok (.putfield 69, 3) := by decide +kernel
theorem dX5_solve_108 : decode cX5_solve 108 = .ok (.aload_n 0, 1) := by decide +kernel
theorem dX5_solve_109 : decode cX5_solve 109 = .ok (.iload_n 3, 1) := by decide +kernel
theorem dX5_solve_110 : decode cX5_solve 110 = .ok (.invokevirtual 72, 3) := by decide +kernel
theorem dX5_solve_113 : decode cX5_solve 113 = .ok (.return_, 1) := by decide +kernel
theorem dX5_forgetSets_0 : decode cX5_forgetSets 0 = .ok (.iload_n 1, 1) := by decide +kernel
theorem dX5_forgetSets_1 : decode cX5_forgetSets 1 = .ok (.aload_n 0, 1) := by decide +kernel
theorem dX5_forgetSets_2 : decode cX5_forgetSets 2 = .ok (.getfield 26, 3) := by decide +kernel
theorem dX5_forgetSets_5 : decode cX5_forgetSets 5 = .ok (.arraylength, 1) := by decide +kernel
theorem dX5_forgetSets_6 : decode cX5_forgetSets 6 = .ok (.if_icmp .lt 21, 3) := by decide +kernel
theorem dX5_forgetSets_9 : decode cX5_forgetSets 9 = .ok (.aload_n 0, 1) := by decide +kernel
theorem dX5_forgetSets_10 : decode cX5_forgetSets 10 = .ok (.iload_n 1, 1) := by decide +kernel
theorem dX5_forgetSets_11 : decode cX5_forgetSets 11 = .ok (.iconst 1, 1) := by decide +kernel
theorem dX5_forgetSets_12 : decode cX5_forgetSets 12 = .ok (.iadd, 1) := by decide +kernel
theorem dX5_forgetSets_13 : decode cX5_forgetSets 13 = .ok (.newarray .int, 2) := by decide +kernel
theorem dX5_forgetSets_15 : decode cX5_forgetSets 15 = .ok (.putfield 26, 3) := by decide +kernel
theorem dX5_forgetSets_18 : decode cX5_forgetSets 18 = .ok (.aload_n 0, 1) := by decide +kernel
theorem dX5_forgetSets_19 : decode cX5_forgetSets 19 = .ok (.iload_n 1, 1) := by decide +kernel
theorem dX5_forgetSets_20 : decode cX5_forgetSets 20 = .ok (.iconst 1, 1) := by decide +kernel
theorem dX5_forgetSets_21 : decode cX5_forgetSets 21 = .ok (.iadd, 1) := by decide +kernel
theorem dX5_forgetSets_22 : decode cX5_forgetSets 22 = .ok (.newarray .int, 2) := by decide +kernel
theorem dX5_forgetSets_24 : decode cX5_forgetSets 24 = .ok (.putfield 29, 3) := by decide +kernel
theorem dX5_forgetSets_27 : decode cX5_forgetSets 27 = .ok (.iconst 0, 1) := by decide +kernel
theorem dX5_forgetSets_28 : decode cX5_forgetSets 28 = .ok (.istore_n 2, 1) := by decide +kernel
theorem dX5_forgetSets_29 : decode cX5_forgetSets 29 = .ok (.iload_n 2, 1) := by decide +kernel
theorem dX5_forgetSets_30 : decode cX5_forgetSets 30 = .ok (.iload_n 1, 1) := by decide +kernel
theorem dX5_forgetSets_31 : decode cX5_forgetSets 31 = .ok (.if_icmp .gt 16, 3) := by decide +kernel
theorem dX5_forgetSets_34 : decode cX5_forgetSets 34 = .ok (.aload_n 0, 1) := by decide +kernel
theorem dX5_forgetSets_35 : decode cX5_forgetSets 35 = .ok (.getfield 26, 3) := by decide +kernel
theorem dX5_forgetSets_38 : decode cX5_forgetSets 38 = .ok (.iload_n 2, 1) := by decide +kernel
theorem dX5_forgetSets_39 : decode cX5_forgetSets 39 = .ok (.iconst (-1), 1) := by decide +kernel
theorem dX5_forgetSets_40 : decode cX5_forgetSets 40 = .ok (.iastore, 1) := by decide +kernel
theorem dX5_forgetSets_41 : decode cX5_forgetSets 41 = .ok (.iinc 2 1, 3) := by decide +kernel
theorem dX5_forgetSets_44 : decode cX5_forgetSets 44 = .ok (.goto (-15), 3) := by decide +kernel
theorem dX5_forgetSets_47 : decode cX5_forgetSets 47 = .ok (.return_, 1) := by decide +kernel
theorem dX5_leastFor_0 : decode cX5_leastFor 0 = .ok (.iload_n 1, 1) := by decide +kernel
theorem dX5_leastFor_1 : decode cX5_leastFor 1 = .ok (.ifCond .eq 9, 3) := by decide +kernel
theorem dX5_leastFor_4 : decode cX5_leastFor 4 = .ok (.iload_n 2, 1) := by decide +kernel
theorem dX5_leastFor_5 : decode cX5_leastFor 5 = .ok (.bipush 14, 2) := by decide +kernel
theorem dX5_leastFor_7 : decode cX5_leastFor 7 = .ok (.if_icmp .le 19, 3) := by decide +kernel
theorem dX5_leastFor_10 : decode cX5_leastFor 10 = .ok (.aload_n 0, 1) := by decide +kernel
theorem dX5_leastFor_11 : decode cX5_leastFor 11 = .ok (.getfield 26, 3) := by decide +kernel
theorem dX5_leastFor_14 : decode cX5_leastFor 14 = .ok (.iconst 0, 1) := by decide +kernel
theorem dX5_leastFor_15 : decode cX5_leastFor 15 = .ok (.iconst 0, 1) := by decide +kernel
theorem dX5_leastFor_16 : decode cX5_leastFor 16 = .ok (.iastore, 1) := by decide +kernel
theorem dX5_leastFor_17 : decode cX5_leastFor 17 = .ok (.aload_n 0, 1) := by decide +kernel
theorem dX5_leastFor_18 : decode cX5_leastFor 18 = .ok (.getfield 29, 3) := by decide +kernel
theorem dX5_leastFor_21 : decode cX5_leastFor 21 = .ok (.iconst 0, 1) := by decide +kernel
theorem dX5_leastFor_22 : decode cX5_leastFor 22 = .ok (.iconst 1, 1) := by decide +kernel
theorem dX5_leastFor_23 : decode cX5_leastFor 23 = .ok (.iastore, 1) := by decide +kernel
theorem dX5_leastFor_24 : decode cX5_leastFor 24 = .ok (.iconst 0, 1) := by decide +kernel
theorem dX5_leastFor_25 : decode cX5_leastFor 25 = .ok (.ireturn, 1) := by decide +kernel
theorem dX5_leastFor_26 : decode cX5_leastFor 26 = .ok (.aload_n 0, 1) := by decide +kernel
theorem dX5_leastFor_27 : decode cX5_leastFor 27 = .ok (.getfield 26, 3) := by decide +kernel
theorem dX5_leastFor_30 : decode cX5_leastFor 30 = .ok (.iload_n 1, 1) := by decide +kernel
theorem dX5_leastFor_31 : decode cX5_leastFor 31 = .ok (.iaload, 1) := by decide +kernel
theorem dX5_leastFor_32 : decode cX5_leastFor 32 = .ok (.iconst (-1), 1) := by decide +kernel
theorem dX5_leastFor_33 : decode cX5_leastFor 33 = .ok (.if_icmp .eq 10, 3) := by decide +kernel
theorem dX5_leastFor_36 : decode cX5_leastFor 36 = .ok (.aload_n 0, 1) := by decide +kernel
theorem dX5_leastFor_37 : decode cX5_leastFor 37 = .ok (.getfield 26, 3) := by decide +kernel
theorem dX5_leastFor_40 : decode cX5_leastFor 40 = .ok (.iload_n 1, 1) := by decide +kernel
theorem dX5_leastFor_41 : decode cX5_leastFor 41 = .ok (.iaload, 1) := by decide +kernel
theorem dX5_leastFor_42 : decode cX5_leastFor 42 = .ok (.ireturn, 1) := by decide +kernel
theorem dX5_leastFor_43 : decode cX5_leastFor 43 = .ok (.iload_n 1, 1) := by decide +kernel
theorem dX5_leastFor_44 : decode cX5_leastFor 44 = .ok (.invokestatic 75, 3) := by decide +kernel
theorem dX5_leastFor_47 : decode cX5_leastFor 47 = .ok (.istore_n 3, 1) := by decide +kernel
theorem dX5_leastFor_48 : decode cX5_leastFor 48 = .ok (.iload_n 1, 1) := by decide +kernel
theorem dX5_leastFor_49 : decode cX5_leastFor 49 = .ok (.iload_n 1, 1) := by decide +kernel
theorem dX5_leastFor_50 : decode cX5_leastFor 50 = .ok (.iconst 1, 1) := by decide +kernel
theorem dX5_leastFor_51 : decode cX5_leastFor 51 = .ok (.isub, 1) := by decide +kernel
theorem dX5_leastFor_52 : decode cX5_leastFor 52 = .ok (.iand, 1) := by decide +kernel
theorem dX5_leastFor_53 : decode cX5_leastFor 53 = .ok (.istore 4, 2) := by decide +kernel
theorem dX5_leastFor_55 : decode cX5_leastFor 55 = .ok (.aload_n 0, 1) := by decide +kernel
theorem dX5_leastFor_56 : decode cX5_leastFor 56 = .ok (.iload_n 3, 1) := by decide +kernel
theorem dX5_leastFor_57 : decode cX5_leastFor 57 = .ok (.invokevirtual 81, 3) := by decide +kernel
theorem dX5_leastFor_60 : decode cX5_leastFor 60 = .ok (.aload_n 0, 1) := by decide +kernel
theorem dX5_leastFor_61 : decode cX5_leastFor 61 = .ok (.iload 4, 2) := by decide +kernel
theorem dX5_leastFor_63 : decode cX5_leastFor 63 = .ok (.iload_n 2, 1) := by decide +kernel
theorem dX5_leastFor_64 : decode cX5_leastFor 64 = .ok (.iconst 1, 1) := by decide +kernel
theorem dX5_leastFor_65 : decode cX5_leastFor 65 = .ok (.iadd, 1) := by decide +kernel
theorem dX5_leastFor_66 : decode cX5_leastFor 66 = .ok (.invokevirtual 63, 3) := by decide +kernel
theorem dX5_leastFor_69 : decode cX5_leastFor 69 = .ok (.iadd, 1) := by decide +kernel
theorem dX5_leastFor_70 : decode cX5_leastFor 70 = .ok (.istore 5, 2) := by decide +kernel
theorem dX5_leastFor_72 : decode cX5_leastFor 72 = .ok (.aload_n 0, 1) := by decide +kernel
theorem dX5_leastFor_73 : decode cX5_leastFor 73 = .ok (.getfield 29, 3) := by decide +kernel
theorem dX5_leastFor_76 : decode cX5_leastFor 76 = .ok (.iload 4, 2) := by decide +kernel
theorem dX5_leastFor_78 : decode cX5_leastFor 78 = .ok (.iaload, 1) := by decide +kernel
theorem dX5_leastFor_79 : decode cX5_leastFor 79 = .ok (.istore 6, 2) := by decide +kernel
theorem dX5_leastFor_81 : decode cX5_leastFor 81 = .ok (.iload_n 3, 1) := by decide +kernel
theorem dX5_leastFor_82 : decode cX5_leastFor 82 = .ok (.iconst 1, 1) := by decide +kernel
theorem dX5_leastFor_83 : decode cX5_leastFor 83 = .ok (.iadd, 1) := by decide +kernel
theorem dX5_leastFor_84 : decode cX5_leastFor 84 = .ok (.istore 7, 2) := by decide +kernel
theorem dX5_leastFor_86 : decode cX5_leastFor 86 = .ok (.iload 7, 2) := by decide +kernel
theorem dX5_leastFor_88 : decode cX5_leastFor 88 = .ok (.aload_n 0, 1) := by decide +kernel
theorem dX5_leastFor_89 : decode cX5_leastFor 89 = .ok (.getfield 44, 3) := by decide +kernel
theorem dX5_leastFor_92 : decode cX5_leastFor 92 = .ok (.if_icmp .ge 85, 3) := by decide +kernel
theorem dX5_leastFor_95 : decode cX5_leastFor 95 = .ok (.iload 4, 2) := by decide +kernel
theorem dX5_leastFor_97 : decode cX5_leastFor 97 = .ok (.iload 7, 2) := by decide +kernel
theorem dX5_leastFor_99 : decode cX5_leastFor 99 = .ok (.ishr, 1) := by decide +kernel
theorem dX5_leastFor_100 : decode cX5_leastFor 100 = .ok (.iconst 1, 1) := by decide +kernel
theorem dX5_leastFor_101 : decode cX5_leastFor 101 = .ok (.iand, 1) := by decide +kernel
theorem dX5_leastFor_102 : decode cX5_leastFor 102 = .ok (.iconst 1, 1) := by decide +kernel
theorem dX5_leastFor_103 : decode cX5_leastFor 103 = .ok (.if_icmp .ne 68, 3) := by decide +kernel
theorem dX5_leastFor_106 : decode cX5_leastFor 106 = .ok (.iload 4, 2) := by decide +kernel
theorem dX5_leastFor_108 : decode cX5_leastFor 108 = .ok (.iconst 1, 1) := by decide +kernel
theorem dX5_leastFor_109 : decode cX5_leastFor 109 = .ok (.iload 7, 2) := by decide +kernel
theorem dX5_leastFor_111 : decode cX5_leastFor 111 = .ok (.ishl, 1) := by decide +kernel
theorem dX5_leastFor_112 : decode cX5_leastFor 112 = .ok (.ixor, 1) := by decide +kernel
theorem dX5_leastFor_113 : decode cX5_leastFor 113 = .ok (.istore 8, 2) := by decide +kernel
theorem dX5_leastFor_115 : decode cX5_leastFor 115 = .ok (.aload_n 0, 1) := by decide +kernel
theorem dX5_leastFor_116 : decode cX5_leastFor 116 = .ok (.iload_n 3, 1) := by decide +kernel
theorem dX5_leastFor_117 : decode cX5_leastFor 117 = .ok (.iload 7, 2) := by decide +kernel
theorem dX5_leastFor_119 : decode cX5_leastFor 119 = .ok (.invokevirtual 84, 3) := by decide +kernel
theorem dX5_leastFor_122 : decode cX5_leastFor 122 = .ok (.aload_n 0, 1) := by decide +kernel
theorem dX5_leastFor_123 : decode cX5_leastFor 123 = .ok (.iload 8, 2) := by decide +kernel
theorem dX5_leastFor_125 : decode cX5_leastFor 125 = .ok (.iload_n 2, 1) := by decide +kernel
theorem dX5_leastFor_126 : decode cX5_leastFor 126 = .ok (.iconst 1, 1) := by decide +kernel
theorem dX5_leastFor_127 : decode cX5_leastFor 127 = .ok (.iadd, 1) := by decide +kernel
theorem dX5_leastFor_128 : decode cX5_leastFor 128 = .ok (.invokevirtual 63, 3) := by decide +kernel
theorem dX5_leastFor_131 : decode cX5_leastFor 131 = .ok (.iadd, 1) := by decide +kernel
theorem dX5_leastFor_132 : decode cX5_leastFor 132 = .ok (.istore 9, 2) := by decide +kernel
theorem dX5_leastFor_134 : decode cX5_leastFor 134 = .ok (.iload 9, 2) := by decide +kernel
theorem dX5_leastFor_136 : decode cX5_leastFor 136 = .ok (.iload 5, 2) := by decide +kernel
theorem dX5_leastFor_138 : decode cX5_leastFor 138 = .ok (.if_icmp .ge 10, 3) := by decide +kernel
theorem dX5_leastFor_141 : decode cX5_leastFor 141 = .ok (.iload 9, 2) := by decide +kernel
theorem dX5_leastFor_143 : decode cX5_leastFor 143 = .ok (.istore 5, 2) := by decide +kernel
theorem dX5_leastFor_145 : decode cX5_leastFor 145 = .ok (.iconst 0, 1) := by decide +kernel
theorem dX5_leastFor_146 : decode cX5_leastFor 146 = .ok (.istore 6, 2) := by decide +kernel
theorem dX5_leastFor_148 : decode cX5_leastFor 148 = .ok (.iload 6, 2) := by decide +kernel
theorem dX5_leastFor_150 : decode cX5_leastFor 150 = .ok (.iload 9, 2) := by decide +kernel
theorem dX5_leastFor_152 : decode cX5_leastFor 152 = .ok (.iload 5, 2) := by decide +kernel
theorem dX5_leastFor_154 : decode cX5_leastFor 154 = .ok (.if_icmp .ne 13, 3) := by decide +kernel
theorem dX5_leastFor_157 : decode cX5_leastFor 157 = .ok (.aload_n 0, 1) := by decide +kernel
theorem dX5_leastFor_158 : decode cX5_leastFor 158 = .ok (.getfield 29, 3) := by decide +kernel
theorem dX5_leastFor_161 : decode cX5_leastFor 161 = .ok (.iload 8, 2) := by decide +kernel
theorem dX5_leastFor_163 : decode cX5_leastFor 163 = .ok (.iaload, 1) := by decide +kernel
theorem dX5_leastFor_164 : decode cX5_leastFor 164 = .ok (.goto 4, 3) := by decide +kernel
theorem dX5_leastFor_167 : decode cX5_leastFor 167 = .ok (.iconst 0, 1) := by decide +kernel
theorem dX5_leastFor_168 : decode cX5_leastFor 168 = .ok (.iadd, 1) := by decide +kernel
theorem dX5_leastFor_169 : decode cX5_leastFor 169 = .ok (.istore 6, 2) := by decide +kernel
theorem dX5_leastFor_171 : decode cX5_leastFor 171 = .ok (.iinc 7 1, 3) := by decide +kernel
theorem dX5_leastFor_174 : decode cX5_leastFor 174 = .ok (.goto (-88), 3) := by decide +kernel
theorem dX5_leastFor_177 : decode cX5_leastFor 177 = .ok (.aload_n 0, 1) := by decide +kernel
theorem dX5_leastFor_178 : decode cX5_leastFor 178 = .ok (.getfield 26, 3) := by decide +kernel
theorem dX5_leastFor_181 : decode cX5_leastFor 181 = .ok (.iload_n 1, 1) := by decide +kernel
theorem dX5_leastFor_182 : decode cX5_leastFor 182 = .ok (.iload 5, 2) := by decide +kernel
theorem dX5_leastFor_184 : decode cX5_leastFor 184 = .ok (.iastore, 1) := by decide +kernel
theorem dX5_leastFor_185 : decode cX5_leastFor 185 = .ok (.aload_n 0, 1) := by decide +kernel
theorem dX5_leastFor_186 : decode cX5_leastFor 186 = .ok (.getfield 29, 3) := by decide +kernel
theorem dX5_leastFor_189 : decode cX5_leastFor 189 = .ok (.iload_n 1, 1) := by decide +kernel
theorem dX5_leastFor_190 : decode cX5_leastFor 190 = .ok (.iload 6, 2) := by decide +kernel
theorem dX5_leastFor_192 : decode cX5_leastFor 192 = .ok (.iastore, 1) := by decide +kernel
theorem dX5_leastFor_193 : decode cX5_leastFor 193 = .ok (.iload 5, 2) := by decide +kernel
theorem dX5_leastFor_195 : decode cX5_leastFor 195 = .ok (.ireturn, 1) := by decide +kernel
theorem dX5_choosePartners_0 : decode cX5_choosePartners 0 = .ok (.iload_n 1, 1) := by decide +kernel
theorem dX5_choosePartners_1 : decode cX5_choosePartners 1 = .ok (.istore_n 2, 1) := by decide +kernel
theorem dX5_choosePartners_2 : decode cX5_choosePartners 2 = .ok (.iconst 0, 1) := by decide +kernel
theorem dX5_choosePartners_3 : decode cX5_choosePartners 3 = .ok (.istore_n 3, 1) := by decide +kernel
theorem dX5_choosePartners_4 : decode cX5_choosePartners 4 = .ok (.iload_n 3, 1) := by decide +kernel
theorem dX5_choosePartners_5 : decode cX5_choosePartners 5 = .ok (.aload_n 0, 1) := by decide +kernel
theorem dX5_choosePartners_6 : decode cX5_choosePartners 6 = .ok (.getfield 44, 3) := by decide +kernel
theorem dX5_choosePartners_9 : decode cX5_choosePartners 9 = .ok (.if_icmp .ge 62, 3) := by decide +kernel
theorem dX5_choosePartners_12 : decode cX5_choosePartners 12 = .ok (.iload_n 2, 1) := by decide +kernel
theorem dX5_choosePartners_13 : decode cX5_choosePartners 13 = .ok (.iload_n 3, 1) := by decide +kernel
theorem dX5_choosePartners_14 : decode cX5_choosePartners 14 = .ok (.ishr, 1) := by decide +kernel
theorem dX5_choosePartners_15 : decode cX5_choosePartners 15 = .ok (.iconst 1, 1) := by decide +kernel
theorem dX5_choosePartners_16 : decode cX5_choosePartners 16 = .ok (.iand, 1) := by decide +kernel
theorem dX5_choosePartners_17 : decode cX5_choosePartners 17 = .ok (.iconst 1, 1) := by decide +kernel
theorem dX5_choosePartners_18 : decode cX5_choosePartners 18 = .ok (.if_icmp .ne 47, 3) := by decide +kernel
theorem dX5_choosePartners_21 : decode cX5_choosePartners 21 = .ok (.aload_n 0, 1) := by decide +kernel
theorem dX5_choosePartners_22 : decode cX5_choosePartners 22 = .ok (.iload_n 3, 1) := by decide +kernel
theorem dX5_choosePartners_23 : decode cX5_choosePartners 23 = .ok (.iload_n 2, 1) := by decide +kernel
theorem dX5_choosePartners_24 : decode cX5_choosePartners 24 = .ok (.invokevirtual 87, 3) := by decide +kernel
theorem dX5_choosePartners_27 : decode cX5_choosePartners 27 = .ok (.istore 4, 2) := by decide +kernel
theorem dX5_choosePartners_29 : decode cX5_choosePartners 29 = .ok (.aload_n 0, 1) := by decide +kernel
theorem dX5_choosePartners_30 : decode cX5_choosePartners 30 = .ok (.getfield 9, 3) := by decide +kernel
theorem dX5_choosePartners_33 : decode cX5_choosePartners 33 = .ok (.iload_n 3, 1) := by decide +kernel
theorem dX5_choosePartners_34 : decode cX5_choosePartners 34 = .ok (.iload 4, 2) := by decide +kernel
theorem dX5_choosePartners_36 : decode cX5_choosePartners 36 = .ok (.iastore, 1) := by decide +kernel
theorem dX5_choosePartners_37 : decode cX5_choosePartners 37 = .ok (.iload_n 2, 1) := by decide +kernel
theorem dX5_choosePartners_38 : decode cX5_choosePartners 38 = .ok (.iload_n 2, 1) := by decide +kernel
theorem dX5_choosePartners_39 : decode cX5_choosePartners 39 = .ok (.iconst 1, 1) := by decide +kernel
theorem dX5_choosePartners_40 : decode cX5_choosePartners 40 = .ok (.isub, 1) := by decide +kernel
theorem dX5_choosePartners_41 : decode cX5_choosePartners 41 = .ok (.iand, 1) := by decide +kernel
theorem dX5_choosePartners_42 : decode cX5_choosePartners 42 = .ok (.istore_n 2, 1) := by decide +kernel
theorem dX5_choosePartners_43 : decode cX5_choosePartners 43 = .ok (.iload 4, 2) := by decide +kernel
theorem dX5_choosePartners_45 : decode cX5_choosePartners 45 = .ok (.bipush (-2), 2) := by decide +kernel
theorem dX5_choosePartners_47 : decode cX5_choosePartners 47 = .ok (.if_icmp .eq 18, 3) := by decide +kernel
theorem dX5_choosePartners_50 : decode cX5_choosePartners 50 = .ok (.aload_n 0, 1) := by decide +kernel
theorem dX5_choosePartners_51 : decode cX5_choosePartners 51 = .ok (.getfield 9, 3) := by decide +kernel
theorem dX5_choosePartners_54 : decode cX5_choosePartners 54 = .ok (.iload 4, 2) := by decide +kernel
theorem dX5_choosePartners_56 : decode cX5_choosePartners 56 = .ok (.iload_n 3, 1) := by decide +kernel
theorem dX5_choosePartners_57 : decode cX5_choosePartners 57 = .ok (.iastore, 1) := by decide +kernel
theorem dX5_choosePartners_58 : decode cX5_choosePartners 58 = .ok (.iload_n 2, 1) := by decide +kernel
theorem dX5_choosePartners_59 : decode cX5_choosePartners 59 = .ok (.iconst 1, 1) := by decide +kernel
theorem dX5_choosePartners_60 : decode cX5_choosePartners 60 = .ok (.iload 4, 2) := by decide +kernel
theorem dX5_choosePartners_62 : decode cX5_choosePartners 62 = .ok (.ishl, 1) := by decide +kernel
theorem dX5_choosePartners_63 : decode cX5_choosePartners 63 = .ok (.ixor, 1) := by decide +kernel
theorem dX5_choosePartners_64 : decode cX5_choosePartners 64 = .ok (.istore_n 2, 1) := by decide +kernel
theorem dX5_choosePartners_65 : decode cX5_choosePartners 65 = .ok (.iinc 3 1, 3) := by decide +kernel
theorem dX5_choosePartners_68 : decode cX5_choosePartners 68 = .ok (.goto (-64), 3) := by decide +kernel
theorem dX5_choosePartners_71 : decode cX5_choosePartners 71 = .ok (.return_, 1) := by decide +kernel
theorem dX5_firstPartner_0 : decode cX5_firstPartner 0 = .ok (.iload_n 2, 1) := by decide +kernel
theorem dX5_firstPartner_1 : decode cX5_firstPartner 1 = .ok (.iload_n 2, 1) := by decide +kernel
theorem dX5_firstPartner_2 : decode cX5_firstPartner 2 = .ok (.iconst 1, 1) := by decide +kernel
theorem dX5_firstPartner_3 : decode cX5_firstPartner 3 = .ok (.isub, 1) := by decide +kernel
theorem dX5_firstPartner_4 : decode cX5_firstPartner 4 = .ok (.iand, 1) := by decide +kernel
theorem dX5_firstPartner_5 : decode cX5_firstPartner 5 = .ok (.istore_n 3, 1) := by decide +kernel
theorem dX5_firstPartner_6 : decode cX5_firstPartner 6 = .ok (.iload_n 1, 1) := by decide +kernel
theorem dX5_firstPartner_7 : decode cX5_firstPartner 7 = .ok (.iconst 1, 1) := by decide +kernel
theorem dX5_firstPartner_8 : decode cX5_firstPartner 8 = .ok (.iadd, 1) := by decide +kernel
theorem dX5_firstPartner_9 : decode cX5_firstPartner 9 = .ok (.istore 4, 2) := by decide +kernel
theorem dX5_firstPartner_11 : decode cX5_firstPartner 11 = .ok (.iload 4, 2) := by decide +kernel
theorem dX5_firstPartner_13 : decode cX5_firstPartner 13 = .ok (.aload_n 0, 1) := by decide +kernel
theorem dX5_firstPartner_14 : decode cX5_firstPartner 14 = .ok (.getfield 44, 3) := by decide +kernel
theorem dX5_firstPartner_17 : decode cX5_firstPartner 17 = .ok (.if_icmp .ge 50, 3) := by decide +kernel
theorem dX5_firstPartner_20 : decode cX5_firstPartner 20 = .ok (.iload_n 3, 1) := by decide +kernel
theorem dX5_firstPartner_21 : decode cX5_firstPartner 21 = .ok (.iload 4, 2) := by decide +kernel
theorem dX5_firstPartner_23 : decode cX5_firstPartner 23 = .ok (.ishr, 1) := by decide +kernel
theorem dX5_firstPartner_24 : decode cX5_firstPartner 24 = .ok (.iconst 1, 1) := by decide +kernel
theorem dX5_firstPartner_25 : decode cX5_firstPartner 25 = .ok (.iand, 1) := by decide +kernel
theorem dX5_firstPartner_26 : decode cX5_firstPartner 26 = .ok (.iconst 1, 1) := by decide +kernel
theorem dX5_firstPartner_27 : decode cX5_firstPartner 27 = .ok (.if_icmp .ne 34, 3) := by decide +kernel
theorem dX5_firstPartner_30 : decode cX5_firstPartner 30 = .ok (.aload_n 0, 1) := by decide +kernel
theorem dX5_firstPartner_31 : decode cX5_firstPartner 31 = .ok (.iload_n 1, 1) := by decide +kernel
theorem dX5_firstPartner_32 : decode cX5_firstPartner 32 = .ok (.iload 4, 2) := by decide +kernel
theorem dX5_firstPartner_34 : decode cX5_firstPartner 34 = .ok (.invokevirtual 84, 3) := by decide +kernel
theorem dX5_firstPartner_37 : decode cX5_firstPartner 37 = .ok (.aload_n 0, 1) := by decide +kernel
theorem dX5_firstPartner_38 : decode cX5_firstPartner 38 = .ok (.getfield 26, 3) := by decide +kernel
theorem dX5_firstPartner_41 : decode cX5_firstPartner 41 = .ok (.iload_n 3, 1) := by decide +kernel
theorem dX5_firstPartner_42 : decode cX5_firstPartner 42 = .ok (.iconst 1, 1) := by decide +kernel
theorem dX5_firstPartner_43 : decode cX5_firstPartner 43 = .ok (.iload 4, 2) := by decide +kernel
theorem dX5_firstPartner_45 : decode cX5_firstPartner 45 = .ok (.ishl, 1) := by decide +kernel
theorem dX5_firstPartner_46 : decode cX5_firstPartner 46 = .ok (.ixor, 1) := by decide +kernel
theorem dX5_firstPartner_47 : decode cX5_firstPartner 47 = .ok (.iaload, 1) := by decide +kernel
theorem dX5_firstPartner_48 : decode cX5_firstPartner 48 = .ok (.iadd, 1) := by decide +kernel
theorem dX5_firstPartner_49 : decode cX5_firstPartner 49 = .ok (.aload_n 0, 1) := by decide +kernel
theorem dX5_firstPartner_50 : decode cX5_firstPartner 50 = .ok (.getfield 26, 3) := by decide +kernel
theorem dX5_firstPartner_53 : decode cX5_firstPartner 53 = .ok (.iload_n 2, 1) := by decide +kernel
theorem dX5_firstPartner_54 : decode cX5_firstPartner 54 = .ok (.iaload, 1) := by decide +kernel
theorem dX5_firstPartner_55 : decode cX5_firstPartner 55 = .ok (.if_icmp .ne 6, 3) := by decide +kernel
theorem dX5_firstPartner_58 : decode cX5_firstPartner 58 = .ok (.iload 4, 2) := by decide +kernel
theorem dX5_firstPartner_60 : decode cX5_firstPartner 60 = .ok (.ireturn, 1) := by decide +kernel
theorem dX5_firstPartner_61 : decode cX5_firstPartner 61 = .ok (.iinc 4 1, 3) := by decide +kernel
theorem dX5_firstPartner_64 : decode cX5_firstPartner 64 = .ok (.goto (-53), 3) := by decide +kernel
theorem dX5_firstPartner_67 : decode cX5_firstPartner 67 = .ok (.bipush (-2), 2) := by decide +kernel
theorem dX5_firstPartner_69 : decode cX5_firstPartner 69 = .ok (.ireturn, 1) := by decide +kernel
theorem dX5_between_0 : decode cX5_between 0 = .ok (.aload_n 0, 1) := by decide +kernel
theorem dX5_between_1 : decode cX5_between 1 = .ok (.getfield 23, 3) := by decide +kernel
theorem dX5_between_4 : decode cX5_between 4 = .ok (.iload_n 2, 1) := by decide +kernel
theorem dX5_between_5 : decode cX5_between 5 = .ok (.aaload, 1) := by decide +kernel
theorem dX5_between_6 : decode cX5_between 6 = .ok (.aload_n 0, 1) := by decide +kernel
theorem dX5_between_7 : decode cX5_between 7 = .ok (.getfield 18, 3) := by decide +kernel
theorem dX5_between_10 : decode cX5_between 10 = .ok (.iload_n 1, 1) := by decide +kernel
theorem dX5_between_11 : decode cX5_between 11 = .ok (.iaload, 1) := by decide +kernel
theorem dX5_between_12 : decode cX5_between 12 = .ok (.iaload, 1) := by decide +kernel
theorem dX5_between_13 : decode cX5_between 13 = .ok (.ireturn, 1) := by decide +kernel
theorem dX5_toBorder_0 : decode cX5_toBorder 0 = .ok (.aload_n 0, 1) := by decide +kernel
theorem dX5_toBorder_1 : decode cX5_toBorder 1 = .ok (.getfield 23, 3) := by decide +kernel
theorem dX5_toBorder_4 : decode cX5_toBorder 4 = .ok (.bipush 14, 2) := by decide +kernel
theorem dX5_toBorder_6 : decode cX5_toBorder 6 = .ok (.aaload, 1) := by decide +kernel
theorem dX5_toBorder_7 : decode cX5_toBorder 7 = .ok (.aload_n 0, 1) := by decide +kernel
theorem dX5_toBorder_8 : decode cX5_toBorder 8 = .ok (.getfield 18, 3) := by decide +kernel
theorem dX5_toBorder_11 : decode cX5_toBorder 11 = .ok (.iload_n 1, 1) := by decide +kernel
theorem dX5_toBorder_12 : decode cX5_toBorder 12 = .ok (.iaload, 1) := by decide +kernel
theorem dX5_toBorder_13 : decode cX5_toBorder 13 = .ok (.iaload, 1) := by decide +kernel
theorem dX5_toBorder_14 : decode cX5_toBorder 14 = .ok (.ireturn, 1) := by decide +kernel
theorem dX5_trace_0 : decode cX5_trace 0 = .ok (.aload_n 0, 1) := by decide +kernel
theorem dX5_trace_1 : decode cX5_trace 1 = .ok (.getfield 15, 3) := by decide +kernel
theorem dX5_trace_4 : decode cX5_trace 4 = .ok (.iconst 0, 1) := by decide +kernel
theorem dX5_trace_5 : decode cX5_trace 5 = .ok (.invokestatic 90, 3) := by decide +kernel
theorem dX5_trace_8 : decode cX5_trace 8 = .ok (.iconst 0, 1) := by decide +kernel
theorem dX5_trace_9 : decode cX5_trace 9 = .ok (.istore_n 3, 1) := by decide +kernel
theorem dX5_trace_10 : decode cX5_trace 10 = .ok (.iload_n 3, 1) := by decide +kernel
theorem dX5_trace_11 : decode cX5_trace 11 = .ok (.aload_n 0, 1) := by decide +kernel
theorem dX5_trace_12 : decode cX5_trace 12 = .ok (.getfield 44, 3) := by decide +kernel
theorem dX5_trace_15 : decode cX5_trace 15 = .ok (.if_icmp .ge 98, 3) := by decide +kernel
theorem dX5_trace_18 : decode cX5_trace 18 = .ok (.aload_n 0, 1) := by decide +kernel
theorem dX5_trace_19 : decode cX5_trace 19 = .ok (.getfield 9, 3) := by decide +kernel
theorem dX5_trace_22 : decode cX5_trace 22 = .ok (.iload_n 3, 1) := by decide +kernel
theorem dX5_trace_23 : decode cX5_trace 23 = .ok (.iaload, 1) := by decide +kernel
theorem dX5_trace_24 : decode cX5_trace 24 = .ok (.bipush (-2), 2) := by decide +kernel
theorem dX5_trace_26 : decode cX5_trace 26 = .ok (.if_icmp .ne 33, 3) := by decide +kernel
theorem dX5_trace_29 : decode cX5_trace 29 = .ok (.aload_n 2, 1) := by decide +kernel
theorem dX5_trace_30 : decode cX5_trace 30 = .ok (.aload_n 1, 1) := by decide +kernel
theorem dX5_trace_31 : decode cX5_trace 31 = .ok (.aload_n 0, 1) := by decide +kernel
theorem dX5_trace_32 : decode cX5_trace 32 = .ok (.getfield 18, 3) := by decide +kernel
theorem dX5_trace_35 : decode cX5_trace 35 = .ok (.iload_n 3, 1) := by decide +kernel
theorem dX5_trace_36 : decode cX5_trace 36 = .ok (.iaload, 1) := by decide +kernel
theorem dX5_trace_37 : decode cX5_trace 37 = .ok (.aload_n 1, 1) := by decide +kernel
theorem dX5_trace_38 : decode cX5_trace 38 = .ok (.getfield 56, 3) := by decide +kernel
theorem dX5_trace_41 : decode cX5_trace 41 = .ok (.aload_n 0, 1) := by decide +kernel
theorem dX5_trace_42 : decode cX5_trace 42 = .ok (.getfield 23, 3) := by decide +kernel
theorem dX5_trace_45 : decode cX5_trace 45 = .ok (.bipush 14, 2) := by decide +kernel
theorem dX5_trace_47 : decode cX5_trace 47 = .ok (.aaload, 1) := by decide +kernel
theorem dX5_trace_48 : decode cX5_trace 48 = .ok (.invokevirtual 96, 3) := by decide +kernel
theorem dX5_trace_51 : decode cX5_trace 51 = .ok (.aload_n 0, 1) := by decide +kernel
theorem dX5_trace_52 : decode cX5_trace 52 = .ok (.aload_n 2, 1) := by decide +kernel
theorem dX5_trace_53 : decode cX5_trace 53 = .ok (.invokevirtual 100, 3) := by decide +kernel
theorem dX5_trace_56 : decode cX5_trace 56 = .ok (.goto 51, 3) := by decide +kernel
theorem dX5_trace_59 : decode cX5_trace 59 = .ok (.aload_n 0, 1) := by decide +kernel
theorem dX5_trace_60 : decode cX5_trace 60 = .ok (.getfield 9, 3) := by decide +kernel
theorem dX5_trace_63 : decode cX5_trace 63 = .ok (.iload_n 3, 1) := by decide +kernel
theorem dX5_trace_64 : decode cX5_trace 64 = .ok (.iaload, 1) := by decide +kernel
theorem dX5_trace_65 : decode cX5_trace 65 = .ok (.iload_n 3, 1) := by decide +kernel
theorem dX5_trace_66 : decode cX5_trace 66 = .ok (.if_icmp .le 41, 3) := by decide +kernel
theorem dX5_trace_69 : decode cX5_trace 69 = .ok (.aload_n 2, 1) := by decide +kernel
theorem dX5_trace_70 : decode cX5_trace 70 = .ok (.aload_n 1, 1) := by decide +kernel
theorem dX5_trace_71 : decode cX5_trace 71 = .ok (.aload_n 0, 1) := by decide +kernel
theorem dX5_trace_72 : decode cX5_trace 72 = .ok (.getfield 18, 3) := by decide +kernel
theorem dX5_trace_75 : decode cX5_trace 75 = .ok (.iload_n 3, 1) := by decide +kernel
theorem dX5_trace_76 : decode cX5_trace 76 = .ok (.iaload, 1) := by decide +kernel
theorem dX5_trace_77 : decode cX5_trace 77 = .ok (.aload_n 0, 1) := by decide +kernel
theorem dX5_trace_78 : decode cX5_trace 78 = .ok (.getfield 18, 3) := by decide +kernel
theorem dX5_trace_81 : decode cX5_trace 81 = .ok (.aload_n 0, 1) := by decide +kernel
theorem dX5_trace_82 : decode cX5_trace 82 = .ok (.getfield 9, 3) := by decide +kernel
theorem dX5_trace_85 : decode cX5_trace 85 = .ok (.iload_n 3, 1) := by decide +kernel
theorem dX5_trace_86 : decode cX5_trace 86 = .ok (.iaload, 1) := by decide +kernel
theorem dX5_trace_87 : decode cX5_trace 87 = .ok (.iaload, 1) := by decide +kernel
theorem dX5_trace_88 : decode cX5_trace 88 = .ok (.aload_n 0, 1) := by decide +kernel
theorem dX5_trace_89 : decode cX5_trace 89 = .ok (.getfield 23, 3) := by decide +kernel
theorem dX5_trace_92 : decode cX5_trace 92 = .ok (.aload_n 0, 1) := by decide +kernel
theorem dX5_trace_93 : decode cX5_trace 93 = .ok (.getfield 9, 3) := by decide +kernel
theorem dX5_trace_96 : decode cX5_trace 96 = .ok (.iload_n 3, 1) := by decide +kernel
theorem dX5_trace_97 : decode cX5_trace 97 = .ok (.iaload, 1) := by decide +kernel
theorem dX5_trace_98 : decode cX5_trace 98 = .ok (.aaload, 1) := by decide +kernel
theorem dX5_trace_99 : decode cX5_trace 99 = .ok (.invokevirtual 96, 3) := by decide +kernel
theorem dX5_trace_102 : decode cX5_trace 102 = .ok (.aload_n 0, 1) := by decide +kernel
theorem dX5_trace_103 : decode cX5_trace 103 = .ok (.aload_n 2, 1) := by decide +kernel
theorem dX5_trace_104 : decode cX5_trace 104 = .ok (.invokevirtual 100, 3) := by decide +kernel
theorem dX5_trace_107 : decode cX5_trace 107 = .ok (.iinc 3 1, 3) := by decide +kernel
theorem dX5_trace_110 : decode cX5_trace 110 = .ok (.goto (-100), 3) := by decide +kernel
theorem dX5_trace_113 : decode cX5_trace 113 = .ok (.return_, 1) := by decide +kernel
theorem dX5_flipAlong_0 : decode cX5_flipAlong 0 = .ok (.iconst 0, 1) := by decide +kernel
theorem dX5_flipAlong_1 : decode cX5_flipAlong 1 = .ok (.istore_n 2, 1) := by decide +kernel
theorem dX5_flipAlong_2 : decode cX5_flipAlong 2 = .ok (.iload_n 2, 1) := by decide +kernel
theorem dX5_flipAlong_3 : decode cX5_flipAlong 3 = .ok (.aload_n 1, 1) := by decide +kernel
theorem dX5_flipAlong_4 : decode cX5_flipAlong 4 = .ok (.getfield 104, 3) := by decide +kernel
theorem dX5_flipAlong_7 : decode cX5_flipAlong 7 = .ok (.if_icmp .ge 24, 3) := by decide +kernel
theorem dX5_flipAlong_10 : decode cX5_flipAlong 10 = .ok (.aload_n 0, 1) := by decide +kernel
theorem dX5_flipAlong_11 : decode cX5_flipAlong 11 = .ok (.getfield 15, 3) := by decide +kernel
theorem dX5_flipAlong_14 : decode cX5_flipAlong 14 = .ok (.aload_n 1, 1) := by decide +kernel
theorem dX5_flipAlong_15 : decode cX5_flipAlong 15 = .ok (.getfield 107, 3) := by decide +kernel
theorem dX5_flipAlong_18 : decode cX5_flipAlong 18 = .ok (.iload_n 2, 1) := by decide +kernel
theorem dX5_flipAlong_19 : decode cX5_flipAlong 19 = .ok (.iaload, 1) := by decide +kernel
theorem dX5_flipAlong_20 : decode cX5_flipAlong 20 = .ok (.dup2, 1) := by decide +kernel
theorem dX5_flipAlong_21 : decode cX5_flipAlong 21 = .ok (.iaload, 1) := by decide +kernel
theorem dX5_flipAlong_22 : decode cX5_flipAlong 22 = .ok (.iconst 1, 1) := by decide +kernel
theorem dX5_flipAlong_23 : decode cX5_flipAlong 23 = .ok (.ixor, 1) := by decide +kernel
theorem dX5_flipAlong_24 : decode cX5_flipAlong 24 = .ok (.iastore, 1) := by decide +kernel
theorem dX5_flipAlong_25 : decode cX5_flipAlong 25 = .ok (.iinc 2 1, 3) := by decide +kernel
theorem dX5_flipAlong_28 : decode cX5_flipAlong 28 = .ok (.goto (-26), 3) := by decide +kernel
theorem dX5_flipAlong_31 : decode cX5_flipAlong 31 = .ok (.return_, 1) := by decide +kernel
theorem dX6_init_0 : decode cX6_init 0 = .ok (.aload_n 0, 1) := by decide +kernel
theorem dX6_init_1 : decode cX6_init 1 = .ok (.invokespecial 3, 3) := by decide +kernel
theorem dX6_init_4 : decode cX6_init 4 = .ok (.aload_n 0, 1) := by decide +kernel
theorem dX6_init_5 : decode cX6_init 5 = .ok (.sipush 240, 3) := by decide +kernel
theorem dX6_init_8 : decode cX6_init 8 = .ok (.newarray .int, 2) := by decide +kernel
theorem dX6_init_10 : decode cX6_init 10 = .ok (.putfield 9, 3) := by decide +kernel
theorem dX6_init_13 : decode cX6_init 13 = .ok (.aload_n 0, 1) := by decide +kernel
theorem dX6_init_14 : decode cX6_init 14 = .ok (.bipush 30, 2) := by decide +kernel
theorem dX6_init_16 : decode cX6_init 16 = .ok (.newarray .int, 2) := by decide +kernel
theorem dX6_init_18 : decode cX6_init 18 = .ok (.putfield 15, 3) := by decide +kernel
theorem dX6_init_21 : decode cX6_init 21 = .ok (.aload_n 0, 1) := by decide +kernel
theorem dX6_init_22 : decode cX6_init 22 = .ok (.bipush 30, 2) := by decide +kernel
theorem dX6_init_24 : decode cX6_init 24 = .ok (.newarray .int, 2) := by decide +kernel
theorem dX6_init_26 : decode cX6_init 26 = .ok (.putfield 18, 3) := by decide +kernel
theorem dX6_init_29 : decode cX6_init 29 = .ok (.aload_n 0, 1) := by decide +kernel
theorem dX6_init_30 : decode cX6_init 30 = .ok (.bipush 30, 2) := by decide +kernel
theorem dX6_init_32 : decode cX6_init 32 = .ok (.newarray .int, 2) := by decide +kernel
theorem dX6_init_34 : decode cX6_init 34 = .ok (.putfield 21, 3) := by decide +kernel
theorem dX6_init_37 : decode cX6_init 37 = .ok (.aload_n 0, 1) := by decide +kernel
theorem dX6_init_38 : decode cX6_init 38 = .ok (.bipush 30, 2) := by decide +kernel
theorem dX6_init_40 : decode cX6_init 40 = .ok (.newarray .int, 2) := by decide +kernel
theorem dX6_init_42 : decode cX6_init 42 = .ok (.putfield 24, 3) := by decide +kernel
theorem dX6_init_45 : decode cX6_init 45 = .ok (.aload_n 0, 1) := by decide +kernel
theorem dX6_init_46 : decode cX6_init 46 = .ok (.bipush 30, 2) := by decide +kernel
theorem dX6_init_48 : decode cX6_init 48 = .ok (.newarray .int, 2) := by decide +kernel
theorem dX6_init_50 : decode cX6_init 50 = .ok (.putfield 27, 3) := by decide +kernel
theorem dX6_init_53 : decode cX6_init 53 = .ok (.aload_n 0, 1) := by decide +kernel
theorem dX6_init_54 : decode cX6_init 54 = .ok (.iconst 2, 1) := by decide +kernel
theorem dX6_init_55 : decode cX6_init 55 = .ok (.newarray .int, 2) := by decide +kernel
theorem dX6_init_57 : decode cX6_init 57 = .ok (.putfield 30, 3) := by decide +kernel
theorem dX6_init_60 : decode cX6_init 60 = .ok (.return_, 1) := by decide +kernel
theorem dX6_put_0 : decode cX6_put 0 = .ok (.bipush 24, 2) := by decide +kernel
theorem dX6_put_2 : decode cX6_put 2 = .ok (.istore_n 2, 1) := by decide +kernel
theorem dX6_put_3 : decode cX6_put 3 = .ok (.iload_n 2, 1) := by decide +kernel
theorem dX6_put_4 : decode cX6_put 4 = .ok (.ifCond .lt 45, 3) := by decide +kernel
theorem dX6_put_7 : decode cX6_put 7 = .ok (.aload_n 0, 1) := by decide +kernel
theorem dX6_put_8 : decode cX6_put 8 = .ok (.getfield 33, 3) := by decide +kernel
theorem dX6_put_11 : decode cX6_put 11 = .ok (.sipush 240, 3) := by decide +kernel
theorem dX6_put_14 : decode cX6_put 14 = .ok (.if_icmp .ge 29, 3) := by decide +kernel
theorem dX6_put_17 : decode cX6_put 17 = .ok (.aload_n 0, 1) := by decide +kernel
theorem dX6_put_18 : decode cX6_put 18 = .ok (.getfield 9, 3) := by decide +kernel
theorem dX6_put_21 : decode cX6_put 21 = .ok (.aload_n 0, 1) := by decide +kernel
theorem dX6_put_22 : decode cX6_put 22 = .ok (.getfield 33, 3) := by decide +kernel
theorem dX6_put_25 : decode cX6_put 25 = .ok (.iload_n 1, 1) := by decide +kernel
theorem dX6_put_26 : decode cX6_put 26 = .ok (.iload_n 2, 1) := by decide +kernel
theorem dX6_put_27 : decode cX6_put 27 = .ok (.iushr, 1) := by decide +kernel
theorem dX6_put_28 : decode cX6_put 28 = .ok (.sipush 255, 3) := by decide +kernel
theorem dX6_put_31 : decode cX6_put 31 = .ok (.iand, 1) := by decide +kernel
theorem dX6_put_32 : decode cX6_put 32 = .ok (.iastore, 1) := by decide +kernel
theorem dX6_put_33 : decode cX6_put 33 = .ok (.aload_n 0, 1) := by decide +kernel
theorem dX6_put_34 : decode cX6_put 34 = .ok (.dup, 1) := by decide +kernel
theorem dX6_put_35 : decode cX6_put 35 = .ok (.getfield 33, 3) := by decide +kernel
theorem dX6_put_38 : decode cX6_put 38 = .ok (.iconst 1, 1) := by decide +kernel
theorem dX6_put_39 : decode cX6_put 39 = .ok (.iadd, 1) := by decide +kernel
theorem dX6_put_40 : decode cX6_put 40 = .ok (.putfield 33, 3) := by decide +kernel
theorem dX6_put_43 : decode cX6_put 43 = .ok (.iinc 2 (-8), 3) := by decide +kernel
theorem dX6_put_46 : decode cX6_put 46 = .ok (.goto (-43), 3) := by decide +kernel
theorem dX6_put_49 : decode cX6_put 49 = .ok (.return_, 1) := by decide +kernel
theorem dX6_isRight_0 : decode cX6_isRight 0 = .ok (.aload_n 0, 1) := by decide +kernel
theorem dX6_isRight_1 : decode cX6_isRight 1 = .ok (.aload_n 1, 1) := by decide +kernel
theorem dX6_isRight_2 : decode cX6_isRight 2 = .ok (.getfield 37, 3) := by decide +kernel
theorem dX6_isRight_5 : decode cX6_isRight 5 = .ok (.putfield 42, 3) := by decide +kernel
theorem dX6_isRight_8 : decode cX6_isRight 8 = .ok (.aload_n 0, 1) := by decide +kernel
theorem dX6_isRight_9 : decode cX6_isRight 9 = .ok (.aload_n 1, 1) := by decide +kernel
theorem dX6_isRight_10 : decode cX6_isRight 10 = .ok (.getfield 43, 3) := by decide +kernel
theorem dX6_isRight_13 : decode cX6_isRight 13 = .ok (.putfield 46, 3) := by decide +kernel
theorem dX6_isRight_16 : decode cX6_isRight 16 = .ok (.aload_n 0, 1) := by decide +kernel
theorem dX6_isRight_17 : decode cX6_isRight 17 = .ok (.iconst 0, 1) := by decide +kernel
theorem dX6_isRight_18 : decode cX6_isRight 18 = .ok (.putfield 47, 3) := by decide +kernel
theorem dX6_isRight_21 : decode cX6_isRight 21 = .ok (.aload_n 0, 1) := by decide +kernel
theorem dX6_isRight_22 : decode cX6_isRight 22 = .ok (.iconst 0, 1) := by decide +kernel
theorem dX6_isRight_23 : decode cX6_isRight 23 = .ok (.putfield 50, 3) := by decide +kernel
theorem dX6_isRight_26 : decode cX6_isRight 26 = .ok (.aload_n 0, 1) := by decide +kernel
theorem dX6_isRight_27 : decode cX6_isRight 27 = .ok (.iconst 0, 1) := by decide +kernel
theorem dX6_isRight_28 : decode cX6_isRight 28 = .ok (.putfield 53, 3) := by decide +kernel
theorem dX6_isRight_31 : decode cX6_isRight 31 = .ok (.aload_n 0, 1) := by decide +kernel
theorem dX6_isRight_32 : decode cX6_isRight 32 = .ok (.iconst 0, 1) := by decide +kernel
theorem dX6_isRight_33 : decode cX6_isRight 33 = .ok (.putfield 56, 3) := by decide +kernel
theorem dX6_isRight_36 : decode cX6_isRight 36 = .ok (.aload_n 0, 1) := by decide +kernel
theorem dX6_isRight_37 : decode cX6_isRight 37 = .ok (.iconst 0, 1) := by decide +kernel
theorem dX6_isRight_38 : decode cX6_isRight 38 = .ok (.putfield 59, 3) := by decide +kernel
theorem dX6_isRight_41 : decode cX6_isRight 41 = .ok (.aload_n 0, 1) := by decide +kernel
theorem dX6_isRight_42 : decode cX6_isRight 42 = .ok (.getfield 33, 3) := by decide +kernel
theorem dX6_isRight_45 : decode cX6_isRight 45 = .ok (.sipush 200, 3) := by decide +kernel
theorem dX6_isRight_48 : decode cX6_isRight 48 = .ok (.if_icmp .le 12, 3) := by decide +kernel
theorem dX6_isRight_51 : decode cX6_isRight 51 = .ok (.aload_n 0, 1) := by decide +kernel
theorem dX6_isRight_52 : decode cX6_isRight 52 = .ok (.iconst 1, 1) := by decide +kernel
theorem dX6_isRight_53 : decode cX6_isRight 53 = .ok (.sipush 200, 3) := by decide +kernel
theorem dX6_isRight_56 : decode cX6_isRight 56 = .ok (.invokevirtual 62, 3) := by decide +kernel
theorem dX6_isRight_59 : decode cX6_isRight 59 = .ok (.ireturn, 1) := by decide +kernel
theorem dX6_isRight_60 : decode cX6_isRight 60 = .ok (.iconst 0, 1) := by decide +kernel
theorem dX6_isRight_61 : decode cX6_isRight 61 = .ok (.istore_n 2, 1) := by decide +kernel
theorem dX6_isRight_62 : decode cX6_isRight 62 = .ok (.iload_n 2, 1) := by decide +kernel
theorem dX6_isRight_63 : decode cX6_isRight 63 = .ok (.sipush 200, 3) := by decide +kernel
theorem dX6_isRight_66 : decode cX6_isRight 66 = .ok (.if_icmp .gt 61, 3) := by decide +kernel
theorem dX6_isRight_69 : decode cX6_isRight 69 = .ok (.aload_n 0, 1) := by decide +kernel
theorem dX6_isRight_70 : decode cX6_isRight 70 = .ok (.invokevirtual 66, 3) := by decide +kernel
theorem dX6_isRight_73 : decode cX6_isRight 73 = .ok (.istore_n 3, 1) := by decide +kernel
theorem dX6_isRight_74 : decode cX6_isRight 74 = .ok (.iload_n 3, 1) := by decide +kernel
theorem dX6_isRight_75 : decode cX6_isRight 75 = .ok (.iconst (-1), 1) := by decide +kernel
theorem dX6_isRight_76 : decode cX6_isRight 76 = .ok (.if_icmp .ne 12, 3) := by decide +kernel
theorem dX6_isRight_79 : decode cX6_isRight 79 = .ok (.aload_n 0, 1) := by decide +kernel
theorem dX6_isRight_80 : decode cX6_isRight 80 = .ok (.getfield 50, 3) := by decide +kernel
theorem dX6_isRight_83 : decode cX6_isRight 83 = .ok (.ifCond .ne 5, 3) := by decide +kernel
theorem dX6_isRight_86 : decode cX6_isRight 86 = .ok (.iconst 1, 1) := by decide +kernel
