theorem dX6_isRight_87 : decode cX6_isRight 87 = .ok (.ireturn, 1) := by decide +kernel
theorem dX6_isRight_88 : decode cX6_isRight 88 = .ok (.iload_n 3, 1) := by decide +kernel
theorem dX6_isRight_89 : decode cX6_isRight 89 = .ok (.bipush 93, 2) := by decide +kernel
theorem dX6_isRight_91 : decode cX6_isRight 91 = .ok (.if_icmp .ne 17, 3) := by decide +kernel
theorem dX6_isRight_94 : decode cX6_isRight 94 = .ok (.aload_n 0, 1) := by decide +kernel
theorem dX6_isRight_95 : decode cX6_isRight 95 = .ok (.getfield 50, 3) := by decide +kernel
theorem dX6_isRight_98 : decode cX6_isRight 98 = .ok (.ifCond .le 10, 3) := by decide +kernel
theorem dX6_isRight_101 : decode cX6_isRight 101 = .ok (.aload_n 0, 1) := by decide +kernel
theorem dX6_isRight_102 : decode cX6_isRight 102 = .ok (.invokevirtual 70, 3) := by decide +kernel
theorem dX6_isRight_105 : decode cX6_isRight 105 = .ok (.goto 7, 3) := by decide +kernel
theorem dX6_isRight_108 : decode cX6_isRight 108 = .ok (.aload_n 0, 1) := by decide +kernel
theorem dX6_isRight_109 : decode cX6_isRight 109 = .ok (.invokevirtual 74, 3) := by decide +kernel
theorem dX6_isRight_112 : decode cX6_isRight 112 = .ok (.istore 4, 2) := by decide +kernel
theorem dX6_isRight_114 : decode cX6_isRight 114 = .ok (.iload 4, 2) := by decide +kernel
theorem dX6_isRight_116 : decode cX6_isRight 116 = .ok (.ifCond .ne 5, 3) := by decide +kernel
theorem dX6_isRight_119 : decode cX6_isRight 119 = .ok (.iconst 0, 1) := by decide +kernel
theorem dX6_isRight_120 : decode cX6_isRight 120 = .ok (.ireturn, 1) := by decide +kernel
theorem dX6_isRight_121 : decode cX6_isRight 121 = .ok (.iinc 2 1, 3) := by decide +kernel
theorem dX6_isRight_124 : decode cX6_isRight 124 = .ok (.goto (-62), 3) := by decide +kernel
theorem dX6_isRight_127 : decode cX6_isRight 127 = .ok (.aload_n 0, 1) := by decide +kernel
theorem dX6_isRight_128 : decode cX6_isRight 128 = .ok (.iconst 1, 1) := by decide +kernel
theorem dX6_isRight_129 : decode cX6_isRight 129 = .ok (.aload_n 0, 1) := by decide +kernel
theorem dX6_isRight_130 : decode cX6_isRight 130 = .ok (.getfield 53, 3) := by decide +kernel
theorem dX6_isRight_133 : decode cX6_isRight 133 = .ok (.invokevirtual 62, 3) := by decide +kernel
theorem dX6_isRight_136 : decode cX6_isRight 136 = .ok (.ireturn, 1) := by decide +kernel
theorem dX6_hasFault_0 : decode cX6_hasFault 0 = .ok (.aload_n 0, 1) := by decide +kernel
theorem dX6_hasFault_1 : decode cX6_hasFault 1 = .ok (.iload_n 1, 1) := by decide +kernel
theorem dX6_hasFault_2 : decode cX6_hasFault 2 = .ok (.putfield 56, 3) := by decide +kernel
theorem dX6_hasFault_5 : decode cX6_hasFault 5 = .ok (.aload_n 0, 1) := by decide +kernel
theorem dX6_hasFault_6 : decode cX6_hasFault 6 = .ok (.iload_n 2, 1) := by decide +kernel
theorem dX6_hasFault_7 : decode cX6_hasFault 7 = .ok (.putfield 59, 3) := by decide +kernel
theorem dX6_hasFault_10 : decode cX6_hasFault 10 = .ok (.iconst 0, 1) := by decide +kernel
theorem dX6_hasFault_11 : decode cX6_hasFault 11 = .ok (.ireturn, 1) := by decide +kernel
theorem dX6_closeAgain_0 : decode cX6_closeAgain 0 = .ok (.aload_n 0, 1) := by decide +kernel
theorem dX6_closeAgain_1 : decode cX6_closeAgain 1 = .ok (.dup, 1) := by decide +kernel
theorem dX6_closeAgain_2 : decode cX6_closeAgain 2 = .ok (.getfield 50, 3) := by decide +kernel
theorem dX6_closeAgain_5 : decode cX6_closeAgain 5 = .ok (.iconst 1, 1) := by decide +kernel
theorem dX6_closeAgain_6 : decode cX6_closeAgain 6 = .ok (.isub, 1) := by decide +kernel
theorem dX6_closeAgain_7 : decode cX6_closeAgain 7 = .ok (.putfield 50, 3) := by decide +kernel
theorem dX6_closeAgain_10 : decode cX6_closeAgain 10 = .ok (.aload_n 0, 1) := by decide +kernel
theorem dX6_closeAgain_11 : decode cX6_closeAgain 11 = .ok (.getfield 27, 3) := by decide +kernel
theorem dX6_closeAgain_14 : decode cX6_closeAgain 14 = .ok (.aload_n 0, 1) := by decide +kernel
theorem dX6_closeAgain_15 : decode cX6_closeAgain 15 = .ok (.getfield 30, 3) := by decide +kernel
theorem dX6_closeAgain_18 : decode cX6_closeAgain 18 = .ok (.aload_n 0, 1) := by decide +kernel
theorem dX6_closeAgain_19 : decode cX6_closeAgain 19 = .ok (.getfield 50, 3) := by decide +kernel
theorem dX6_closeAgain_22 : decode cX6_closeAgain 22 = .ok (.iaload, 1) := by decide +kernel
theorem dX6_closeAgain_23 : decode cX6_closeAgain 23 = .ok (.aload_n 0, 1) := by decide +kernel
theorem dX6_closeAgain_24 : decode cX6_closeAgain 24 = .ok (.getfield 47, 3) := by decide +kernel
theorem dX6_closeAgain_27 : decode cX6_closeAgain 27 = .ok (.iastore, 1) := by decide +kernel
theorem dX6_closeAgain_28 : decode cX6_closeAgain 28 = .ok (.aload_n 0, 1) := by decide +kernel
theorem dX6_closeAgain_29 : decode cX6_closeAgain 29 = .ok (.bipush 93, 2) := by decide +kernel
theorem dX6_closeAgain_31 : decode cX6_closeAgain 31 = .ok (.invokevirtual 77, 3) := by decide +kernel
theorem dX6_closeAgain_34 : decode cX6_closeAgain 34 = .ok (.ifCond .eq 16, 3) := by decide +kernel
theorem dX6_closeAgain_37 : decode cX6_closeAgain 37 = .ok (.aload_n 0, 1) := by decide +kernel
theorem dX6_closeAgain_38 : decode cX6_closeAgain 38 = .ok (.bipush 59, 2) := by decide +kernel
theorem dX6_closeAgain_40 : decode cX6_closeAgain 40 = .ok (.invokevirtual 77, 3) := by decide +kernel
theorem dX6_closeAgain_43 : decode cX6_closeAgain 43 = .ok (.ifCond .eq 7, 3) := by decide +kernel
theorem dX6_closeAgain_46 : decode cX6_closeAgain 46 = .ok (.iconst 1, 1) := by decide +kernel
theorem dX6_closeAgain_47 : decode cX6_closeAgain 47 = .ok (.goto 4, 3) := by decide +kernel
theorem dX6_closeAgain_50 : decode cX6_closeAgain 50 = .ok (.iconst 0, 1) := by decide +kernel
theorem dX6_closeAgain_51 : decode cX6_closeAgain 51 = .ok (.ireturn, 1) := by decide +kernel
theorem dX6_readStep_0 : decode cX6_readStep 0 = .ok (.aload_n 0, 1) := by decide +kernel
theorem dX6_readStep_1 : decode cX6_readStep 1 = .ok (.getfield 53, 3) := by decide +kernel
theorem dX6_readStep_4 : decode cX6_readStep 4 = .ok (.istore_n 1, 1) := by decide +kernel
theorem dX6_readStep_5 : decode cX6_readStep 5 = .ok (.aload_n 0, 1) := by decide +kernel
theorem dX6_readStep_6 : decode cX6_readStep 6 = .ok (.invokevirtual 81, 3) := by decide +kernel
theorem dX6_readStep_9 : decode cX6_readStep 9 = .ok (.istore_n 2, 1) := by decide +kernel
theorem dX6_readStep_10 : decode cX6_readStep 10 = .ok (.iload_n 2, 1) := by decide +kernel
theorem dX6_readStep_11 : decode cX6_readStep 11 = .ok (.iconst (-1), 1) := by decide +kernel
theorem dX6_readStep_12 : decode cX6_readStep 12 = .ok (.if_icmp .ne 10, 3) := by decide +kernel
theorem dX6_readStep_15 : decode cX6_readStep 15 = .ok (.aload_n 0, 1) := by decide +kernel
theorem dX6_readStep_16 : decode cX6_readStep 16 = .ok (.iconst 1, 1) := by decide +kernel
theorem dX6_readStep_17 : decode cX6_readStep 17 = .ok (.iload_n 1, 1) := by decide +kernel
theorem dX6_readStep_18 : decode cX6_readStep 18 = .ok (.invokevirtual 62, 3) := by decide +kernel
theorem dX6_readStep_21 : decode cX6_readStep 21 = .ok (.ireturn, 1) := by decide +kernel
theorem dX6_readStep_22 : decode cX6_readStep 22 = .ok (.aload_n 0, 1) := by decide +kernel
theorem dX6_readStep_23 : decode cX6_readStep 23 = .ok (.getfield 47, 3) := by decide +kernel
theorem dX6_readStep_26 : decode cX6_readStep 26 = .ok (.bipush 30, 2) := by decide +kernel
theorem dX6_readStep_28 : decode cX6_readStep 28 = .ok (.if_icmp .lt 10, 3) := by decide +kernel
theorem dX6_readStep_31 : decode cX6_readStep 31 = .ok (.aload_n 0, 1) := by decide +kernel
theorem dX6_readStep_32 : decode cX6_readStep 32 = .ok (.iconst 3, 1) := by decide +kernel
theorem dX6_readStep_33 : decode cX6_readStep 33 = .ok (.iload_n 1, 1) := by decide +kernel
theorem dX6_readStep_34 : decode cX6_readStep 34 = .ok (.invokevirtual 62, 3) := by decide +kernel
theorem dX6_readStep_37 : decode cX6_readStep 37 = .ok (.ireturn, 1) := by decide +kernel
theorem dX6_readStep_38 : decode cX6_readStep 38 = .ok (.iload_n 2, 1) := by decide +kernel
theorem dX6_readStep_39 : decode cX6_readStep 39 = .ok (.bipush 7, 2) := by decide +kernel
theorem dX6_readStep_41 : decode cX6_readStep 41 = .ok (.if_icmp .ne 18, 3) := by decide +kernel
theorem dX6_readStep_44 : decode cX6_readStep 44 = .ok (.aload_n 0, 1) := by decide +kernel
theorem dX6_readStep_45 : decode cX6_readStep 45 = .ok (.getfield 50, 3) := by decide +kernel
theorem dX6_readStep_48 : decode cX6_readStep 48 = .ok (.iconst 2, 1) := by decide +kernel
theorem dX6_readStep_49 : decode cX6_readStep 49 = .ok (.if_icmp .lt 10, 3) := by decide +kernel
theorem dX6_readStep_52 : decode cX6_readStep 52 = .ok (.aload_n 0, 1) := by decide +kernel
theorem dX6_readStep_53 : decode cX6_readStep 53 = .ok (.iconst 4, 1) := by decide +kernel
theorem dX6_readStep_54 : decode cX6_readStep 54 = .ok (.iload_n 1, 1) := by decide +kernel
theorem dX6_readStep_55 : decode cX6_readStep 55 = .ok (.invokevirtual 62, 3) := by decide +kernel
theorem dX6_readStep_58 : decode cX6_readStep 58 = .ok (.ireturn, 1) := by decide +kernel
theorem dX6_readStep_59 : decode cX6_readStep 59 = .ok (.aload_n 0, 1) := by decide +kernel
theorem dX6_readStep_60 : decode cX6_readStep 60 = .ok (.getfield 47, 3) := by decide +kernel
theorem dX6_readStep_63 : decode cX6_readStep 63 = .ok (.istore_n 3, 1) := by decide +kernel
theorem dX6_readStep_64 : decode cX6_readStep 64 = .ok (.aload_n 0, 1) := by decide +kernel
theorem dX6_readStep_65 : decode cX6_readStep 65 = .ok (.dup, 1) := by decide +kernel
theorem dX6_readStep_66 : decode cX6_readStep 66 = .ok (.getfield 47, 3) := by decide +kernel
theorem dX6_readStep_69 : decode cX6_readStep 69 = .ok (.iconst 1, 1) := by decide +kernel
theorem dX6_readStep_70 : decode cX6_readStep 70 = .ok (.iadd, 1) := by decide +kernel
theorem dX6_readStep_71 : decode cX6_readStep 71 = .ok (.putfield 47, 3) := by decide +kernel
theorem dX6_readStep_74 : decode cX6_readStep 74 = .ok (.aload_n 0, 1) := by decide +kernel
theorem dX6_readStep_75 : decode cX6_readStep 75 = .ok (.getfield 15, 3) := by decide +kernel
theorem dX6_readStep_78 : decode cX6_readStep 78 = .ok (.iload_n 3, 1) := by decide +kernel
theorem dX6_readStep_79 : decode cX6_readStep 79 = .ok (.iload_n 2, 1) := by decide +kernel
theorem dX6_readStep_80 : decode cX6_readStep 80 = .ok (.iastore, 1) := by decide +kernel
theorem dX6_readStep_81 : decode cX6_readStep 81 = .ok (.iload_n 2, 1) := by decide +kernel
theorem dX6_readStep_82 : decode cX6_readStep 82 = .ok (.invokestatic 84, 3) := by decide +kernel
theorem dX6_readStep_85 : decode cX6_readStep 85 = .ok (.astore 4, 2) := by decide +kernel
theorem dX6_readStep_87 : decode cX6_readStep 87 = .ok (.iconst 0, 1) := by decide +kernel
theorem dX6_readStep_88 : decode cX6_readStep 88 = .ok (.istore 5, 2) := by decide +kernel
theorem dX6_readStep_90 : decode cX6_readStep 90 = .ok (.iload 5, 2) := by decide +kernel
theorem dX6_readStep_92 : decode cX6_readStep 92 = .ok (.aload 4, 2) := by decide +kernel
theorem dX6_readStep_94 : decode cX6_readStep 94 = .ok (.invokevirtual 88, 3) := by decide +kernel
theorem dX6_readStep_97 : decode cX6_readStep 97 = .ok (.if_icmp .ge 26, 3) := by decide +kernel
theorem dX6_readStep_100 : decode cX6_readStep 100 = .ok (.aload_n 0, 1) := by decide +kernel
theorem dX6_readStep_101 : decode cX6_readStep 101 = .ok (.aload 4, 2) := by decide +kernel
theorem dX6_readStep_103 : decode cX6_readStep 103 = .ok (.iload 5, 2) := by decide +kernel
theorem dX6_readStep_105 : decode cX6_readStep 105 = .ok (.invokevirtual 92, 3) := by decide +kernel
theorem dX6_readStep_108 : decode cX6_readStep 108 = .ok (.iload_n 3, 1) := by decide +kernel
theorem dX6_readStep_109 : decode cX6_readStep 109 = .ok (.invokevirtual 96, 3) := by decide +kernel
theorem dX6_readStep_112 : decode cX6_readStep 112 = .ok (.ifCond .ne 5, 3) := by decide +kernel
theorem dX6_readStep_115 : decode cX6_readStep 115 = .ok (.iconst 0, 1) := by decide +kernel
theorem dX6_readStep_116 : decode cX6_readStep 116 = .ok (.ireturn, 1) := by decide +kernel
theorem dX6_readStep_117 : decode cX6_readStep 117 = .ok (.iinc 5 1, 3) := by decide +kernel
theorem dX6_readStep_120 : decode cX6_readStep 120 = .ok (.goto (-30), 3) := by decide +kernel
theorem dX6_readStep_123 : decode cX6_readStep 123 = .ok (.iload_n 2, 1) := by decide +kernel
theorem dX6_readStep_124 : decode cX6_readStep 124 = .ok (.bipush 7, 2) := by decide +kernel
theorem dX6_readStep_126 : decode cX6_readStep 126 = .ok (.if_icmp .ne 25, 3) := by decide +kernel
theorem dX6_readStep_129 : decode cX6_readStep 129 = .ok (.aload_n 0, 1) := by decide +kernel
theorem dX6_readStep_130 : decode cX6_readStep 130 = .ok (.getfield 30, 3) := by decide +kernel
theorem dX6_readStep_133 : decode cX6_readStep 133 = .ok (.aload_n 0, 1) := by decide +kernel
theorem dX6_readStep_134 : decode cX6_readStep 134 = .ok (.getfield 50, 3) := by decide +kernel
theorem dX6_readStep_137 : decode cX6_readStep 137 = .ok (.iload_n 3, 1) := by decide +kernel
theorem dX6_readStep_138 : decode cX6_readStep 138 = .ok (.iastore, 1) := by decide +kernel
theorem dX6_readStep_139 : decode cX6_readStep 139 = .ok (.aload_n 0, 1) := by decide +kernel
theorem dX6_readStep_140 : decode cX6_readStep 140 = .ok (.dup, 1) := by decide +kernel
theorem dX6_readStep_141 : decode cX6_readStep 141 = .ok (.getfield 50, 3) := by decide +kernel
theorem dX6_readStep_144 : decode cX6_readStep 144 = .ok (.iconst 1, 1) := by decide +kernel
theorem dX6_readStep_145 : decode cX6_readStep 145 = .ok (.iadd, 1) := by decide +kernel
theorem dX6_readStep_146 : decode cX6_readStep 146 = .ok (.putfield 50, 3) := by decide +kernel
theorem dX6_readStep_149 : decode cX6_readStep 149 = .ok (.iconst 1, 1) := by decide +kernel
theorem dX6_readStep_150 : decode cX6_readStep 150 = .ok (.ireturn, 1) := by decide +kernel
theorem dX6_readStep_151 : decode cX6_readStep 151 = .ok (.aload_n 0, 1) := by decide +kernel
theorem dX6_readStep_152 : decode cX6_readStep 152 = .ok (.bipush 59, 2) := by decide +kernel
theorem dX6_readStep_154 : decode cX6_readStep 154 = .ok (.invokevirtual 77, 3) := by decide +kernel
theorem dX6_readStep_157 : decode cX6_readStep 157 = .ok (.ireturn, 1) := by decide +kernel
theorem dX6_shapeOf_0 : decode cX6_shapeOf 0 = .ok (.iload_n 0, 1) := by decide +kernel
theorem dX6_shapeOf_1 : decode cX6_shapeOf 1 = .ok (.tableswitch 50 3 7 #[35, 38, 41, 44, 47], 35) := by decide +kernel
theorem dX6_shapeOf_36 : decode cX6_shapeOf 36 = .ok (.ldc 99, 2) := by decide +kernel
theorem dX6_shapeOf_38 : decode cX6_shapeOf 38 = .ok (.areturn, 1) := by decide +kernel
theorem dX6_shapeOf_39 : decode cX6_shapeOf 39 = .ok (.ldc 101, 2) := by decide +kernel
theorem dX6_shapeOf_41 : decode cX6_shapeOf 41 = .ok (.areturn, 1) := by decide +kernel
theorem dX6_shapeOf_42 : decode cX6_shapeOf 42 = .ok (.ldc 103, 2) := by decide +kernel
theorem dX6_shapeOf_44 : decode cX6_shapeOf 44 = .ok (.areturn, 1) := by decide +kernel
theorem dX6_shapeOf_45 : decode cX6_shapeOf 45 = .ok (.ldc 105, 2) := by decide +kernel
theorem dX6_shapeOf_47 : decode cX6_shapeOf 47 = .ok (.areturn, 1) := by decide +kernel
theorem dX6_shapeOf_48 : decode cX6_shapeOf 48 = .ok (.ldc 107, 2) := by decide +kernel
theorem dX6_shapeOf_50 : decode cX6_shapeOf 50 = .ok (.areturn, 1) := by decide +kernel
theorem dX6_shapeOf_51 : decode cX6_shapeOf 51 = .ok (.ldc 109, 2) := by decide +kernel
theorem dX6_shapeOf_53 : decode cX6_shapeOf 53 = .ok (.areturn, 1) := by decide +kernel
theorem dX6_readPart_0 : decode cX6_readPart 0 = .ok (.iload_n 1, 1) := by decide +kernel
theorem dX6_readPart_1 : decode cX6_readPart 1 = .ok (.lookupswitch 121 #[(67, 68), (75, 85), (78, 108), (82, 51), (107, 91)], 51) := by decide +kernel
theorem dX6_readPart_52 : decode cX6_readPart 52 = .ok (.aload_n 0, 1) := by decide +kernel
theorem dX6_readPart_53 : decode cX6_readPart 53 = .ok (.aload_n 0, 1) := by decide +kernel
theorem dX6_readPart_54 : decode cX6_readPart 54 = .ok (.getfield 18, 3) := by decide +kernel
theorem dX6_readPart_57 : decode cX6_readPart 57 = .ok (.iload_n 2, 1) := by decide +kernel
theorem dX6_readPart_58 : decode cX6_readPart 58 = .ok (.iconst 0, 1) := by decide +kernel
theorem dX6_readPart_59 : decode cX6_readPart 59 = .ok (.aload_n 0, 1) := by decide +kernel
theorem dX6_readPart_60 : decode cX6_readPart 60 = .ok (.getfield 42, 3) := by decide +kernel
theorem dX6_readPart_63 : decode cX6_readPart 63 = .ok (.iconst 1, 1) := by decide +kernel
theorem dX6_readPart_64 : decode cX6_readPart 64 = .ok (.isub, 1) := by decide +kernel
theorem dX6_readPart_65 : decode cX6_readPart 65 = .ok (.invokevirtual 111, 3) := by decide +kernel
theorem dX6_readPart_68 : decode cX6_readPart 68 = .ok (.ireturn, 1) := by decide +kernel
theorem dX6_readPart_69 : decode cX6_readPart 69 = .ok (.aload_n 0, 1) := by decide +kernel
theorem dX6_readPart_70 : decode cX6_readPart 70 = .ok (.aload_n 0, 1) := by decide +kernel
theorem dX6_readPart_71 : decode cX6_readPart 71 = .ok (.getfield 21, 3) := by decide +kernel
theorem dX6_readPart_74 : decode cX6_readPart 74 = .ok (.iload_n 2, 1) := by decide +kernel
theorem dX6_readPart_75 : decode cX6_readPart 75 = .ok (.iconst 0, 1) := by decide +kernel
theorem dX6_readPart_76 : decode cX6_readPart 76 = .ok (.aload_n 0, 1) := by decide +kernel
theorem dX6_readPart_77 : decode cX6_readPart 77 = .ok (.getfield 42, 3) := by decide +kernel
theorem dX6_readPart_80 : decode cX6_readPart 80 = .ok (.iconst 1, 1) := by decide +kernel
theorem dX6_readPart_81 : decode cX6_readPart 81 = .ok (.isub, 1) := by decide +kernel
theorem dX6_readPart_82 : decode cX6_readPart 82 = .ok (.invokevirtual 111, 3) := by decide +kernel
theorem dX6_readPart_85 : decode cX6_readPart 85 = .ok (.ireturn, 1) := by decide +kernel
theorem dX6_readPart_86 : decode cX6_readPart 86 = .ok (.aload_n 0, 1) := by decide +kernel
theorem dX6_readPart_87 : decode cX6_readPart 87 = .ok (.iload_n 2, 1) := by decide +kernel
theorem dX6_readPart_88 : decode cX6_readPart 88 = .ok (.invokevirtual 115, 3) := by decide +kernel
theorem dX6_readPart_91 : decode cX6_readPart 91 = .ok (.ireturn, 1) := by decide +kernel
theorem dX6_readPart_92 : decode cX6_readPart 92 = .ok (.aload_n 0, 1) := by decide +kernel
theorem dX6_readPart_93 : decode cX6_readPart 93 = .ok (.aload_n 0, 1) := by decide +kernel
theorem dX6_readPart_94 : decode cX6_readPart 94 = .ok (.getfield 21, 3) := by decide +kernel
theorem dX6_readPart_97 : decode cX6_readPart 97 = .ok (.iload_n 2, 1) := by decide +kernel
theorem dX6_readPart_98 : decode cX6_readPart 98 = .ok (.iconst 0, 1) := by decide +kernel
theorem dX6_readPart_99 : decode cX6_readPart 99 = .ok (.aload_n 0, 1) := by decide +kernel
theorem dX6_readPart_100 : decode cX6_readPart 100 = .ok (.getfield 46, 3) := by decide +kernel
theorem dX6_readPart_103 : decode cX6_readPart 103 = .ok (.iconst 1, 1) := by decide +kernel
theorem dX6_readPart_104 : decode cX6_readPart 104 = .ok (.isub, 1) := by decide +kernel
theorem dX6_readPart_105 : decode cX6_readPart 105 = .ok (.invokevirtual 111, 3) := by decide +kernel
theorem dX6_readPart_108 : decode cX6_readPart 108 = .ok (.ireturn, 1) := by decide +kernel
theorem dX6_readPart_109 : decode cX6_readPart 109 = .ok (.aload_n 0, 1) := by decide +kernel
theorem dX6_readPart_110 : decode cX6_readPart 110 = .ok (.aload_n 0, 1) := by decide +kernel
theorem dX6_readPart_111 : decode cX6_readPart 111 = .ok (.getfield 24, 3) := by decide +kernel
theorem dX6_readPart_114 : decode cX6_readPart 114 = .ok (.iload_n 2, 1) := by decide +kernel
theorem dX6_readPart_115 : decode cX6_readPart 115 = .ok (.iconst 1, 1) := by decide +kernel
theorem dX6_readPart_116 : decode cX6_readPart 116 = .ok (.bipush 9, 2) := by decide +kernel
theorem dX6_readPart_118 : decode cX6_readPart 118 = .ok (.invokevirtual 111, 3) := by decide +kernel
theorem dX6_readPart_121 : decode cX6_readPart 121 = .ok (.ireturn, 1) := by decide +kernel
theorem dX6_readPart_122 : decode cX6_readPart 122 = .ok (.aload_n 0, 1) := by decide +kernel
theorem dX6_readPart_123 : decode cX6_readPart 123 = .ok (.iload_n 1, 1) := by decide +kernel
theorem dX6_readPart_124 : decode cX6_readPart 124 = .ok (.invokevirtual 77, 3) := by decide +kernel
theorem dX6_readPart_127 : decode cX6_readPart 127 = .ok (.ireturn, 1) := by decide +kernel
theorem dX6_readKind_0 : decode cX6_readKind 0 = .ok (.aload_n 0, 1) := by decide +kernel
theorem dX6_readKind_1 : decode cX6_readKind 1 = .ok (.invokevirtual 66, 3) := by decide +kernel
theorem dX6_readKind_4 : decode cX6_readKind 4 = .ok (.pop, 1) := by decide +kernel
theorem dX6_readKind_5 : decode cX6_readKind 5 = .ok (.aload_n 0, 1) := by decide +kernel
theorem dX6_readKind_6 : decode cX6_readKind 6 = .ok (.getfield 53, 3) := by decide +kernel
theorem dX6_readKind_9 : decode cX6_readKind 9 = .ok (.istore_n 2, 1) := by decide +kernel
theorem dX6_readKind_10 : decode cX6_readKind 10 = .ok (.aload_n 0, 1) := by decide +kernel
theorem dX6_readKind_11 : decode cX6_readKind 11 = .ok (.invokevirtual 81, 3) := by decide +kernel
theorem dX6_readKind_14 : decode cX6_readKind 14 = .ok (.istore_n 3, 1) := by decide +kernel
theorem dX6_readKind_15 : decode cX6_readKind 15 = .ok (.iload_n 3, 1) := by decide +kernel
theorem dX6_readKind_16 : decode cX6_readKind 16 = .ok (.ifCond .eq 15, 3) := by decide +kernel
theorem dX6_readKind_19 : decode cX6_readKind 19 = .ok (.iload_n 3, 1) := by decide +kernel
theorem dX6_readKind_20 : decode cX6_readKind 20 = .ok (.iconst 1, 1) := by decide +kernel
theorem dX6_readKind_21 : decode cX6_readKind 21 = .ok (.if_icmp .eq 10, 3) := by decide +kernel
theorem dX6_readKind_24 : decode cX6_readKind 24 = .ok (.aload_n 0, 1) := by decide +kernel
theorem dX6_readKind_25 : decode cX6_readKind 25 = .ok (.iconst 1, 1) := by decide +kernel
theorem dX6_readKind_26 : decode cX6_readKind 26 = .ok (.iload_n 2, 1) := by decide +kernel
theorem dX6_readKind_27 : decode cX6_readKind 27 = .ok (.invokevirtual 62, 3) := by decide +kernel
theorem dX6_readKind_30 : decode cX6_readKind 30 = .ok (.ireturn, 1) := by decide +kernel
theorem dX6_readKind_31 : decode cX6_readKind 31 = .ok (.aload_n 0, 1) := by decide +kernel
theorem dX6_readKind_32 : decode cX6_readKind 32 = .ok (.getfield 18, 3) := by decide +kernel
theorem dX6_readKind_35 : decode cX6_readKind 35 = .ok (.iload_n 1, 1) := by decide +kernel
theorem dX6_readKind_36 : decode cX6_readKind 36 = .ok (.iload_n 3, 1) := by decide +kernel
theorem dX6_readKind_37 : decode cX6_readKind 37 = .ok (.iastore, 1) := by decide +kernel
theorem dX6_readKind_38 : decode cX6_readKind 38 = .ok (.iconst 1, 1) := by decide +kernel
theorem dX6_readKind_39 : decode cX6_readKind 39 = .ok (.ireturn, 1) := by decide +kernel
theorem dX6_signAhead_0 : decode cX6_signAhead 0 = .ok (.aload_n 0, 1) := by decide +kernel
theorem dX6_signAhead_1 : decode cX6_signAhead 1 = .ok (.getfield 53, 3) := by decide +kernel
theorem dX6_signAhead_4 : decode cX6_signAhead 4 = .ok (.aload_n 0, 1) := by decide +kernel
theorem dX6_signAhead_5 : decode cX6_signAhead 5 = .ok (.getfield 33, 3) := by decide +kernel
theorem dX6_signAhead_8 : decode cX6_signAhead 8 = .ok (.if_icmp .ge 30, 3) := by decide +kernel
theorem dX6_signAhead_11 : decode cX6_signAhead 11 = .ok (.aload_n 0, 1) := by decide +kernel
theorem dX6_signAhead_12 : decode cX6_signAhead 12 = .ok (.getfield 9, 3) := by decide +kernel
theorem dX6_signAhead_15 : decode cX6_signAhead 15 = .ok (.aload_n 0, 1) := by decide +kernel
theorem dX6_signAhead_16 : decode cX6_signAhead 16 = .ok (.getfield 53, 3) := by decide +kernel
theorem dX6_signAhead_19 : decode cX6_signAhead 19 = .ok (.iaload, 1) := by decide +kernel
theorem dX6_signAhead_20 : decode cX6_signAhead 20 = .ok (.bipush 32, 2) := by decide +kernel
theorem dX6_signAhead_22 : decode cX6_signAhead 22 = .ok (.if_icmp .ne 16, 3) := by decide +kernel
theorem dX6_signAhead_25 : decode cX6_signAhead 25 = .ok (.aload_n 0, 1) := by decide +kernel
theorem dX6_signAhead_26 : decode cX6_signAhead 26 = .ok (.dup, 1) := by decide +kernel
theorem dX6_signAhead_27 : decode cX6_signAhead 27 = .ok (.getfield 53, 3) := by decide +kernel
theorem dX6_signAhead_30 : decode cX6_signAhead 30 = .ok (.iconst 1, 1) := by decide +kernel
theorem dX6_signAhead_31 : decode cX6_signAhead 31 = .ok (.iadd, 1) := by decide +kernel
theorem dX6_signAhead_32 : decode cX6_signAhead 32 = .ok (.putfield 53, 3) := by decide +kernel
theorem dX6_signAhead_35 : decode cX6_signAhead 35 = .ok (.goto (-35), 3) := by decide +kernel
theorem dX6_signAhead_38 : decode cX6_signAhead 38 = .ok (.aload_n 0, 1) := by decide +kernel
theorem dX6_signAhead_39 : decode cX6_signAhead 39 = .ok (.getfield 53, 3) := by decide +kernel
theorem dX6_signAhead_42 : decode cX6_signAhead 42 = .ok (.aload_n 0, 1) := by decide +kernel
theorem dX6_signAhead_43 : decode cX6_signAhead 43 = .ok (.getfield 33, 3) := by decide +kernel
theorem dX6_signAhead_46 : decode cX6_signAhead 46 = .ok (.if_icmp .ge 15, 3) := by decide +kernel
theorem dX6_signAhead_49 : decode cX6_signAhead 49 = .ok (.aload_n 0, 1) := by decide +kernel
theorem dX6_signAhead_50 : decode cX6_signAhead 50 = .ok (.getfield 9, 3) := by decide +kernel
theorem dX6_signAhead_53 : decode cX6_signAhead 53 = .ok (.aload_n 0, 1) := by decide +kernel
theorem dX6_signAhead_54 : decode cX6_signAhead 54 = .ok (.getfield 53, 3) := by decide +kernel
theorem dX6_signAhead_57 : decode cX6_signAhead 57 = .ok (.iaload, 1) := by decide +kernel
theorem dX6_signAhead_58 : decode cX6_signAhead 58 = .ok (.goto 4, 3) := by decide +kernel
theorem dX6_signAhead_61 : decode cX6_signAhead 61 = .ok (.iconst (-1), 1) := by decide +kernel
theorem dX6_signAhead_62 : decode cX6_signAhead 62 = .ok (.ireturn, 1) := by decide +kernel
theorem dX6_readSign_0 : decode cX6_readSign 0 = .ok (.aload_n 0, 1) := by decide +kernel
theorem dX6_readSign_1 : decode cX6_readSign 1 = .ok (.invokevirtual 66, 3) := by decide +kernel
theorem dX6_readSign_4 : decode cX6_readSign 4 = .ok (.iload_n 1, 1) := by decide +kernel
theorem dX6_readSign_5 : decode cX6_readSign 5 = .ok (.if_icmp .eq 13, 3) := by decide +kernel
theorem dX6_readSign_8 : decode cX6_readSign 8 = .ok (.aload_n 0, 1) := by decide +kernel
theorem dX6_readSign_9 : decode cX6_readSign 9 = .ok (.iconst 1, 1) := by decide +kernel
theorem dX6_readSign_10 : decode cX6_readSign 10 = .ok (.aload_n 0, 1) := by decide +kernel
theorem dX6_readSign_11 : decode cX6_readSign 11 = .ok (.getfield 53, 3) := by decide +kernel
theorem dX6_readSign_14 : decode cX6_readSign 14 = .ok (.invokevirtual 62, 3) := by decide +kernel
theorem dX6_readSign_17 : decode cX6_readSign 17 = .ok (.ireturn, 1) := by decide +kernel
theorem dX6_readSign_18 : decode cX6_readSign 18 = .ok (.aload_n 0, 1) := by decide +kernel
theorem dX6_readSign_19 : decode cX6_readSign 19 = .ok (.dup, 1) := by decide +kernel
theorem dX6_readSign_20 : decode cX6_readSign 20 = .ok (.getfield 53, 3) := by decide +kernel
theorem dX6_readSign_23 : decode cX6_readSign 23 = .ok (.iconst 1, 1) := by decide +kernel
theorem dX6_readSign_24 : decode cX6_readSign 24 = .ok (.iadd, 1) := by decide +kernel
theorem dX6_readSign_25 : decode cX6_readSign 25 = .ok (.putfield 53, 3) := by decide +kernel
theorem dX6_readSign_28 : decode cX6_readSign 28 = .ok (.iconst 1, 1) := by decide +kernel
theorem dX6_readSign_29 : decode cX6_readSign 29 = .ok (.ireturn, 1) := by decide +kernel
theorem dX6_readNumber_0 : decode cX6_readNumber 0 = .ok (.aload_n 0, 1) := by decide +kernel
theorem dX6_readNumber_1 : decode cX6_readNumber 1 = .ok (.invokevirtual 66, 3) := by decide +kernel
theorem dX6_readNumber_4 : decode cX6_readNumber 4 = .ok (.pop, 1) := by decide +kernel
theorem dX6_readNumber_5 : decode cX6_readNumber 5 = .ok (.aload_n 0, 1) := by decide +kernel
theorem dX6_readNumber_6 : decode cX6_readNumber 6 = .ok (.getfield 53, 3) := by decide +kernel
theorem dX6_readNumber_9 : decode cX6_readNumber 9 = .ok (.istore 5, 2) := by decide +kernel
theorem dX6_readNumber_11 : decode cX6_readNumber 11 = .ok (.iconst 0, 1) := by decide +kernel
theorem dX6_readNumber_12 : decode cX6_readNumber 12 = .ok (.istore 6, 2) := by decide +kernel
theorem dX6_readNumber_14 : decode cX6_readNumber 14 = .ok (.aload_n 0, 1) := by decide +kernel
theorem dX6_readNumber_15 : decode cX6_readNumber 15 = .ok (.getfield 53, 3) := by decide +kernel
theorem dX6_readNumber_18 : decode cX6_readNumber 18 = .ok (.aload_n 0, 1) := by decide +kernel
theorem dX6_readNumber_19 : decode cX6_readNumber 19 = .ok (.getfield 33, 3) := by decide +kernel
theorem dX6_readNumber_22 : decode cX6_readNumber 22 = .ok (.if_icmp .ge 70, 3) := by decide +kernel
theorem dX6_readNumber_25 : decode cX6_readNumber 25 = .ok (.aload_n 0, 1) := by decide +kernel
theorem dX6_readNumber_26 : decode cX6_readNumber 26 = .ok (.getfield 9, 3) := by decide +kernel
theorem dX6_readNumber_29 : decode cX6_readNumber 29 = .ok (.aload_n 0, 1) := by decide +kernel
theorem dX6_readNumber_30 : decode cX6_readNumber 30 = .ok (.getfield 53, 3) := by decide +kernel
theorem dX6_readNumber_33 : decode cX6_readNumber 33 = .ok (.iaload, 1) := by decide +kernel
theorem dX6_readNumber_34 : decode cX6_readNumber 34 = .ok (.bipush 48, 2) := by decide +kernel
theorem dX6_readNumber_36 : decode cX6_readNumber 36 = .ok (.if_icmp .lt 56, 3) := by decide +kernel
theorem dX6_readNumber_39 : decode cX6_readNumber 39 = .ok (.aload_n 0, 1) := by decide +kernel
theorem dX6_readNumber_40 : decode cX6_readNumber 40 = .ok (.getfield 9, 3) := by decide +kernel
theorem dX6_readNumber_43 : decode cX6_readNumber 43 = .ok (.aload_n 0, 1) := by decide +kernel
theorem dX6_readNumber_44 : decode cX6_readNumber 44 = .ok (.getfield 53, 3) := by decide +kernel
theorem dX6_readNumber_47 : decode cX6_readNumber 47 = .ok (.iaload, 1) := by decide +kernel
theorem dX6_readNumber_48 : decode cX6_readNumber 48 = .ok (.bipush 57, 2) := by decide +kernel
theorem dX6_readNumber_50 : decode cX6_readNumber 50 = .ok (.if_icmp .gt 42, 3) := by decide +kernel
theorem dX6_readNumber_53 : decode cX6_readNumber 53 = .ok (.sipush 1000, 3) := by decide +kernel
theorem dX6_readNumber_56 : decode cX6_readNumber 56 = .ok (.iload 6, 2) := by decide +kernel
theorem dX6_readNumber_58 : decode cX6_readNumber 58 = .ok (.bipush 10, 2) := by decide +kernel
theorem dX6_readNumber_60 : decode cX6_readNumber 60 = .ok (.imul, 1) := by decide +kernel
theorem dX6_readNumber_61 : decode cX6_readNumber 61 = .ok (.aload_n 0, 1) := by decide +kernel
theorem dX6_readNumber_62 : decode cX6_readNumber 62 = .ok (.getfield 9, 3) := by decide +kernel
theorem dX6_readNumber_65 : decode cX6_readNumber 65 = .ok (.aload_n 0, 1) := by decide +kernel
theorem dX6_readNumber_66 : decode cX6_readNumber 66 = .ok (.getfield 53, 3) := by decide +kernel
theorem dX6_readNumber_69 : decode cX6_readNumber 69 = .ok (.iaload, 1) := by decide +kernel
theorem dX6_readNumber_70 : decode cX6_readNumber 70 = .ok (.iadd, 1) := by decide +kernel
theorem dX6_readNumber_71 : decode cX6_readNumber 71 = .ok (.bipush 48, 2) := by decide +kernel
theorem dX6_readNumber_73 : decode cX6_readNumber 73 = .ok (.isub, 1) := by decide +kernel
theorem dX6_readNumber_74 : decode cX6_readNumber 74 = .ok (.invokestatic 118, 3) := by decide +kernel
theorem dX6_readNumber_77 : decode cX6_readNumber 77 = .ok (.istore 6, 2) := by decide +kernel
theorem dX6_readNumber_79 : decode cX6_readNumber 79 = .ok (.aload_n 0, 1) := by decide +kernel
theorem dX6_readNumber_80 : decode cX6_readNumber 80 = .ok (.dup, 1) := by decide +kernel
theorem dX6_readNumber_81 : decode cX6_readNumber 81 = .ok (.getfield 53, 3) := by decide +kernel
theorem dX6_readNumber_84 : decode cX6_readNumber 84 = .ok (.iconst 1, 1) := by decide +kernel
theorem dX6_readNumber_85 : decode cX6_readNumber 85 = .ok (.iadd, 1) := by decide +kernel
theorem dX6_readNumber_86 : decode cX6_readNumber 86 = .ok (.putfield 53, 3) := by decide +kernel
theorem dX6_readNumber_89 : decode cX6_readNumber 89 = .ok (.goto (-75), 3) := by decide +kernel
theorem dX6_readNumber_92 : decode cX6_readNumber 92 = .ok (.aload_n 0, 1) := by decide +kernel
theorem dX6_readNumber_93 : decode cX6_readNumber 93 = .ok (.getfield 53, 3) := by decide +kernel
theorem dX6_readNumber_96 : decode cX6_readNumber 96 = .ok (.iload 5, 2) := by decide +kernel
theorem dX6_readNumber_98 : decode cX6_readNumber 98 = .ok (.if_icmp .ne 11, 3) := by decide +kernel
theorem dX6_readNumber_101 : decode cX6_readNumber 101 = .ok (.aload_n 0, 1) := by decide +kernel
theorem dX6_readNumber_102 : decode cX6_readNumber 102 = .ok (.iconst 1, 1) := by decide +kernel
theorem dX6_readNumber_103 : decode cX6_readNumber 103 = .ok (.iload 5, 2) := by decide +kernel
theorem dX6_readNumber_105 : decode cX6_readNumber 105 = .ok (.invokevirtual 62, 3) := by decide +kernel
theorem dX6_readNumber_108 : decode cX6_readNumber 108 = .ok (.ireturn, 1) := by decide +kernel
theorem dX6_readNumber_109 : decode cX6_readNumber 109 = .ok (.iload 6, 2) := by decide +kernel
theorem dX6_readNumber_111 : decode cX6_readNumber 111 = .ok (.iload_n 3, 1) := by decide +kernel
theorem dX6_readNumber_112 : decode cX6_readNumber 112 = .ok (.if_icmp .lt 10, 3) := by decide +kernel
theorem dX6_readNumber_115 : decode cX6_readNumber 115 = .ok (.iload 6, 2) := by decide +kernel
theorem dX6_readNumber_117 : decode cX6_readNumber 117 = .ok (.iload 4, 2) := by decide +kernel
theorem dX6_readNumber_119 : decode cX6_readNumber 119 = .ok (.if_icmp .le 11, 3) := by decide +kernel
theorem dX6_readNumber_122 : decode cX6_readNumber 122 = .ok (.aload_n 0, 1) := by decide +kernel
theorem dX6_readNumber_123 : decode cX6_readNumber 123 = .ok (.iconst 2, 1) := by decide +kernel
theorem dX6_readNumber_124 : decode cX6_readNumber 124 = .ok (.iload 5, 2) := by decide +kernel
theorem dX6_readNumber_126 : decode cX6_readNumber 126 = .ok (.invokevirtual 62, 3) := by decide +kernel
theorem dX6_readNumber_129 : decode cX6_readNumber 129 = .ok (.ireturn, 1) := by decide +kernel
theorem dX6_readNumber_130 : decode cX6_readNumber 130 = .ok (.aload_n 1, 1) := by decide +kernel
theorem dX6_readNumber_131 : decode cX6_readNumber 131 = .ok (.iload_n 2, 1) := by decide +kernel
theorem dX6_readNumber_132 : decode cX6_readNumber 132 = .ok (.iload 6, 2) := by decide +kernel
theorem dX6_readNumber_134 : decode cX6_readNumber 134 = .ok (.iastore, 1) := by decide +kernel
theorem dX6_readNumber_135 : decode cX6_readNumber 135 = .ok (.iconst 1, 1) := by decide +kernel
theorem dX6_readNumber_136 : decode cX6_readNumber 136 = .ok (.ireturn, 1) := by decide +kernel
theorem dX6_readWord_0 : decode cX6_readWord 0 = .ok (.aload_n 0, 1) := by decide +kernel
theorem dX6_readWord_1 : decode cX6_readWord 1 = .ok (.getfield 53, 3) := by decide +kernel
theorem dX6_readWord_4 : decode cX6_readWord 4 = .ok (.istore_n 1, 1) := by decide +kernel
theorem dX6_readWord_5 : decode cX6_readWord 5 = .ok (.aload_n 0, 1) := by decide +kernel
theorem dX6_readWord_6 : decode cX6_readWord 6 = .ok (.getfield 53, 3) := by decide +kernel
theorem dX6_readWord_9 : decode cX6_readWord 9 = .ok (.aload_n 0, 1) := by decide +kernel
theorem dX6_readWord_10 : decode cX6_readWord 10 = .ok (.getfield 33, 3) := by decide +kernel
theorem dX6_readWord_13 : decode cX6_readWord 13 = .ok (.if_icmp .ge 44, 3) := by decide +kernel
theorem dX6_readWord_16 : decode cX6_readWord 16 = .ok (.aload_n 0, 1) := by decide +kernel
theorem dX6_readWord_17 : decode cX6_readWord 17 = .ok (.getfield 9, 3) := by decide +kernel
theorem dX6_readWord_20 : decode cX6_readWord 20 = .ok (.aload_n 0, 1) := by decide +kernel
theorem dX6_readWord_21 : decode cX6_readWord 21 = .ok (.getfield 53, 3) := by decide +kernel
theorem dX6_readWord_24 : decode cX6_readWord 24 = .ok (.iaload, 1) := by decide +kernel
theorem dX6_readWord_25 : decode cX6_readWord 25 = .ok (.bipush 97, 2) := by decide +kernel
theorem dX6_readWord_27 : decode cX6_readWord 27 = .ok (.if_icmp .lt 30, 3) := by decide +kernel
theorem dX6_readWord_30 : decode cX6_readWord 30 = .ok (.aload_n 0, 1) := by decide +kernel
theorem dX6_readWord_31 : decode cX6_readWord 31 = .ok (.getfield 9, 3) := by decide +kernel
theorem dX6_readWord_34 : decode cX6_readWord 34 = .ok (.aload_n 0, 1) := by decide +kernel
theorem dX6_readWord_35 : decode cX6_readWord 35 = .ok (.getfield 53, 3) := by decide +kernel
theorem dX6_readWord_38 : decode cX6_readWord 38 = .ok (.iaload, 1) := by decide +kernel
theorem dX6_readWord_39 : decode cX6_readWord 39 = .ok (.bipush 122, 2) := by decide +kernel
theorem dX6_readWord_41 : decode cX6_readWord 41 = .ok (.if_icmp .gt 16, 3) := by decide +kernel
theorem dX6_readWord_44 : decode cX6_readWord 44 = .ok (.aload_n 0, 1) := by decide +kernel
theorem dX6_readWord_45 : decode cX6_readWord 45 = .ok (.dup, 1) := by decide +kernel
theorem dX6_readWord_46 : decode cX6_readWord 46 = .ok (.getfield 53, 3) := by decide +kernel
theorem dX6_readWord_49 : decode cX6_readWord 49 = .ok (.iconst 1, 1) := by decide +kernel
theorem dX6_readWord_50 : decode cX6_readWord 50 = .ok (.iadd, 1) := by decide +kernel
theorem dX6_readWord_51 : decode cX6_readWord 51 = .ok (.putfield 53, 3) := by decide +kernel
theorem dX6_readWord_54 : decode cX6_readWord 54 = .ok (.goto (-49), 3) := by decide +kernel
theorem dX6_readWord_57 : decode cX6_readWord 57 = .ok (.aload_n 0, 1) := by decide +kernel
theorem dX6_readWord_58 : decode cX6_readWord 58 = .ok (.ldc 124, 2) := by decide +kernel
theorem dX6_readWord_60 : decode cX6_readWord 60 = .ok (.iload_n 1, 1) := by decide +kernel
theorem dX6_readWord_61 : decode cX6_readWord 61 = .ok (.invokevirtual 126, 3) := by decide +kernel
theorem dX6_readWord_64 : decode cX6_readWord 64 = .ok (.ifCond .eq 5, 3) := by decide +kernel
theorem dX6_readWord_67 : decode cX6_readWord 67 = .ok (.iconst 0, 1) := by decide +kernel
theorem dX6_readWord_68 : decode cX6_readWord 68 = .ok (.ireturn, 1) := by decide +kernel
theorem dX6_readWord_69 : decode cX6_readWord 69 = .ok (.aload_n 0, 1) := by decide +kernel
theorem dX6_readWord_70 : decode cX6_readWord 70 = .ok (.ldc 130, 2) := by decide +kernel
theorem dX6_readWord_72 : decode cX6_readWord 72 = .ok (.iload_n 1, 1) := by decide +kernel
theorem dX6_readWord_73 : decode cX6_readWord 73 = .ok (.invokevirtual 126, 3) := by decide +kernel
theorem dX6_readWord_76 : decode cX6_readWord 76 = .ok (.ifCond .eq 5, 3) := by decide +kernel
theorem dX6_readWord_79 : decode cX6_readWord 79 = .ok (.iconst 1, 1) := by decide +kernel
theorem dX6_readWord_80 : decode cX6_readWord 80 = .ok (.ireturn, 1) := by decide +kernel
theorem dX6_readWord_81 : decode cX6_readWord 81 = .ok (.aload_n 0, 1) := by decide +kernel
theorem dX6_readWord_82 : decode cX6_readWord 82 = .ok (.ldc 132, 2) := by decide +kernel
theorem dX6_readWord_84 : decode cX6_readWord 84 = .ok (.iload_n 1, 1) := by decide +kernel
theorem dX6_readWord_85 : decode cX6_readWord 85 = .ok (.invokevirtual 126, 3) := by decide +kernel
theorem dX6_readWord_88 : decode cX6_readWord 88 = .ok (.ifCond .eq 5, 3) := by decide +kernel
theorem dX6_readWord_91 : decode cX6_readWord 91 = .ok (.iconst 2, 1) := by decide +kernel
theorem dX6_readWord_92 : decode cX6_readWord 92 = .ok (.ireturn, 1) := by decide +kernel
theorem dX6_readWord_93 : decode cX6_readWord 93 = .ok (.aload_n 0, 1) := by decide +kernel
theorem dX6_readWord_94 : decode cX6_readWord 94 = .ok (.ldc 134, 2) := by decide +kernel
theorem dX6_readWord_96 : decode cX6_readWord 96 = .ok (.iload_n 1, 1) := by decide +kernel
theorem dX6_readWord_97 : decode cX6_readWord 97 = .ok (.invokevirtual 126, 3) := by decide +kernel
theorem dX6_readWord_100 : decode cX6_readWord 100 = .ok (.ifCond .eq 5, 3) := by decide +kernel
theorem dX6_readWord_103 : decode cX6_readWord 103 = .ok (.iconst 3, 1) := by decide +kernel
theorem dX6_readWord_104 : decode cX6_readWord 104 = .ok (.ireturn, 1) := by decide +kernel
theorem dX6_readWord_105 : decode cX6_readWord 105 = .ok (.aload_n 0, 1) := by decide +kernel
theorem dX6_readWord_106 : decode cX6_readWord 106 = .ok (.ldc 136, 2) := by decide +kernel
theorem dX6_readWord_108 : decode cX6_readWord 108 = .ok (.iload_n 1, 1) := by decide +kernel
theorem dX6_readWord_109 : decode cX6_readWord 109 = .ok (.invokevirtual 126, 3) := by decide +kernel
theorem dX6_readWord_112 : decode cX6_readWord 112 = .ok (.ifCond .eq 5, 3) := by decide +kernel
theorem dX6_readWord_115 : decode cX6_readWord 115 = .ok (.iconst 4, 1) := by decide +kernel
theorem dX6_readWord_116 : decode cX6_readWord 116 = .ok (.ireturn, 1) := by decide +kernel
theorem dX6_readWord_117 : decode cX6_readWord 117 = .ok (.aload_n 0, 1) := by decide +kernel
theorem dX6_readWord_118 : decode cX6_readWord 118 = .ok (.ldc 138, 2) := by decide +kernel
theorem dX6_readWord_120 : decode cX6_readWord 120 = .ok (.iload_n 1, 1) := by decide +kernel
theorem dX6_readWord_121 : decode cX6_readWord 121 = .ok (.invokevirtual 126, 3) := by decide +kernel
theorem dX6_readWord_124 : decode cX6_readWord 124 = .ok (.ifCond .eq 5, 3) := by decide +kernel
theorem dX6_readWord_127 : decode cX6_readWord 127 = .ok (.iconst 5, 1) := by decide +kernel
theorem dX6_readWord_128 : decode cX6_readWord 128 = .ok (.ireturn, 1) := by decide +kernel
theorem dX6_readWord_129 : decode cX6_readWord 129 = .ok (.aload_n 0, 1) := by decide +kernel
theorem dX6_readWord_130 : decode cX6_readWord 130 = .ok (.ldc 140, 2) := by decide +kernel
theorem dX6_readWord_132 : decode cX6_readWord 132 = .ok (.iload_n 1, 1) := by decide +kernel
theorem dX6_readWord_133 : decode cX6_readWord 133 = .ok (.invokevirtual 126, 3) := by decide +kernel
theorem dX6_readWord_136 : decode cX6_readWord 136 = .ok (.ifCond .eq 6, 3) := by decide +kernel
theorem dX6_readWord_139 : decode cX6_readWord 139 = .ok (.bipush 6, 2) := by decide +kernel
theorem dX6_readWord_141 : decode cX6_readWord 141 = .ok (.ireturn, 1) := by decide +kernel
theorem dX6_readWord_142 : decode cX6_readWord 142 = .ok (.aload_n 0, 1) := by decide +kernel
theorem dX6_readWord_143 : decode cX6_readWord 143 = .ok (.ldc 142, 2) := by decide +kernel
theorem dX6_readWord_145 : decode cX6_readWord 145 = .ok (.iload_n 1, 1) := by decide +kernel
theorem dX6_readWord_146 : decode cX6_readWord 146 = .ok (.invokevirtual 126, 3) := by decide +kernel
theorem dX6_readWord_149 : decode cX6_readWord 149 = .ok (.ifCond .eq 8, 3) := by decide +kernel
theorem dX6_readWord_152 : decode cX6_readWord 152 = .ok (.bipush 7, 2) := by decide +kernel
theorem dX6_readWord_154 : decode cX6_readWord 154 = .ok (.goto 4, 3) := by decide +kernel
theorem dX6_readWord_157 : decode cX6_readWord 157 = .ok (.iconst (-1), 1) := by decide +kernel
theorem dX6_readWord_158 : decode cX6_readWord 158 = .ok (.ireturn, 1) := by decide +kernel
theorem dX6_spells_0 : decode cX6_spells 0 = .ok (.aload_n 0, 1) := by decide +kernel
theorem dX6_spells_1 : decode cX6_spells 1 = .ok (.getfield 53, 3) := by decide +kernel
theorem dX6_spells_4 : decode cX6_spells 4 = .ok (.iload_n 2, 1) := by decide +kernel
theorem dX6_spells_5 : decode cX6_spells 5 = .ok (.isub, 1) := by decide +kernel
theorem dX6_spells_6 : decode cX6_spells 6 = .ok (.aload_n 1, 1) := by decide +kernel
theorem dX6_spells_7 : decode cX6_spells 7 = .ok (.invokevirtual 88, 3) := by decide +kernel
theorem dX6_spells_10 : decode cX6_spells 10 = .ok (.if_icmp .eq 5, 3) := by decide +kernel
theorem dX6_spells_13 : decode cX6_spells 13 = .ok (.iconst 0, 1) := by decide +kernel
theorem dX6_spells_14 : decode cX6_spells 14 = .ok (.ireturn, 1) := by decide +kernel
theorem dX6_spells_15 : decode cX6_spells 15 = .ok (.iconst 0, 1) := by decide +kernel
theorem dX6_spells_16 : decode cX6_spells 16 = .ok (.istore_n 3, 1) := by decide +kernel
theorem dX6_spells_17 : decode cX6_spells 17 = .ok (.iload_n 3, 1) := by decide +kernel
theorem dX6_spells_18 : decode cX6_spells 18 = .ok (.aload_n 1, 1) := by decide +kernel
theorem dX6_spells_19 : decode cX6_spells 19 = .ok (.invokevirtual 88, 3) := by decide +kernel
theorem dX6_spells_22 : decode cX6_spells 22 = .ok (.if_icmp .ge 27, 3) := by decide +kernel
theorem dX6_spells_25 : decode cX6_spells 25 = .ok (.aload_n 0, 1) := by decide +kernel
theorem dX6_spells_26 : decode cX6_spells 26 = .ok (.getfield 9, 3) := by decide +kernel
theorem dX6_spells_29 : decode cX6_spells 29 = .ok (.iload_n 2, 1) := by decide +kernel
theorem dX6_spells_30 : decode cX6_spells 30 = .ok (.iload_n 3, 1) := by decide +kernel
theorem dX6_spells_31 : decode cX6_spells 31 = .ok (.iadd, 1) := by decide +kernel
theorem dX6_spells_32 : decode cX6_spells 32 = .ok (.iaload, 1) := by decide +kernel
theorem dX6_spells_33 : decode cX6_spells 33 = .ok (.aload_n 1, 1) := by decide +kernel
theorem dX6_spells_34 : decode cX6_spells 34 = .ok (.iload_n 3, 1) := by decide +kernel
theorem dX6_spells_35 : decode cX6_spells 35 = .ok (.invokevirtual 92, 3) := by decide +kernel
theorem dX6_spells_38 : decode cX6_spells 38 = .ok (.if_icmp .eq 5, 3) := by decide +kernel
theorem dX6_spells_41 : decode cX6_spells 41 = .ok (.iconst 0, 1) := by decide +kernel
theorem dX6_spells_42 : decode cX6_spells 42 = .ok (.ireturn, 1) := by decide +kernel
theorem dX6_spells_43 : decode cX6_spells 43 = .ok (.iinc 3 1, 3) := by decide +kernel
theorem dX6_spells_46 : decode cX6_spells 46 = .ok (.goto (-29), 3) := by decide +kernel
theorem dX6_spells_49 : decode cX6_spells 49 = .ok (.iconst 1, 1) := by decide +kernel
theorem dX6_spells_50 : decode cX6_spells 50 = .ok (.ireturn, 1) := by decide +kernel
theorem dX6_doneOn_0 : decode cX6_doneOn 0 = .ok (.aload_n 0, 1) := by decide +kernel
theorem dX6_doneOn_1 : decode cX6_doneOn 1 = .ok (.iconst 0, 1) := by decide +kernel
theorem dX6_doneOn_2 : decode cX6_doneOn 2 = .ok (.putfield 144, 3) := by decide +kernel
theorem dX6_doneOn_5 : decode cX6_doneOn 5 = .ok (.aload_n 0, 1) := by decide +kernel
theorem dX6_doneOn_6 : decode cX6_doneOn 6 = .ok (.iconst 0, 1) := by decide +kernel
theorem dX6_doneOn_7 : decode cX6_doneOn 7 = .ok (.putfield 147, 3) := by decide +kernel
theorem dX6_doneOn_10 : decode cX6_doneOn 10 = .ok (.aload_n 0, 1) := by decide +kernel
theorem dX6_doneOn_11 : decode cX6_doneOn 11 = .ok (.aload_n 1, 1) := by decide +kernel
theorem dX6_doneOn_12 : decode cX6_doneOn 12 = .ok (.iconst 0, 1) := by decide +kernel
theorem dX6_doneOn_13 : decode cX6_doneOn 13 = .ok (.aload_n 0, 1) := by decide +kernel
theorem dX6_doneOn_14 : decode cX6_doneOn 14 = .ok (.getfield 47, 3) := by decide +kernel
theorem dX6_doneOn_17 : decode cX6_doneOn 17 = .ok (.iconst 0, 1) := by decide +kernel
theorem dX6_doneOn_18 : decode cX6_doneOn 18 = .ok (.invokevirtual 150, 3) := by decide +kernel
theorem dX6_doneOn_21 : decode cX6_doneOn 21 = .ok (.aload_n 0, 1) := by decide +kernel
theorem dX6_doneOn_22 : decode cX6_doneOn 22 = .ok (.getfield 147, 3) := by decide +kernel
theorem dX6_doneOn_25 : decode cX6_doneOn 25 = .ok (.ireturn, 1) := by decide +kernel
theorem dX6_doSteps_0 : decode cX6_doSteps 0 = .ok (.iload 4, 2) := by decide +kernel
theorem dX6_doSteps_2 : decode cX6_doSteps 2 = .ok (.iconst 2, 1) := by decide +kernel
theorem dX6_doSteps_3 : decode cX6_doSteps 3 = .ok (.if_icmp .le 4, 3) := by decide +kernel
theorem dX6_doSteps_6 : decode cX6_doSteps 6 = .ok (.return_, 1) := by decide +kernel
theorem dX6_doSteps_7 : decode cX6_doSteps 7 = .ok (.iload_n 2, 1) := by decide +kernel
theorem dX6_doSteps_8 : decode cX6_doSteps 8 = .ok (.istore 5, 2) := by decide +kernel
theorem dX6_doSteps_10 : decode cX6_doSteps 10 = .ok (.iconst 0, 1) := by decide +kernel
theorem dX6_doSteps_11 : decode cX6_doSteps 11 = .ok (.istore 6, 2) := by decide +kernel
theorem dX6_doSteps_13 : decode cX6_doSteps 13 = .ok (.iload 6, 2) := by decide +kernel
theorem dX6_doSteps_15 : decode cX6_doSteps 15 = .ok (.bipush 30, 2) := by decide +kernel
theorem dX6_doSteps_17 : decode cX6_doSteps 17 = .ok (.if_icmp .ge 90, 3) := by decide +kernel
theorem dX6_doSteps_20 : decode cX6_doSteps 20 = .ok (.iload 5, 2) := by decide +kernel
theorem dX6_doSteps_22 : decode cX6_doSteps 22 = .ok (.iload_n 3, 1) := by decide +kernel
theorem dX6_doSteps_23 : decode cX6_doSteps 23 = .ok (.if_icmp .ge 84, 3) := by decide +kernel
theorem dX6_doSteps_26 : decode cX6_doSteps 26 = .ok (.aload_n 0, 1) := by decide +kernel
theorem dX6_doSteps_27 : decode cX6_doSteps 27 = .ok (.getfield 15, 3) := by decide +kernel
theorem dX6_doSteps_30 : decode cX6_doSteps 30 = .ok (.iload 5, 2) := by decide +kernel
theorem dX6_doSteps_32 : decode cX6_doSteps 32 = .ok (.iaload, 1) := by decide +kernel
theorem dX6_doSteps_33 : decode cX6_doSteps 33 = .ok (.bipush 7, 2) := by decide +kernel
theorem dX6_doSteps_35 : decode cX6_doSteps 35 = .ok (.if_icmp .ne 56, 3) := by decide +kernel
theorem dX6_doSteps_38 : decode cX6_doSteps 38 = .ok (.iconst 0, 1) := by decide +kernel
theorem dX6_doSteps_39 : decode cX6_doSteps 39 = .ok (.istore 7, 2) := by decide +kernel
theorem dX6_doSteps_41 : decode cX6_doSteps 41 = .ok (.iload 7, 2) := by decide +kernel
theorem dX6_doSteps_43 : decode cX6_doSteps 43 = .ok (.aload_n 0, 1) := by decide +kernel
theorem dX6_doSteps_44 : decode cX6_doSteps 44 = .ok (.getfield 24, 3) := by decide +kernel
theorem dX6_doSteps_47 : decode cX6_doSteps 47 = .ok (.iload 5, 2) := by decide +kernel
theorem dX6_doSteps_49 : decode cX6_doSteps 49 = .ok (.iaload, 1) := by decide +kernel
theorem dX6_doSteps_50 : decode cX6_doSteps 50 = .ok (.if_icmp .ge 29, 3) := by decide +kernel
theorem dX6_doSteps_53 : decode cX6_doSteps 53 = .ok (.aload_n 0, 1) := by decide +kernel
theorem dX6_doSteps_54 : decode cX6_doSteps 54 = .ok (.aload_n 1, 1) := by decide +kernel
theorem dX6_doSteps_55 : decode cX6_doSteps 55 = .ok (.iload 5, 2) := by decide +kernel
theorem dX6_doSteps_57 : decode cX6_doSteps 57 = .ok (.iconst 1, 1) := by decide +kernel
theorem dX6_doSteps_58 : decode cX6_doSteps 58 = .ok (.iadd, 1) := by decide +kernel
theorem dX6_doSteps_59 : decode cX6_doSteps 59 = .ok (.aload_n 0, 1) := by decide +kernel
theorem dX6_doSteps_60 : decode cX6_doSteps 60 = .ok (.getfield 27, 3) := by decide +kernel
theorem dX6_doSteps_63 : decode cX6_doSteps 63 = .ok (.iload 5, 2) := by decide +kernel
theorem dX6_doSteps_65 : decode cX6_doSteps 65 = .ok (.iaload, 1) := by decide +kernel
theorem dX6_doSteps_66 : decode cX6_doSteps 66 = .ok (.iload 4, 2) := by decide +kernel
theorem dX6_doSteps_68 : decode cX6_doSteps 68 = .ok (.iconst 1, 1) := by decide +kernel
theorem dX6_doSteps_69 : decode cX6_doSteps 69 = .ok (.iadd, 1) := by decide +kernel
theorem dX6_doSteps_70 : decode cX6_doSteps 70 = .ok (.invokevirtual 150, 3) := by decide +kernel
theorem dX6_doSteps_73 : decode cX6_doSteps 73 = .ok (.iinc 7 1, 3) := by decide +kernel
theorem dX6_doSteps_76 : decode cX6_doSteps 76 = .ok (.goto (-35), 3) := by decide +kernel
theorem dX6_doSteps_79 : decode cX6_doSteps 79 = .ok (.aload_n 0, 1) := by decide +kernel
theorem dX6_doSteps_80 : decode cX6_doSteps 80 = .ok (.getfield 27, 3) := by decide +kernel
theorem dX6_doSteps_83 : decode cX6_doSteps 83 = .ok (.iload 5, 2) := by decide +kernel
theorem dX6_doSteps_85 : decode cX6_doSteps 85 = .ok (.iaload, 1) := by decide +kernel
theorem dX6_doSteps_86 : decode cX6_doSteps 86 = .ok (.istore 5, 2) := by decide +kernel
theorem dX6_doSteps_88 : decode cX6_doSteps 88 = .ok (.goto 13, 3) := by decide +kernel
theorem dX6_doSteps_91 : decode cX6_doSteps 91 = .ok (.aload_n 0, 1) := by decide +kernel
theorem dX6_doSteps_92 : decode cX6_doSteps 92 = .ok (.aload_n 1, 1) := by decide +kernel
theorem dX6_doSteps_93 : decode cX6_doSteps 93 = .ok (.iload 5, 2) := by decide +kernel
theorem dX6_doSteps_95 : decode cX6_doSteps 95 = .ok (.invokevirtual 154, 3) := by decide +kernel
theorem dX6_doSteps_98 : decode cX6_doSteps 98 = .ok (.iinc 5 1, 3) := by decide +kernel
theorem dX6_doSteps_101 : decode cX6_doSteps 101 = .ok (.iinc 6 1, 3) := by decide +kernel
theorem dX6_doSteps_104 : decode cX6_doSteps 104 = .ok (.goto (-91), 3) := by decide +kernel
theorem dX6_doSteps_107 : decode cX6_doSteps 107 = .ok (.return_, 1) := by decide +kernel
theorem dX6_beginStep_0 : decode cX6_beginStep 0 = .ok (.aload_n 0, 1) := by decide +kernel
theorem dX6_beginStep_1 : decode cX6_beginStep 1 = .ok (.getfield 144, 3) := by decide +kernel
theorem dX6_beginStep_4 : decode cX6_beginStep 4 = .ok (.bipush 100, 2) := by decide +kernel
theorem dX6_beginStep_6 : decode cX6_beginStep 6 = .ok (.if_icmp .lt 4, 3) := by decide +kernel
theorem dX6_beginStep_9 : decode cX6_beginStep 9 = .ok (.return_, 1) := by decide +kernel
theorem dX6_beginStep_10 : decode cX6_beginStep 10 = .ok (.aload_n 0, 1) := by decide +kernel
theorem dX6_beginStep_11 : decode cX6_beginStep 11 = .ok (.dup, 1) := by decide +kernel
theorem dX6_beginStep_12 : decode cX6_beginStep 12 = .ok (.getfield 144, 3) := by decide +kernel
theorem dX6_beginStep_15 : decode cX6_beginStep 15 = .ok (.iconst 1, 1) := by decide +kernel
theorem dX6_beginStep_16 : decode cX6_beginStep 16 = .ok (.iadd, 1) := by decide +kernel
theorem dX6_beginStep_17 : decode cX6_beginStep 17 = .ok (.putfield 144, 3) := by decide +kernel
theorem dX6_beginStep_20 : decode cX6_beginStep 20 = .ok (.aload_n 0, 1) := by decide +kernel
theorem dX6_beginStep_21 : decode cX6_beginStep 21 = .ok (.aload_n 1, 1) := by decide +kernel
theorem dX6_beginStep_22 : decode cX6_beginStep 22 = .ok (.iload_n 2, 1) := by decide +kernel
theorem dX6_beginStep_23 : decode cX6_beginStep 23 = .ok (.invokevirtual 158, 3) := by decide +kernel
theorem dX6_beginStep_26 : decode cX6_beginStep 26 = .ok (.ifCond .eq 13, 3) := by decide +kernel
theorem dX6_beginStep_29 : decode cX6_beginStep 29 = .ok (.aload_n 0, 1) := by decide +kernel
theorem dX6_beginStep_30 : decode cX6_beginStep 30 = .ok (.dup, 1) := by decide +kernel
theorem dX6_beginStep_31 : decode cX6_beginStep 31 = .ok (.getfield 147, 3) := by decide +kernel
theorem dX6_beginStep_34 : decode cX6_beginStep 34 = .ok (.iconst 1, 1) := by decide +kernel
theorem dX6_beginStep_35 : decode cX6_beginStep 35 = .ok (.iadd, 1) := by decide +kernel
theorem dX6_beginStep_36 : decode cX6_beginStep 36 = .ok (.putfield 147, 3) := by decide +kernel
theorem dX6_beginStep_39 : decode cX6_beginStep 39 = .ok (.return_, 1) := by decide +kernel
theorem dX6_doStep_0 : decode cX6_doStep 0 = .ok (.iconst 1, 1) := by decide +kernel
theorem dX6_doStep_1 : decode cX6_doStep 1 = .ok (.aload_n 0, 1) := by decide +kernel
theorem dX6_doStep_2 : decode cX6_doStep 2 = .ok (.getfield 18, 3) := by decide +kernel
theorem dX6_doStep_5 : decode cX6_doStep 5 = .ok (.iload_n 2, 1) := by decide +kernel
theorem dX6_doStep_6 : decode cX6_doStep 6 = .ok (.iaload, 1) := by decide +kernel
theorem dX6_doStep_7 : decode cX6_doStep 7 = .ok (.aload_n 0, 1) := by decide +kernel
theorem dX6_doStep_8 : decode cX6_doStep 8 = .ok (.getfield 42, 3) := by decide +kernel
theorem dX6_doStep_11 : decode cX6_doStep 11 = .ok (.imul, 1) := by decide +kernel
theorem dX6_doStep_12 : decode cX6_doStep 12 = .ok (.aload_n 0, 1) := by decide +kernel
theorem dX6_doStep_13 : decode cX6_doStep 13 = .ok (.getfield 21, 3) := by decide +kernel
theorem dX6_doStep_16 : decode cX6_doStep 16 = .ok (.iload_n 2, 1) := by decide +kernel
theorem dX6_doStep_17 : decode cX6_doStep 17 = .ok (.iaload, 1) := by decide +kernel
theorem dX6_doStep_18 : decode cX6_doStep 18 = .ok (.iadd, 1) := by decide +kernel
theorem dX6_doStep_19 : decode cX6_doStep 19 = .ok (.ishl, 1) := by decide +kernel
theorem dX6_doStep_20 : decode cX6_doStep 20 = .ok (.istore_n 3, 1) := by decide +kernel
theorem dX6_doStep_21 : decode cX6_doStep 21 = .ok (.aload_n 0, 1) := by decide +kernel
theorem dX6_doStep_22 : decode cX6_doStep 22 = .ok (.getfield 15, 3) := by decide +kernel
theorem dX6_doStep_25 : decode cX6_doStep 25 = .ok (.iload_n 2, 1) := by decide +kernel
theorem dX6_doStep_26 : decode cX6_doStep 26 = .ok (.iaload, 1) := by decide +kernel
theorem dX6_doStep_27 : decode cX6_doStep 27 = .ok (.tableswitch 115 3 6 #[34, 29, 58, 89], 29) := by decide +kernel
theorem dX6_doStep_56 : decode cX6_doStep 56 = .ok (.aload_n 1, 1) := by decide +kernel
theorem dX6_doStep_57 : decode cX6_doStep 57 = .ok (.invokevirtual 162, 3) := by decide +kernel
theorem dX6_doStep_60 : decode cX6_doStep 60 = .ok (.ireturn, 1) := by decide +kernel
theorem dX6_doStep_61 : decode cX6_doStep 61 = .ok (.aload_n 1, 1) := by decide +kernel
theorem dX6_doStep_62 : decode cX6_doStep 62 = .ok (.getfield 167, 3) := by decide +kernel
theorem dX6_doStep_65 : decode cX6_doStep 65 = .ok (.aload_n 0, 1) := by decide +kernel
theorem dX6_doStep_66 : decode cX6_doStep 66 = .ok (.getfield 18, 3) := by decide +kernel
theorem dX6_doStep_69 : decode cX6_doStep 69 = .ok (.iload_n 2, 1) := by decide +kernel
theorem dX6_doStep_70 : decode cX6_doStep 70 = .ok (.iaload, 1) := by decide +kernel
theorem dX6_doStep_71 : decode cX6_doStep 71 = .ok (.dup2, 1) := by decide +kernel
theorem dX6_doStep_72 : decode cX6_doStep 72 = .ok (.iaload, 1) := by decide +kernel
theorem dX6_doStep_73 : decode cX6_doStep 73 = .ok (.iconst 1, 1) := by decide +kernel
theorem dX6_doStep_74 : decode cX6_doStep 74 = .ok (.aload_n 0, 1) := by decide +kernel
theorem dX6_doStep_75 : decode cX6_doStep 75 = .ok (.getfield 21, 3) := by decide +kernel
theorem dX6_doStep_78 : decode cX6_doStep 78 = .ok (.iload_n 2, 1) := by decide +kernel
theorem dX6_doStep_79 : decode cX6_doStep 79 = .ok (.iaload, 1) := by decide +kernel
theorem dX6_doStep_80 : decode cX6_doStep 80 = .ok (.ishl, 1) := by decide +kernel
theorem dX6_doStep_81 : decode cX6_doStep 81 = .ok (.ixor, 1) := by decide +kernel
theorem dX6_doStep_82 : decode cX6_doStep 82 = .ok (.iastore, 1) := by decide +kernel
theorem dX6_doStep_83 : decode cX6_doStep 83 = .ok (.iconst 1, 1) := by decide +kernel
theorem dX6_doStep_84 : decode cX6_doStep 84 = .ok (.ireturn, 1) := by decide +kernel
theorem dX6_doStep_85 : decode cX6_doStep 85 = .ok (.aload_n 1, 1) := by decide +kernel
theorem dX6_doStep_86 : decode cX6_doStep 86 = .ok (.getfield 170, 3) := by decide +kernel
theorem dX6_doStep_89 : decode cX6_doStep 89 = .ok (.aload_n 0, 1) := by decide +kernel
theorem dX6_doStep_90 : decode cX6_doStep 90 = .ok (.getfield 18, 3) := by decide +kernel
theorem dX6_doStep_93 : decode cX6_doStep 93 = .ok (.iload_n 2, 1) := by decide +kernel
theorem dX6_doStep_94 : decode cX6_doStep 94 = .ok (.iaload, 1) := by decide +kernel
theorem dX6_doStep_95 : decode cX6_doStep 95 = .ok (.aload_n 0, 1) := by decide +kernel
theorem dX6_doStep_96 : decode cX6_doStep 96 = .ok (.getfield 42, 3) := by decide +kernel
theorem dX6_doStep_99 : decode cX6_doStep 99 = .ok (.imul, 1) := by decide +kernel
theorem dX6_doStep_100 : decode cX6_doStep 100 = .ok (.aload_n 0, 1) := by decide +kernel
theorem dX6_doStep_101 : decode cX6_doStep 101 = .ok (.getfield 21, 3) := by decide +kernel
theorem dX6_doStep_104 : decode cX6_doStep 104 = .ok (.iload_n 2, 1) := by decide +kernel
theorem dX6_doStep_105 : decode cX6_doStep 105 = .ok (.iaload, 1) := by decide +kernel
theorem dX6_doStep_106 : decode cX6_doStep 106 = .ok (.iadd, 1) := by decide +kernel
theorem dX6_doStep_107 : decode cX6_doStep 107 = .ok (.aload_n 0, 1) := by decide +kernel
theorem dX6_doStep_108 : decode cX6_doStep 108 = .ok (.getfield 24, 3) := by decide +kernel
theorem dX6_doStep_111 : decode cX6_doStep 111 = .ok (.iload_n 2, 1) := by decide +kernel
theorem dX6_doStep_112 : decode cX6_doStep 112 = .ok (.iaload, 1) := by decide +kernel
theorem dX6_doStep_113 : decode cX6_doStep 113 = .ok (.iastore, 1) := by decide +kernel
theorem dX6_doStep_114 : decode cX6_doStep 114 = .ok (.iconst 1, 1) := by decide +kernel
theorem dX6_doStep_115 : decode cX6_doStep 115 = .ok (.ireturn, 1) := by decide +kernel
theorem dX6_doStep_116 : decode cX6_doStep 116 = .ok (.aload_n 1, 1) := by decide +kernel
theorem dX6_doStep_117 : decode cX6_doStep 117 = .ok (.getfield 173, 3) := by decide +kernel
theorem dX6_doStep_120 : decode cX6_doStep 120 = .ok (.aload_n 0, 1) := by decide +kernel
theorem dX6_doStep_121 : decode cX6_doStep 121 = .ok (.getfield 18, 3) := by decide +kernel
theorem dX6_doStep_124 : decode cX6_doStep 124 = .ok (.iload_n 2, 1) := by decide +kernel
theorem dX6_doStep_125 : decode cX6_doStep 125 = .ok (.iaload, 1) := by decide +kernel
theorem dX6_doStep_126 : decode cX6_doStep 126 = .ok (.aaload, 1) := by decide +kernel
theorem dX6_doStep_127 : decode cX6_doStep 127 = .ok (.aload_n 0, 1) := by decide +kernel
theorem dX6_doStep_128 : decode cX6_doStep 128 = .ok (.getfield 21, 3) := by decide +kernel
theorem dX6_doStep_131 : decode cX6_doStep 131 = .ok (.iload_n 2, 1) := by decide +kernel
theorem dX6_doStep_132 : decode cX6_doStep 132 = .ok (.iaload, 1) := by decide +kernel
theorem dX6_doStep_133 : decode cX6_doStep 133 = .ok (.aload_n 0, 1) := by decide +kernel
theorem dX6_doStep_134 : decode cX6_doStep 134 = .ok (.getfield 24, 3) := by decide +kernel
theorem dX6_doStep_137 : decode cX6_doStep 137 = .ok (.iload_n 2, 1) := by decide +kernel
theorem dX6_doStep_138 : decode cX6_doStep 138 = .ok (.iaload, 1) := by decide +kernel
theorem dX6_doStep_139 : decode cX6_doStep 139 = .ok (.iastore, 1) := by decide +kernel
theorem dX6_doStep_140 : decode cX6_doStep 140 = .ok (.iconst 1, 1) := by decide +kernel
theorem dX6_doStep_141 : decode cX6_doStep 141 = .ok (.ireturn, 1) := by decide +kernel
theorem dX6_doStep_142 : decode cX6_doStep 142 = .ok (.aload_n 1, 1) := by decide +kernel
theorem dX6_doStep_143 : decode cX6_doStep 143 = .ok (.getfield 177, 3) := by decide +kernel
theorem dX6_doStep_146 : decode cX6_doStep 146 = .ok (.iconst 0, 1) := by decide +kernel
theorem dX6_doStep_147 : decode cX6_doStep 147 = .ok (.dup2, 1) := by decide +kernel
theorem dX6_doStep_148 : decode cX6_doStep 148 = .ok (.iaload, 1) := by decide +kernel
theorem dX6_doStep_149 : decode cX6_doStep 149 = .ok (.aload_n 0, 1) := by decide +kernel
theorem dX6_doStep_150 : decode cX6_doStep 150 = .ok (.getfield 15, 3) := by decide +kernel
theorem dX6_doStep_153 : decode cX6_doStep 153 = .ok (.iload_n 2, 1) := by decide +kernel
theorem dX6_doStep_154 : decode cX6_doStep 154 = .ok (.iaload, 1) := by decide +kernel
theorem dX6_doStep_155 : decode cX6_doStep 155 = .ok (.iconst 1, 1) := by decide +kernel
theorem dX6_doStep_156 : decode cX6_doStep 156 = .ok (.if_icmp .ne 7, 3) := by decide +kernel
theorem dX6_doStep_159 : decode cX6_doStep 159 = .ok (.iconst 0, 1) := by decide +kernel
theorem dX6_doStep_160 : decode cX6_doStep 160 = .ok (.goto 4, 3) := by decide +kernel
theorem dX6_doStep_163 : decode cX6_doStep 163 = .ok (.iload_n 3, 1) := by decide +kernel
theorem dX6_doStep_164 : decode cX6_doStep 164 = .ok (.ixor, 1) := by decide +kernel
theorem dX6_doStep_165 : decode cX6_doStep 165 = .ok (.iastore, 1) := by decide +kernel
theorem dX6_doStep_166 : decode cX6_doStep 166 = .ok (.aload_n 1, 1) := by decide +kernel
theorem dX6_doStep_167 : decode cX6_doStep 167 = .ok (.getfield 177, 3) := by decide +kernel
theorem dX6_doStep_170 : decode cX6_doStep 170 = .ok (.iconst 1, 1) := by decide +kernel
theorem dX6_doStep_171 : decode cX6_doStep 171 = .ok (.dup2, 1) := by decide +kernel
theorem dX6_doStep_172 : decode cX6_doStep 172 = .ok (.iaload, 1) := by decide +kernel
theorem dX6_doStep_173 : decode cX6_doStep 173 = .ok (.aload_n 0, 1) := by decide +kernel
theorem dX6_doStep_174 : decode cX6_doStep 174 = .ok (.getfield 15, 3) := by decide +kernel
theorem dX6_doStep_177 : decode cX6_doStep 177 = .ok (.iload_n 2, 1) := by decide +kernel
theorem dX6_doStep_178 : decode cX6_doStep 178 = .ok (.iaload, 1) := by decide +kernel
theorem dX6_doStep_179 : decode cX6_doStep 179 = .ok (.ifCond .ne 7, 3) := by decide +kernel
theorem dX6_doStep_182 : decode cX6_doStep 182 = .ok (.iconst 0, 1) := by decide +kernel
theorem dX6_doStep_183 : decode cX6_doStep 183 = .ok (.goto 4, 3) := by decide +kernel
theorem dX6_doStep_186 : decode cX6_doStep 186 = .ok (.iload_n 3, 1) := by decide +kernel
theorem dX6_doStep_187 : decode cX6_doStep 187 = .ok (.ixor, 1) := by decide +kernel
theorem dX6_doStep_188 : decode cX6_doStep 188 = .ok (.iastore, 1) := by decide +kernel
theorem dX6_doStep_189 : decode cX6_doStep 189 = .ok (.iconst 1, 1) := by decide +kernel
theorem dX6_doStep_190 : decode cX6_doStep 190 = .ok (.ireturn, 1) := by decide +kernel
theorem dX7_init_0 : decode cX7_init 0 = .ok (.aload_n 0, 1) := by decide +kernel
theorem dX7_init_1 : decode cX7_init 1 = .ok (.invokespecial 3, 3) := by decide +kernel
theorem dX7_init_4 : decode cX7_init 4 = .ok (.aload_n 0, 1) := by decide +kernel
theorem dX7_init_5 : decode cX7_init 5 = .ok (.bipush 14, 2) := by decide +kernel
theorem dX7_init_7 : decode cX7_init 7 = .ok (.newarray .int, 2) := by decide +kernel
theorem dX7_init_9 : decode cX7_init 9 = .ok (.putfield 9, 3) := by decide +kernel
theorem dX7_init_12 : decode cX7_init 12 = .ok (.aload_n 0, 1) := by decide +kernel
theorem dX7_init_13 : decode cX7_init 13 = .ok (.iconst 4, 1) := by decide +kernel
theorem dX7_init_14 : decode cX7_init 14 = .ok (.newarray .int, 2) := by decide +kernel
theorem dX7_init_16 : decode cX7_init 16 = .ok (.putfield 15, 3) := by decide +kernel
theorem dX7_init_19 : decode cX7_init 19 = .ok (.aload_n 0, 1) := by decide +kernel
theorem dX7_init_20 : decode cX7_init 20 = .ok (.sipush 321, 3) := by decide +kernel
theorem dX7_init_23 : decode cX7_init 23 = .ok (.newarray .int, 2) := by decide +kernel
theorem dX7_init_25 : decode cX7_init 25 = .ok (.putfield 18, 3) := by decide +kernel
theorem dX7_init_28 : decode cX7_init 28 = .ok (.aload_n 0, 1) := by decide +kernel
theorem dX7_init_29 : decode cX7_init 29 = .ok (.bipush 11, 2) := by decide +kernel
theorem dX7_init_31 : decode cX7_init 31 = .ok (.newarray .int, 2) := by decide +kernel
theorem dX7_init_33 : decode cX7_init 33 = .ok (.putfield 21, 3) := by decide +kernel
theorem dX7_init_36 : decode cX7_init 36 = .ok (.return_, 1) := by decide +kernel
theorem dX7_keepPairing_0 : decode cX7_keepPairing 0 = .ok (.aload_n 0, 1) := by decide +kernel
theorem dX7_keepPairing_1 : decode cX7_keepPairing 1 = .ok (.aload_n 1, 1) := by decide +kernel
theorem dX7_keepPairing_2 : decode cX7_keepPairing 2 = .ok (.getfield 24, 3) := by decide +kernel
theorem dX7_keepPairing_5 : decode cX7_keepPairing 5 = .ok (.putfield 30, 3) := by decide +kernel
theorem dX7_keepPairing_8 : decode cX7_keepPairing 8 = .ok (.aload_n 1, 1) := by decide +kernel
theorem dX7_keepPairing_9 : decode cX7_keepPairing 9 = .ok (.getfield 33, 3) := by decide +kernel
theorem dX7_keepPairing_12 : decode cX7_keepPairing 12 = .ok (.iconst 0, 1) := by decide +kernel
theorem dX7_keepPairing_13 : decode cX7_keepPairing 13 = .ok (.aload_n 0, 1) := by decide +kernel
theorem dX7_keepPairing_14 : decode cX7_keepPairing 14 = .ok (.getfield 9, 3) := by decide +kernel
theorem dX7_keepPairing_17 : decode cX7_keepPairing 17 = .ok (.iconst 0, 1) := by decide +kernel
theorem dX7_keepPairing_18 : decode cX7_keepPairing 18 = .ok (.bipush 14, 2) := by decide +kernel
theorem dX7_keepPairing_20 : decode cX7_keepPairing 20 = .ok (.invokestatic 36, 3) := by decide +kernel
theorem dX7_keepPairing_23 : decode cX7_keepPairing 23 = .ok (.return_, 1) := by decide +kernel
theorem dX7_keepGrowth_0 : decode cX7_keepGrowth 0 = .ok (.aload_n 0, 1) := by decide +kernel
theorem dX7_keepGrowth_1 : decode cX7_keepGrowth 1 = .ok (.iconst 1, 1) := by decide +kernel
theorem dX7_keepGrowth_2 : decode cX7_keepGrowth 2 = .ok (.putfield 42, 3) := by decide +kernel
theorem dX7_keepGrowth_5 : decode cX7_keepGrowth 5 = .ok (.aload_n 0, 1) := by decide +kernel
theorem dX7_keepGrowth_6 : decode cX7_keepGrowth 6 = .ok (.getfield 15, 3) := by decide +kernel
theorem dX7_keepGrowth_9 : decode cX7_keepGrowth 9 = .ok (.iconst 0, 1) := by decide +kernel
theorem dX7_keepGrowth_10 : decode cX7_keepGrowth 10 = .ok (.aload_n 1, 1) := by decide +kernel
theorem dX7_keepGrowth_11 : decode cX7_keepGrowth 11 = .ok (.getfield 46, 3) := by decide +kernel
theorem dX7_keepGrowth_14 : decode cX7_keepGrowth 14 = .ok (.iastore, 1) := by decide +kernel
theorem dX7_keepGrowth_15 : decode cX7_keepGrowth 15 = .ok (.aload_n 0, 1) := by decide +kernel
theorem dX7_keepGrowth_16 : decode cX7_keepGrowth 16 = .ok (.getfield 15, 3) := by decide +kernel
theorem dX7_keepGrowth_19 : decode cX7_keepGrowth 19 = .ok (.iconst 1, 1) := by decide +kernel
theorem dX7_keepGrowth_20 : decode cX7_keepGrowth 20 = .ok (.aload_n 1, 1) := by decide +kernel
theorem dX7_keepGrowth_21 : decode cX7_keepGrowth 21 = .ok (.getfield 51, 3) := by decide +kernel
theorem dX7_keepGrowth_24 : decode cX7_keepGrowth 24 = .ok (.iastore, 1) := by decide +kernel
theorem dX7_keepGrowth_25 : decode cX7_keepGrowth 25 = .ok (.aload_n 0, 1) := by decide +kernel
theorem dX7_keepGrowth_26 : decode cX7_keepGrowth 26 = .ok (.getfield 15, 3) := by decide +kernel
theorem dX7_keepGrowth_29 : decode cX7_keepGrowth 29 = .ok (.iconst 2, 1) := by decide +kernel
theorem dX7_keepGrowth_30 : decode cX7_keepGrowth 30 = .ok (.aload_n 1, 1) := by decide +kernel
theorem dX7_keepGrowth_31 : decode cX7_keepGrowth 31 = .ok (.getfield 54, 3) := by decide +kernel
theorem dX7_keepGrowth_34 : decode cX7_keepGrowth 34 = .ok (.iastore, 1) := by decide +kernel
theorem dX7_keepGrowth_35 : decode cX7_keepGrowth 35 = .ok (.aload_n 0, 1) := by decide +kernel
theorem dX7_keepGrowth_36 : decode cX7_keepGrowth 36 = .ok (.getfield 15, 3) := by decide +kernel
theorem dX7_keepGrowth_39 : decode cX7_keepGrowth 39 = .ok (.iconst 3, 1) := by decide +kernel
theorem dX7_keepGrowth_40 : decode cX7_keepGrowth 40 = .ok (.aload_n 1, 1) := by decide +kernel
theorem dX7_keepGrowth_41 : decode cX7_keepGrowth 41 = .ok (.getfield 57, 3) := by decide +kernel
theorem dX7_keepGrowth_44 : decode cX7_keepGrowth 44 = .ok (.iastore, 1) := by decide +kernel
theorem dX7_keepGrowth_45 : decode cX7_keepGrowth 45 = .ok (.aload_n 0, 1) := by decide +kernel
theorem dX7_keepGrowth_46 : decode cX7_keepGrowth 46 = .ok (.iconst 0, 1) := by decide +kernel
theorem dX7_keepGrowth_47 : decode cX7_keepGrowth 47 = .ok (.putfield 60, 3) := by decide +kernel
theorem dX7_keepGrowth_50 : decode cX7_keepGrowth 50 = .ok (.iconst 0, 1) := by decide +kernel
theorem dX7_keepGrowth_51 : decode cX7_keepGrowth 51 = .ok (.istore_n 3, 1) := by decide +kernel
theorem dX7_keepGrowth_52 : decode cX7_keepGrowth 52 = .ok (.iload_n 3, 1) := by decide +kernel
theorem dX7_keepGrowth_53 : decode cX7_keepGrowth 53 = .ok (.aload_n 2, 1) := by decide +kernel
theorem dX7_keepGrowth_54 : decode cX7_keepGrowth 54 = .ok (.getfield 61, 3) := by decide +kernel
theorem dX7_keepGrowth_57 : decode cX7_keepGrowth 57 = .ok (.if_icmp .ge 39, 3) := by decide +kernel
theorem dX7_keepGrowth_60 : decode cX7_keepGrowth 60 = .ok (.aload_n 1, 1) := by decide +kernel
theorem dX7_keepGrowth_61 : decode cX7_keepGrowth 61 = .ok (.getfield 66, 3) := by decide +kernel
theorem dX7_keepGrowth_64 : decode cX7_keepGrowth 64 = .ok (.iload_n 3, 1) := by decide +kernel
theorem dX7_keepGrowth_65 : decode cX7_keepGrowth 65 = .ok (.iaload, 1) := by decide +kernel
theorem dX7_keepGrowth_66 : decode cX7_keepGrowth 66 = .ok (.iconst 1, 1) := by decide +kernel
theorem dX7_keepGrowth_67 : decode cX7_keepGrowth 67 = .ok (.if_icmp .ne 23, 3) := by decide +kernel
theorem dX7_keepGrowth_70 : decode cX7_keepGrowth 70 = .ok (.aload_n 0, 1) := by decide +kernel
theorem dX7_keepGrowth_71 : decode cX7_keepGrowth 71 = .ok (.getfield 18, 3) := by decide +kernel
theorem dX7_keepGrowth_74 : decode cX7_keepGrowth 74 = .ok (.aload_n 0, 1) := by decide +kernel
theorem dX7_keepGrowth_75 : decode cX7_keepGrowth 75 = .ok (.getfield 60, 3) := by decide +kernel
theorem dX7_keepGrowth_78 : decode cX7_keepGrowth 78 = .ok (.iload_n 3, 1) := by decide +kernel
theorem dX7_keepGrowth_79 : decode cX7_keepGrowth 79 = .ok (.iastore, 1) := by decide +kernel
theorem dX7_keepGrowth_80 : decode cX7_keepGrowth 80 = .ok (.aload_n 0, 1) := by decide +kernel
theorem dX7_keepGrowth_81 : decode cX7_keepGrowth 81 = .ok (.dup, 1) := by decide +kernel
theorem dX7_keepGrowth_82 : decode cX7_keepGrowth 82 = .ok (.getfield 60, 3) := by decide +kernel
theorem dX7_keepGrowth_85 : decode cX7_keepGrowth 85 = .ok (.iconst 1, 1) := by decide +kernel
theorem dX7_keepGrowth_86 : decode cX7_keepGrowth 86 = .ok (.iadd, 1) := by decide +kernel
theorem dX7_keepGrowth_87 : decode cX7_keepGrowth 87 = .ok (.putfield 60, 3) := by decide +kernel
theorem dX7_keepGrowth_90 : decode cX7_keepGrowth 90 = .ok (.iinc 3 1, 3) := by decide +kernel
theorem dX7_keepGrowth_93 : decode cX7_keepGrowth 93 = .ok (.goto (-41), 3) := by decide +kernel
theorem dX7_keepGrowth_96 : decode cX7_keepGrowth 96 = .ok (.return_, 1) := by decide +kernel
theorem dX7_drawLine_0 : decode cX7_drawLine 0 = .ok (.aload_n 0, 1) := by decide +kernel
theorem dX7_drawLine_1 : decode cX7_drawLine 1 = .ok (.iconst 2, 1) := by decide +kernel
theorem dX7_drawLine_2 : decode cX7_drawLine 2 = .ok (.aload_n 1, 1) := by decide +kernel
theorem dX7_drawLine_3 : decode cX7_drawLine 3 = .ok (.getfield 67, 3) := by decide +kernel
theorem dX7_drawLine_6 : decode cX7_drawLine 6 = .ok (.getfield 73, 3) := by decide +kernel
theorem dX7_drawLine_9 : decode cX7_drawLine 9 = .ok (.imul, 1) := by decide +kernel
theorem dX7_drawLine_10 : decode cX7_drawLine 10 = .ok (.iconst 1, 1) := by decide +kernel
theorem dX7_drawLine_11 : decode cX7_drawLine 11 = .ok (.iadd, 1) := by decide +kernel
theorem dX7_drawLine_12 : decode cX7_drawLine 12 = .ok (.putfield 78, 3) := by decide +kernel
theorem dX7_drawLine_15 : decode cX7_drawLine 15 = .ok (.aload_n 0, 1) := by decide +kernel
theorem dX7_drawLine_16 : decode cX7_drawLine 16 = .ok (.getfield 21, 3) := by decide +kernel
theorem dX7_drawLine_19 : decode cX7_drawLine 19 = .ok (.bipush 32, 2) := by decide +kernel
theorem dX7_drawLine_21 : decode cX7_drawLine 21 = .ok (.invokestatic 81, 3) := by decide +kernel
theorem dX7_drawLine_24 : decode cX7_drawLine 24 = .ok (.iload_n 2, 1) := by decide +kernel
theorem dX7_drawLine_25 : decode cX7_drawLine 25 = .ok (.iconst 2, 1) := by decide +kernel
theorem dX7_drawLine_26 : decode cX7_drawLine 26 = .ok (.irem, 1) := by decide +kernel
theorem dX7_drawLine_27 : decode cX7_drawLine 27 = .ok (.ifCond .ne 24, 3) := by decide +kernel
theorem dX7_drawLine_30 : decode cX7_drawLine 30 = .ok (.aload_n 0, 1) := by decide +kernel
theorem dX7_drawLine_31 : decode cX7_drawLine 31 = .ok (.aload_n 1, 1) := by decide +kernel
theorem dX7_drawLine_32 : decode cX7_drawLine 32 = .ok (.iconst 0, 1) := by decide +kernel
theorem dX7_drawLine_33 : decode cX7_drawLine 33 = .ok (.iload_n 2, 1) := by decide +kernel
theorem dX7_drawLine_34 : decode cX7_drawLine 34 = .ok (.iconst 2, 1) := by decide +kernel
theorem dX7_drawLine_35 : decode cX7_drawLine 35 = .ok (.idiv, 1) := by decide +kernel
theorem dX7_drawLine_36 : decode cX7_drawLine 36 = .ok (.invokevirtual 87, 3) := by decide +kernel
theorem dX7_drawLine_39 : decode cX7_drawLine 39 = .ok (.aload_n 0, 1) := by decide +kernel
theorem dX7_drawLine_40 : decode cX7_drawLine 40 = .ok (.aload_n 1, 1) := by decide +kernel
theorem dX7_drawLine_41 : decode cX7_drawLine 41 = .ok (.iconst 1, 1) := by decide +kernel
theorem dX7_drawLine_42 : decode cX7_drawLine 42 = .ok (.iload_n 2, 1) := by decide +kernel
theorem dX7_drawLine_43 : decode cX7_drawLine 43 = .ok (.iconst 2, 1) := by decide +kernel
theorem dX7_drawLine_44 : decode cX7_drawLine 44 = .ok (.idiv, 1) := by decide +kernel
theorem dX7_drawLine_45 : decode cX7_drawLine 45 = .ok (.invokevirtual 87, 3) := by decide +kernel
theorem dX7_drawLine_48 : decode cX7_drawLine 48 = .ok (.goto 11, 3) := by decide +kernel
theorem dX7_drawLine_51 : decode cX7_drawLine 51 = .ok (.aload_n 0, 1) := by decide +kernel
theorem dX7_drawLine_52 : decode cX7_drawLine 52 = .ok (.aload_n 1, 1) := by decide +kernel
theorem dX7_drawLine_53 : decode cX7_drawLine 53 = .ok (.iload_n 2, 1) := by decide +kernel
theorem dX7_drawLine_54 : decode cX7_drawLine 54 = .ok (.iconst 2, 1) := by decide +kernel
theorem dX7_drawLine_55 : decode cX7_drawLine 55 = .ok (.idiv, 1) := by decide +kernel
theorem dX7_drawLine_56 : decode cX7_drawLine 56 = .ok (.invokevirtual 91, 3) := by decide +kernel
theorem dX7_drawLine_59 : decode cX7_drawLine 59 = .ok (.return_, 1) := by decide +kernel
theorem dX7_drawChecks_0 : decode cX7_drawChecks 0 = .ok (.aload_n 1, 1) := by decide +kernel
theorem dX7_drawChecks_1 : decode cX7_drawChecks 1 = .ok (.iload_n 2, 1) := by decide +kernel
theorem dX7_drawChecks_2 : decode cX7_drawChecks 2 = .ok (.invokevirtual 95, 3) := by decide +kernel
theorem dX7_drawChecks_5 : decode cX7_drawChecks 5 = .ok (.istore 4, 2) := by decide +kernel
theorem dX7_drawChecks_7 : decode cX7_drawChecks 7 = .ok (.iconst 0, 1) := by decide +kernel
theorem dX7_drawChecks_8 : decode cX7_drawChecks 8 = .ok (.istore 5, 2) := by decide +kernel
theorem dX7_drawChecks_10 : decode cX7_drawChecks 10 = .ok (.iload 5, 2) := by decide +kernel
theorem dX7_drawChecks_12 : decode cX7_drawChecks 12 = .ok (.aload_n 1, 1) := by decide +kernel
theorem dX7_drawChecks_13 : decode cX7_drawChecks 13 = .ok (.getfield 67, 3) := by decide +kernel
theorem dX7_drawChecks_16 : decode cX7_drawChecks 16 = .ok (.getfield 99, 3) := by decide +kernel
theorem dX7_drawChecks_19 : decode cX7_drawChecks 19 = .ok (.if_icmp .ge 93, 3) := by decide +kernel
theorem dX7_drawChecks_22 : decode cX7_drawChecks 22 = .ok (.aload_n 1, 1) := by decide +kernel
theorem dX7_drawChecks_23 : decode cX7_drawChecks 23 = .ok (.getfield 67, 3) := by decide +kernel
theorem dX7_drawChecks_26 : decode cX7_drawChecks 26 = .ok (.getfield 102, 3) := by decide +kernel
theorem dX7_drawChecks_29 : decode cX7_drawChecks 29 = .ok (.iload_n 2, 1) := by decide +kernel
theorem dX7_drawChecks_30 : decode cX7_drawChecks 30 = .ok (.aaload, 1) := by decide +kernel
theorem dX7_drawChecks_31 : decode cX7_drawChecks 31 = .ok (.iload 5, 2) := by decide +kernel
theorem dX7_drawChecks_33 : decode cX7_drawChecks 33 = .ok (.iaload, 1) := by decide +kernel
theorem dX7_drawChecks_34 : decode cX7_drawChecks 34 = .ok (.iload_n 3, 1) := by decide +kernel
theorem dX7_drawChecks_35 : decode cX7_drawChecks 35 = .ok (.if_icmp .ne 71, 3) := by decide +kernel
theorem dX7_drawChecks_38 : decode cX7_drawChecks 38 = .ok (.iload 4, 2) := by decide +kernel
theorem dX7_drawChecks_40 : decode cX7_drawChecks 40 = .ok (.iload 5, 2) := by decide +kernel
theorem dX7_drawChecks_42 : decode cX7_drawChecks 42 = .ok (.ishr, 1) := by decide +kernel
theorem dX7_drawChecks_43 : decode cX7_drawChecks 43 = .ok (.iconst 1, 1) := by decide +kernel
theorem dX7_drawChecks_44 : decode cX7_drawChecks 44 = .ok (.iand, 1) := by decide +kernel
theorem dX7_drawChecks_45 : decode cX7_drawChecks 45 = .ok (.iconst 1, 1) := by decide +kernel
theorem dX7_drawChecks_46 : decode cX7_drawChecks 46 = .ok (.if_icmp .ne 7, 3) := by decide +kernel
theorem dX7_drawChecks_49 : decode cX7_drawChecks 49 = .ok (.iconst 1, 1) := by decide +kernel
theorem dX7_drawChecks_50 : decode cX7_drawChecks 50 = .ok (.goto 4, 3) := by decide +kernel
theorem dX7_drawChecks_53 : decode cX7_drawChecks 53 = .ok (.iconst 0, 1) := by decide +kernel
theorem dX7_drawChecks_54 : decode cX7_drawChecks 54 = .ok (.istore 6, 2) := by decide +kernel
theorem dX7_drawChecks_56 : decode cX7_drawChecks 56 = .ok (.iload_n 2, 1) := by decide +kernel
theorem dX7_drawChecks_57 : decode cX7_drawChecks 57 = .ok (.ifCond .ne 8, 3) := by decide +kernel
theorem dX7_drawChecks_60 : decode cX7_drawChecks 60 = .ok (.bipush 98, 2) := by decide +kernel
theorem dX7_drawChecks_62 : decode cX7_drawChecks 62 = .ok (.goto 5, 3) := by decide +kernel
theorem dX7_drawChecks_65 : decode cX7_drawChecks 65 = .ok (.bipush 112, 2) := by decide +kernel
theorem dX7_drawChecks_67 : decode cX7_drawChecks 67 = .ok (.istore 7, 2) := by decide +kernel
theorem dX7_drawChecks_69 : decode cX7_drawChecks 69 = .ok (.aload_n 0, 1) := by decide +kernel
theorem dX7_drawChecks_70 : decode cX7_drawChecks 70 = .ok (.getfield 21, 3) := by decide +kernel
theorem dX7_drawChecks_73 : decode cX7_drawChecks 73 = .ok (.iconst 2, 1) := by decide +kernel
theorem dX7_drawChecks_74 : decode cX7_drawChecks 74 = .ok (.aload_n 1, 1) := by decide +kernel
theorem dX7_drawChecks_75 : decode cX7_drawChecks 75 = .ok (.getfield 67, 3) := by decide +kernel
theorem dX7_drawChecks_78 : decode cX7_drawChecks 78 = .ok (.getfield 106, 3) := by decide +kernel
theorem dX7_drawChecks_81 : decode cX7_drawChecks 81 = .ok (.iload_n 2, 1) := by decide +kernel
theorem dX7_drawChecks_82 : decode cX7_drawChecks 82 = .ok (.aaload, 1) := by decide +kernel
theorem dX7_drawChecks_83 : decode cX7_drawChecks 83 = .ok (.iload 5, 2) := by decide +kernel
theorem dX7_drawChecks_85 : decode cX7_drawChecks 85 = .ok (.iaload, 1) := by decide +kernel
theorem dX7_drawChecks_86 : decode cX7_drawChecks 86 = .ok (.imul, 1) := by decide +kernel
theorem dX7_drawChecks_87 : decode cX7_drawChecks 87 = .ok (.iload 6, 2) := by decide +kernel
theorem dX7_drawChecks_89 : decode cX7_drawChecks 89 = .ok (.ifCond .eq 14, 3) := by decide +kernel
theorem dX7_drawChecks_92 : decode cX7_drawChecks 92 = .ok (.iload 7, 2) := by decide +kernel
theorem dX7_drawChecks_94 : decode cX7_drawChecks 94 = .ok (.bipush 97, 2) := by decide +kernel
theorem dX7_drawChecks_96 : decode cX7_drawChecks 96 = .ok (.isub, 1) := by decide +kernel
theorem dX7_drawChecks_97 : decode cX7_drawChecks 97 = .ok (.bipush 65, 2) := by decide +kernel
theorem dX7_drawChecks_99 : decode cX7_drawChecks 99 = .ok (.iadd, 1) := by decide +kernel
theorem dX7_drawChecks_100 : decode cX7_drawChecks 100 = .ok (.goto 5, 3) := by decide +kernel
theorem dX7_drawChecks_103 : decode cX7_drawChecks 103 = .ok (.iload 7, 2) := by decide +kernel
theorem dX7_drawChecks_105 : decode cX7_drawChecks 105 = .ok (.iastore, 1) := by decide +kernel
theorem dX7_drawChecks_106 : decode cX7_drawChecks 106 = .ok (.iinc 5 1, 3) := by decide +kernel
theorem dX7_drawChecks_109 : decode cX7_drawChecks 109 = .ok (.goto (-99), 3) := by decide +kernel
theorem dX7_drawChecks_112 : decode cX7_drawChecks 112 = .ok (.return_, 1) := by decide +kernel
theorem dX7_drawQubits_0 : decode cX7_drawQubits 0 = .ok (.iconst 0, 1) := by decide +kernel
theorem dX7_drawQubits_1 : decode cX7_drawQubits 1 = .ok (.istore_n 3, 1) := by decide +kernel
theorem dX7_drawQubits_2 : decode cX7_drawQubits 2 = .ok (.iload_n 3, 1) := by decide +kernel
theorem dX7_drawQubits_3 : decode cX7_drawQubits 3 = .ok (.aload_n 1, 1) := by decide +kernel
theorem dX7_drawQubits_4 : decode cX7_drawQubits 4 = .ok (.getfield 67, 3) := by decide +kernel
theorem dX7_drawQubits_7 : decode cX7_drawQubits 7 = .ok (.getfield 73, 3) := by decide +kernel
theorem dX7_drawQubits_10 : decode cX7_drawQubits 10 = .ok (.if_icmp .ge 96, 3) := by decide +kernel
theorem dX7_drawQubits_13 : decode cX7_drawQubits 13 = .ok (.iload_n 2, 1) := by decide +kernel
theorem dX7_drawQubits_14 : decode cX7_drawQubits 14 = .ok (.aload_n 1, 1) := by decide +kernel
theorem dX7_drawQubits_15 : decode cX7_drawQubits 15 = .ok (.getfield 67, 3) := by decide +kernel
theorem dX7_drawQubits_18 : decode cX7_drawQubits 18 = .ok (.getfield 73, 3) := by decide +kernel
theorem dX7_drawQubits_21 : decode cX7_drawQubits 21 = .ok (.imul, 1) := by decide +kernel
theorem dX7_drawQubits_22 : decode cX7_drawQubits 22 = .ok (.iload_n 3, 1) := by decide +kernel
theorem dX7_drawQubits_23 : decode cX7_drawQubits 23 = .ok (.iadd, 1) := by decide +kernel
theorem dX7_drawQubits_24 : decode cX7_drawQubits 24 = .ok (.istore 4, 2) := by decide +kernel
theorem dX7_drawQubits_26 : decode cX7_drawQubits 26 = .ok (.aload_n 1, 1) := by decide +kernel
theorem dX7_drawQubits_27 : decode cX7_drawQubits 27 = .ok (.getfield 109, 3) := by decide +kernel
theorem dX7_drawQubits_30 : decode cX7_drawQubits 30 = .ok (.iconst 0, 1) := by decide +kernel
theorem dX7_drawQubits_31 : decode cX7_drawQubits 31 = .ok (.iaload, 1) := by decide +kernel
theorem dX7_drawQubits_32 : decode cX7_drawQubits 32 = .ok (.iload 4, 2) := by decide +kernel
theorem dX7_drawQubits_34 : decode cX7_drawQubits 34 = .ok (.ishr, 1) := by decide +kernel
theorem dX7_drawQubits_35 : decode cX7_drawQubits 35 = .ok (.iconst 1, 1) := by decide +kernel
theorem dX7_drawQubits_36 : decode cX7_drawQubits 36 = .ok (.iand, 1) := by decide +kernel
theorem dX7_drawQubits_37 : decode cX7_drawQubits 37 = .ok (.istore 5, 2) := by decide +kernel
theorem dX7_drawQubits_39 : decode cX7_drawQubits 39 = .ok (.aload_n 1, 1) := by decide +kernel
theorem dX7_drawQubits_40 : decode cX7_drawQubits 40 = .ok (.getfield 109, 3) := by decide +kernel
theorem dX7_drawQubits_43 : decode cX7_drawQubits 43 = .ok (.iconst 1, 1) := by decide +kernel
theorem dX7_drawQubits_44 : decode cX7_drawQubits 44 = .ok (.iaload, 1) := by decide +kernel
theorem dX7_drawQubits_45 : decode cX7_drawQubits 45 = .ok (.iload 4, 2) := by decide +kernel
theorem dX7_drawQubits_47 : decode cX7_drawQubits 47 = .ok (.ishr, 1) := by decide +kernel
theorem dX7_drawQubits_48 : decode cX7_drawQubits 48 = .ok (.iconst 1, 1) := by decide +kernel
theorem dX7_drawQubits_49 : decode cX7_drawQubits 49 = .ok (.iand, 1) := by decide +kernel
theorem dX7_drawQubits_50 : decode cX7_drawQubits 50 = .ok (.istore 6, 2) := by decide +kernel
theorem dX7_drawQubits_52 : decode cX7_drawQubits 52 = .ok (.iload 5, 2) := by decide +kernel
theorem dX7_drawQubits_54 : decode cX7_drawQubits 54 = .ok (.iconst 1, 1) := by decide +kernel
theorem dX7_drawQubits_55 : decode cX7_drawQubits 55 = .ok (.if_icmp .ne 8, 3) := by decide +kernel
theorem dX7_drawQubits_58 : decode cX7_drawQubits 58 = .ok (.bipush 43, 2) := by decide +kernel
theorem dX7_drawQubits_60 : decode cX7_drawQubits 60 = .ok (.goto 5, 3) := by decide +kernel
theorem dX7_drawQubits_63 : decode cX7_drawQubits 63 = .ok (.bipush 46, 2) := by decide +kernel
theorem dX7_drawQubits_65 : decode cX7_drawQubits 65 = .ok (.istore 7, 2) := by decide +kernel
theorem dX7_drawQubits_67 : decode cX7_drawQubits 67 = .ok (.iload 6, 2) := by decide +kernel
theorem dX7_drawQubits_69 : decode cX7_drawQubits 69 = .ok (.iconst 1, 1) := by decide +kernel
theorem dX7_drawQubits_70 : decode cX7_drawQubits 70 = .ok (.if_icmp .ne 18, 3) := by decide +kernel
theorem dX7_drawQubits_73 : decode cX7_drawQubits 73 = .ok (.iload 5, 2) := by decide +kernel
theorem dX7_drawQubits_75 : decode cX7_drawQubits 75 = .ok (.iconst 1, 1) := by decide +kernel
theorem dX7_drawQubits_76 : decode cX7_drawQubits 76 = .ok (.if_icmp .ne 8, 3) := by decide +kernel
theorem dX7_drawQubits_79 : decode cX7_drawQubits 79 = .ok (.bipush 42, 2) := by decide +kernel
theorem dX7_drawQubits_81 : decode cX7_drawQubits 81 = .ok (.goto 5, 3) := by decide +kernel
theorem dX7_drawQubits_84 : decode cX7_drawQubits 84 = .ok (.bipush 45, 2) := by decide +kernel
theorem dX7_drawQubits_86 : decode cX7_drawQubits 86 = .ok (.istore 7, 2) := by decide +kernel
theorem dX7_drawQubits_88 : decode cX7_drawQubits 88 = .ok (.aload_n 0, 1) := by decide +kernel
theorem dX7_drawQubits_89 : decode cX7_drawQubits 89 = .ok (.getfield 21, 3) := by decide +kernel
theorem dX7_drawQubits_92 : decode cX7_drawQubits 92 = .ok (.iconst 2, 1) := by decide +kernel
theorem dX7_drawQubits_93 : decode cX7_drawQubits 93 = .ok (.iload_n 3, 1) := by decide +kernel
theorem dX7_drawQubits_94 : decode cX7_drawQubits 94 = .ok (.imul, 1) := by decide +kernel
theorem dX7_drawQubits_95 : decode cX7_drawQubits 95 = .ok (.iconst 1, 1) := by decide +kernel
theorem dX7_drawQubits_96 : decode cX7_drawQubits 96 = .ok (.iadd, 1) := by decide +kernel
theorem dX7_drawQubits_97 : decode cX7_drawQubits 97 = .ok (.iload 7, 2) := by decide +kernel
theorem dX7_drawQubits_99 : decode cX7_drawQubits 99 = .ok (.iastore, 1) := by decide +kernel
theorem dX7_drawQubits_100 : decode cX7_drawQubits 100 = .ok (.iinc 3 1, 3) := by decide +kernel
theorem dX7_drawQubits_103 : decode cX7_drawQubits 103 = .ok (.goto (-101), 3) := by decide +kernel
theorem dX7_drawQubits_106 : decode cX7_drawQubits 106 = .ok (.return_, 1) := by decide +kernel
theorem dX8_init_0 : decode cX8_init 0 = .ok (.aload_n 0, 1) := by decide +kernel
theorem dX8_init_1 : decode cX8_init 1 = .ok (.invokespecial 5, 3) := by decide +kernel
theorem dX8_init_4 : decode cX8_init 4 = .ok (.aload_n 0, 1) := by decide +kernel
theorem dX8_init_5 : decode cX8_init 5 = .ok (.sipush 256, 3) := by decide +kernel
theorem dX8_init_8 : decode cX8_init 8 = .ok (.newarray .int, 2) := by decide +kernel
theorem dX8_init_10 : decode cX8_init 10 = .ok (.putfield 13, 3) := by decide +kernel
theorem dX8_init_13 : decode cX8_init 13 = .ok (.aload_n 0, 1) := by decide +kernel
theorem dX8_init_14 : decode cX8_init 14 = .ok (.bipush 109, 2) := by decide +kernel
theorem dX8_init_16 : decode cX8_init 16 = .ok (.newarray .int, 2) := by decide +kernel
theorem dX8_init_18 : decode cX8_init 18 = .ok (.putfield 17, 3) := by decide +kernel
theorem dX8_init_21 : decode cX8_init 21 = .ok (.aload_n 0, 1) := by decide +kernel
theorem dX8_init_22 : decode cX8_init 22 = .ok (.sipush 256, 3) := by decide +kernel
theorem dX8_init_25 : decode cX8_init 25 = .ok (.newarray .int, 2) := by decide +kernel
theorem dX8_init_27 : decode cX8_init 27 = .ok (.putfield 20, 3) := by decide +kernel
theorem dX8_init_30 : decode cX8_init 30 = .ok (.aload_n 0, 1) := by decide +kernel
theorem dX8_init_31 : decode cX8_init 31 = .ok (.sipush 969, 3) := by decide +kernel
theorem dX8_init_34 : decode cX8_init 34 = .ok (.newarray .int, 2) := by decide +kernel
theorem dX8_init_36 : decode cX8_init 36 = .ok (.putfield 23, 3) := by decide +kernel
theorem dX8_init_39 : decode cX8_init 39 = .ok (.aload_n 0, 1) := by decide +kernel
theorem dX8_init_40 : decode cX8_init 40 = .ok (.sipush 969, 3) := by decide +kernel
theorem dX8_init_43 : decode cX8_init 43 = .ok (.newarray .int, 2) := by decide +kernel
theorem dX8_init_45 : decode cX8_init 45 = .ok (.putfield 26, 3) := by decide +kernel
theorem dX8_init_48 : decode cX8_init 48 = .ok (.return_, 1) := by decide +kernel
theorem dX8_seek_0 : decode cX8_seek 0 = .ok (.aload_n 0, 1) := by decide +kernel
theorem dX8_seek_1 : decode cX8_seek 1 = .ok (.aload_n 1, 1) := by decide +kernel
theorem dX8_seek_2 : decode cX8_seek 2 = .ok (.iload_n 3, 1) := by decide +kernel
theorem dX8_seek_3 : decode cX8_seek 3 = .ok (.aload_n 0, 1) := by decide +kernel
theorem dX8_seek_4 : decode cX8_seek 4 = .ok (.getfield 17, 3) := by decide +kernel
theorem dX8_seek_7 : decode cX8_seek 7 = .ok (.invokevirtual 29, 3) := by decide +kernel
theorem dX8_seek_10 : decode cX8_seek 10 = .ok (.aload_n 0, 1) := by decide +kernel
theorem dX8_seek_11 : decode cX8_seek 11 = .ok (.aload_n 0, 1) := by decide +kernel
theorem dX8_seek_12 : decode cX8_seek 12 = .ok (.getfield 17, 3) := by decide +kernel
theorem dX8_seek_15 : decode cX8_seek 15 = .ok (.iload_n 2, 1) := by decide +kernel
theorem dX8_seek_16 : decode cX8_seek 16 = .ok (.iaload, 1) := by decide +kernel
theorem dX8_seek_17 : decode cX8_seek 17 = .ok (.putfield 33, 3) := by decide +kernel
theorem dX8_seek_20 : decode cX8_seek 20 = .ok (.aload_n 0, 1) := by decide +kernel
theorem dX8_seek_21 : decode cX8_seek 21 = .ok (.aload_n 1, 1) := by decide +kernel
theorem dX8_seek_22 : decode cX8_seek 22 = .ok (.iload_n 2, 1) := by decide +kernel
theorem dX8_seek_23 : decode cX8_seek 23 = .ok (.iload_n 3, 1) := by decide +kernel
theorem dX8_seek_24 : decode cX8_seek 24 = .ok (.aload_n 0, 1) := by decide +kernel
theorem dX8_seek_25 : decode cX8_seek 25 = .ok (.getfield 17, 3) := by decide +kernel
theorem dX8_seek_28 : decode cX8_seek 28 = .ok (.invokevirtual 37, 3) := by decide +kernel
theorem dX8_seek_31 : decode cX8_seek 31 = .ok (.return_, 1) := by decide +kernel
theorem dX8_measure_0 : decode cX8_measure 0 = .ok (.aload_n 3, 1) := by decide +kernel
theorem dX8_measure_1 : decode cX8_measure 1 = .ok (.sipush 256, 3) := by decide +kernel
theorem dX8_measure_4 : decode cX8_measure 4 = .ok (.invokestatic 41, 3) := by decide +kernel
theorem dX8_measure_7 : decode cX8_measure 7 = .ok (.aload_n 0, 1) := by decide +kernel
theorem dX8_measure_8 : decode cX8_measure 8 = .ok (.getfield 20, 3) := by decide +kernel
theorem dX8_measure_11 : decode cX8_measure 11 = .ok (.iconst (-1), 1) := by decide +kernel
theorem dX8_measure_12 : decode cX8_measure 12 = .ok (.invokestatic 41, 3) := by decide +kernel
theorem dX8_measure_15 : decode cX8_measure 15 = .ok (.aload_n 0, 1) := by decide +kernel
theorem dX8_measure_16 : decode cX8_measure 16 = .ok (.iconst 0, 1) := by decide +kernel
theorem dX8_measure_17 : decode cX8_measure 17 = .ok (.putfield 47, 3) := by decide +kernel
theorem dX8_measure_20 : decode cX8_measure 20 = .ok (.iload_n 2, 1) := by decide +kernel
theorem dX8_measure_21 : decode cX8_measure 21 = .ok (.aload_n 1, 1) := by decide +kernel
theorem dX8_measure_22 : decode cX8_measure 22 = .ok (.getfield 50, 3) := by decide +kernel
theorem dX8_measure_25 : decode cX8_measure 25 = .ok (.if_icmp .ne 12, 3) := by decide +kernel
theorem dX8_measure_28 : decode cX8_measure 28 = .ok (.aload_n 0, 1) := by decide +kernel
theorem dX8_measure_29 : decode cX8_measure 29 = .ok (.aload_n 1, 1) := by decide +kernel
theorem dX8_measure_30 : decode cX8_measure 30 = .ok (.aload_n 3, 1) := by decide +kernel
theorem dX8_measure_31 : decode cX8_measure 31 = .ok (.invokevirtual 53, 3) := by decide +kernel
theorem dX8_measure_34 : decode cX8_measure 34 = .ok (.goto 10, 3) := by decide +kernel
theorem dX8_measure_37 : decode cX8_measure 37 = .ok (.aload_n 0, 1) := by decide +kernel
theorem dX8_measure_38 : decode cX8_measure 38 = .ok (.aload_n 3, 1) := by decide +kernel
theorem dX8_measure_39 : decode cX8_measure 39 = .ok (.iload_n 2, 1) := by decide +kernel
theorem dX8_measure_40 : decode cX8_measure 40 = .ok (.iconst 0, 1) := by decide +kernel
theorem dX8_measure_41 : decode cX8_measure 41 = .ok (.invokevirtual 57, 3) := by decide +kernel
theorem dX8_measure_44 : decode cX8_measure 44 = .ok (.iconst 0, 1) := by decide +kernel
theorem dX8_measure_45 : decode cX8_measure 45 = .ok (.istore 4, 2) := by decide +kernel
theorem dX8_measure_47 : decode cX8_measure 47 = .ok (.iconst 0, 1) := by decide +kernel
theorem dX8_measure_48 : decode cX8_measure 48 = .ok (.istore 5, 2) := by decide +kernel
theorem dX8_measure_50 : decode cX8_measure 50 = .ok (.iload 5, 2) := by decide +kernel
theorem dX8_measure_52 : decode cX8_measure 52 = .ok (.sipush 256, 3) := by decide +kernel
theorem dX8_measure_55 : decode cX8_measure 55 = .ok (.if_icmp .ge 89, 3) := by decide +kernel
theorem dX8_measure_58 : decode cX8_measure 58 = .ok (.iload 4, 2) := by decide +kernel
theorem dX8_measure_60 : decode cX8_measure 60 = .ok (.aload_n 0, 1) := by decide +kernel
theorem dX8_measure_61 : decode cX8_measure 61 = .ok (.getfield 47, 3) := by decide +kernel
theorem dX8_measure_64 : decode cX8_measure 64 = .ok (.if_icmp .ge 80, 3) := by decide +kernel
theorem dX8_measure_67 : decode cX8_measure 67 = .ok (.aload_n 0, 1) := by decide +kernel
theorem dX8_measure_68 : decode cX8_measure 68 = .ok (.getfield 20, 3) := by decide +kernel
theorem dX8_measure_71 : decode cX8_measure 71 = .ok (.iload 5, 2) := by decide +kernel
theorem dX8_measure_73 : decode cX8_measure 73 = .ok (.iaload, 1) := by decide +kernel
theorem dX8_measure_74 : decode cX8_measure 74 = .ok (.istore 6, 2) := by decide +kernel
theorem dX8_measure_76 : decode cX8_measure 76 = .ok (.iconst 0, 1) := by decide +kernel
theorem dX8_measure_77 : decode cX8_measure 77 = .ok (.istore 7, 2) := by decide +kernel
theorem dX8_measure_79 : decode cX8_measure 79 = .ok (.iload 7, 2) := by decide +kernel
theorem dX8_measure_81 : decode cX8_measure 81 = .ok (.sipush 969, 3) := by decide +kernel
theorem dX8_measure_84 : decode cX8_measure 84 = .ok (.if_icmp .ge 54, 3) := by decide +kernel
theorem dX8_measure_87 : decode cX8_measure 87 = .ok (.iload 6, 2) := by decide +kernel
theorem dX8_measure_89 : decode cX8_measure 89 = .ok (.iconst (-1), 1) := by decide +kernel
theorem dX8_measure_90 : decode cX8_measure 90 = .ok (.if_icmp .eq 48, 3) := by decide +kernel
theorem dX8_measure_93 : decode cX8_measure 93 = .ok (.iinc 4 1, 3) := by decide +kernel
theorem dX8_measure_96 : decode cX8_measure 96 = .ok (.aload_n 3, 1) := by decide +kernel
theorem dX8_measure_97 : decode cX8_measure 97 = .ok (.aload_n 0, 1) := by decide +kernel
theorem dX8_measure_98 : decode cX8_measure 98 = .ok (.getfield 23, 3) := by decide +kernel
theorem dX8_measure_101 : decode cX8_measure 101 = .ok (.iload 6, 2) := by decide +kernel
theorem dX8_measure_103 : decode cX8_measure 103 = .ok (.iaload, 1) := by decide +kernel
theorem dX8_measure_104 : decode cX8_measure 104 = .ok (.iaload, 1) := by decide +kernel
theorem dX8_measure_105 : decode cX8_measure 105 = .ok (.iload 5, 2) := by decide +kernel
theorem dX8_measure_107 : decode cX8_measure 107 = .ok (.if_icmp .ne 16, 3) := by decide +kernel
theorem dX8_measure_110 : decode cX8_measure 110 = .ok (.aload_n 0, 1) := by decide +kernel
theorem dX8_measure_111 : decode cX8_measure 111 = .ok (.aload_n 1, 1) := by decide +kernel
theorem dX8_measure_112 : decode cX8_measure 112 = .ok (.aload_n 3, 1) := by decide +kernel
theorem dX8_measure_113 : decode cX8_measure 113 = .ok (.aload_n 0, 1) := by decide +kernel
theorem dX8_measure_114 : decode cX8_measure 114 = .ok (.getfield 23, 3) := by decide +kernel
theorem dX8_measure_117 : decode cX8_measure 117 = .ok (.iload 6, 2) := by decide +kernel
theorem dX8_measure_119 : decode cX8_measure 119 = .ok (.iaload, 1) := by decide +kernel
theorem dX8_measure_120 : decode cX8_measure 120 = .ok (.invokevirtual 61, 3) := by decide +kernel
theorem dX8_measure_123 : decode cX8_measure 123 = .ok (.aload_n 0, 1) := by decide +kernel
theorem dX8_measure_124 : decode cX8_measure 124 = .ok (.getfield 26, 3) := by decide +kernel
theorem dX8_measure_127 : decode cX8_measure 127 = .ok (.iload 6, 2) := by decide +kernel
theorem dX8_measure_129 : decode cX8_measure 129 = .ok (.iaload, 1) := by decide +kernel
theorem dX8_measure_130 : decode cX8_measure 130 = .ok (.istore 6, 2) := by decide +kernel
theorem dX8_measure_132 : decode cX8_measure 132 = .ok (.iinc 7 1, 3) := by decide +kernel
theorem dX8_measure_135 : decode cX8_measure 135 = .ok (.goto (-56), 3) := by decide +kernel
theorem dX8_measure_138 : decode cX8_measure 138 = .ok (.iinc 5 1, 3) := by decide +kernel
theorem dX8_measure_141 : decode cX8_measure 141 = .ok (.goto (-91), 3) := by decide +kernel
theorem dX8_measure_144 : decode cX8_measure 144 = .ok (.return_, 1) := by decide +kernel
theorem dX8_offerFromBorder_0 : decode cX8_offerFromBorder 0 = .ok (.aload_n 2, 1) := by decide +kernel
theorem dX8_offerFromBorder_1 : decode cX8_offerFromBorder 1 = .ok (.aload_n 1, 1) := by decide +kernel
theorem dX8_offerFromBorder_2 : decode cX8_offerFromBorder 2 = .ok (.getfield 50, 3) := by decide +kernel
theorem dX8_offerFromBorder_5 : decode cX8_offerFromBorder 5 = .ok (.iconst 0, 1) := by decide +kernel
theorem dX8_offerFromBorder_6 : decode cX8_offerFromBorder 6 = .ok (.iastore, 1) := by decide +kernel
theorem dX8_offerFromBorder_7 : decode cX8_offerFromBorder 7 = .ok (.iconst 0, 1) := by decide +kernel
theorem dX8_offerFromBorder_8 : decode cX8_offerFromBorder 8 = .ok (.istore_n 3, 1) := by decide +kernel
theorem dX8_offerFromBorder_9 : decode cX8_offerFromBorder 9 = .ok (.iload_n 3, 1) := by decide +kernel
theorem dX8_offerFromBorder_10 : decode cX8_offerFromBorder 10 = .ok (.aload_n 1, 1) := by decide +kernel
theorem dX8_offerFromBorder_11 : decode cX8_offerFromBorder 11 = .ok (.getfield 65, 3) := by decide +kernel
theorem dX8_offerFromBorder_14 : decode cX8_offerFromBorder 14 = .ok (.if_icmp .ge 39, 3) := by decide +kernel
theorem dX8_offerFromBorder_17 : decode cX8_offerFromBorder 17 = .ok (.aload_n 1, 1) := by decide +kernel
theorem dX8_offerFromBorder_18 : decode cX8_offerFromBorder 18 = .ok (.getfield 68, 3) := by decide +kernel
theorem dX8_offerFromBorder_21 : decode cX8_offerFromBorder 21 = .ok (.iload_n 3, 1) := by decide +kernel
theorem dX8_offerFromBorder_22 : decode cX8_offerFromBorder 22 = .ok (.iaload, 1) := by decide +kernel
theorem dX8_offerFromBorder_23 : decode cX8_offerFromBorder 23 = .ok (.aload_n 1, 1) := by decide +kernel
theorem dX8_offerFromBorder_24 : decode cX8_offerFromBorder 24 = .ok (.getfield 50, 3) := by decide +kernel
theorem dX8_offerFromBorder_27 : decode cX8_offerFromBorder 27 = .ok (.if_icmp .ne 20, 3) := by decide +kernel
theorem dX8_offerFromBorder_30 : decode cX8_offerFromBorder 30 = .ok (.aload_n 0, 1) := by decide +kernel
theorem dX8_offerFromBorder_31 : decode cX8_offerFromBorder 31 = .ok (.aload_n 2, 1) := by decide +kernel
theorem dX8_offerFromBorder_32 : decode cX8_offerFromBorder 32 = .ok (.aload_n 1, 1) := by decide +kernel
theorem dX8_offerFromBorder_33 : decode cX8_offerFromBorder 33 = .ok (.getfield 71, 3) := by decide +kernel
theorem dX8_offerFromBorder_36 : decode cX8_offerFromBorder 36 = .ok (.iload_n 3, 1) := by decide +kernel
theorem dX8_offerFromBorder_37 : decode cX8_offerFromBorder 37 = .ok (.iaload, 1) := by decide +kernel
theorem dX8_offerFromBorder_38 : decode cX8_offerFromBorder 38 = .ok (.aload_n 1, 1) := by decide +kernel
theorem dX8_offerFromBorder_39 : decode cX8_offerFromBorder 39 = .ok (.getfield 74, 3) := by decide +kernel
theorem dX8_offerFromBorder_42 : decode cX8_offerFromBorder 42 = .ok (.iload_n 3, 1) := by decide +kernel
theorem dX8_offerFromBorder_43 : decode cX8_offerFromBorder 43 = .ok (.iaload, 1) := by decide +kernel
theorem dX8_offerFromBorder_44 : decode cX8_offerFromBorder 44 = .ok (.invokevirtual 57, 3) := by decide +kernel
theorem dX8_offerFromBorder_47 : decode cX8_offerFromBorder 47 = .ok (.iinc 3 1, 3) := by decide +kernel
theorem dX8_offerFromBorder_50 : decode cX8_offerFromBorder 50 = .ok (.goto (-41), 3) := by decide +kernel
theorem dX8_offerFromBorder_53 : decode cX8_offerFromBorder 53 = .ok (.return_, 1) := by decide +kernel
theorem dX8_offerFrom_0 : decode cX8_offerFrom 0 = .ok (.iconst 0, 1) := by decide +kernel
theorem dX8_offerFrom_1 : decode cX8_offerFrom 1 = .ok (.istore 4, 2) := by decide +kernel
theorem dX8_offerFrom_3 : decode cX8_offerFrom 3 = .ok (.iload 4, 2) := by decide +kernel
theorem dX8_offerFrom_5 : decode cX8_offerFrom 5 = .ok (.aload_n 1, 1) := by decide +kernel
theorem dX8_offerFrom_6 : decode cX8_offerFrom 6 = .ok (.getfield 76, 3) := by decide +kernel
theorem dX8_offerFrom_9 : decode cX8_offerFrom 9 = .ok (.iload_n 3, 1) := by decide +kernel
theorem dX8_offerFrom_10 : decode cX8_offerFrom 10 = .ok (.iaload, 1) := by decide +kernel
theorem dX8_offerFrom_11 : decode cX8_offerFrom 11 = .ok (.if_icmp .ge 54, 3) := by decide +kernel
theorem dX8_offerFrom_14 : decode cX8_offerFrom 14 = .ok (.aload_n 1, 1) := by decide +kernel
theorem dX8_offerFrom_15 : decode cX8_offerFrom 15 = .ok (.iload_n 3, 1) := by decide +kernel
theorem dX8_offerFrom_16 : decode cX8_offerFrom 16 = .ok (.iload 4, 2) := by decide +kernel
theorem dX8_offerFrom_18 : decode cX8_offerFrom 18 = .ok (.invokevirtual 79, 3) := by decide +kernel
theorem dX8_offerFrom_21 : decode cX8_offerFrom 21 = .ok (.istore 5, 2) := by decide +kernel
theorem dX8_offerFrom_23 : decode cX8_offerFrom 23 = .ok (.aload_n 1, 1) := by decide +kernel
theorem dX8_offerFrom_24 : decode cX8_offerFrom 24 = .ok (.iload 5, 2) := by decide +kernel
theorem dX8_offerFrom_26 : decode cX8_offerFrom 26 = .ok (.iload_n 3, 1) := by decide +kernel
theorem dX8_offerFrom_27 : decode cX8_offerFrom 27 = .ok (.invokevirtual 83, 3) := by decide +kernel
theorem dX8_offerFrom_30 : decode cX8_offerFrom 30 = .ok (.istore 6, 2) := by decide +kernel
theorem dX8_offerFrom_32 : decode cX8_offerFrom 32 = .ok (.iload 6, 2) := by decide +kernel
theorem dX8_offerFrom_34 : decode cX8_offerFrom 34 = .ok (.aload_n 1, 1) := by decide +kernel
theorem dX8_offerFrom_35 : decode cX8_offerFrom 35 = .ok (.getfield 50, 3) := by decide +kernel
theorem dX8_offerFrom_38 : decode cX8_offerFrom 38 = .ok (.if_icmp .eq 21, 3) := by decide +kernel
theorem dX8_offerFrom_41 : decode cX8_offerFrom 41 = .ok (.aload_n 0, 1) := by decide +kernel
theorem dX8_offerFrom_42 : decode cX8_offerFrom 42 = .ok (.aload_n 2, 1) := by decide +kernel
theorem dX8_offerFrom_43 : decode cX8_offerFrom 43 = .ok (.iload 6, 2) := by decide +kernel
theorem dX8_offerFrom_45 : decode cX8_offerFrom 45 = .ok (.aload_n 2, 1) := by decide +kernel
theorem dX8_offerFrom_46 : decode cX8_offerFrom 46 = .ok (.iload_n 3, 1) := by decide +kernel
theorem dX8_offerFrom_47 : decode cX8_offerFrom 47 = .ok (.iaload, 1) := by decide +kernel
theorem dX8_offerFrom_48 : decode cX8_offerFrom 48 = .ok (.aload_n 1, 1) := by decide +kernel
theorem dX8_offerFrom_49 : decode cX8_offerFrom 49 = .ok (.getfield 74, 3) := by decide +kernel
theorem dX8_offerFrom_52 : decode cX8_offerFrom 52 = .ok (.iload 5, 2) := by decide +kernel
theorem dX8_offerFrom_54 : decode cX8_offerFrom 54 = .ok (.iaload, 1) := by decide +kernel
theorem dX8_offerFrom_55 : decode cX8_offerFrom 55 = .ok (.iadd, 1) := by decide +kernel
theorem dX8_offerFrom_56 : decode cX8_offerFrom 56 = .ok (.invokevirtual 57, 3) := by decide +kernel
theorem dX8_offerFrom_59 : decode cX8_offerFrom 59 = .ok (.iinc 4 1, 3) := by decide +kernel
theorem dX8_offerFrom_62 : decode cX8_offerFrom 62 = .ok (.goto (-59), 3) := by decide +kernel
theorem dX8_offerFrom_65 : decode cX8_offerFrom 65 = .ok (.return_, 1) := by decide +kernel
theorem dX8_offer_0 : decode cX8_offer 0 = .ok (.iload_n 3, 1) := by decide +kernel
theorem dX8_offer_1 : decode cX8_offer 1 = .ok (.aload_n 1, 1) := by decide +kernel
theorem dX8_offer_2 : decode cX8_offer 2 = .ok (.iload_n 2, 1) := by decide +kernel
theorem dX8_offer_3 : decode cX8_offer 3 = .ok (.iaload, 1) := by decide +kernel
theorem dX8_offer_4 : decode cX8_offer 4 = .ok (.if_icmp .ge 20, 3) := by decide +kernel
theorem dX8_offer_7 : decode cX8_offer 7 = .ok (.iload_n 3, 1) := by decide +kernel
theorem dX8_offer_8 : decode cX8_offer 8 = .ok (.sipush 256, 3) := by decide +kernel
theorem dX8_offer_11 : decode cX8_offer 11 = .ok (.if_icmp .ge 13, 3) := by decide +kernel
theorem dX8_offer_14 : decode cX8_offer 14 = .ok (.aload_n 0, 1) := by decide +kernel
theorem dX8_offer_15 : decode cX8_offer 15 = .ok (.getfield 47, 3) := by decide +kernel
theorem dX8_offer_18 : decode cX8_offer 18 = .ok (.sipush 969, 3) := by decide +kernel
theorem dX8_offer_21 : decode cX8_offer 21 = .ok (.if_icmp .lt 4, 3) := by decide +kernel
theorem dX8_offer_24 : decode cX8_offer 24 = .ok (.return_, 1) := by decide +kernel
theorem dX8_offer_25 : decode cX8_offer 25 = .ok (.aload_n 1, 1) := by decide +kernel
theorem dX8_offer_26 : decode cX8_offer 26 = .ok (.iload_n 2, 1) := by decide +kernel
theorem dX8_offer_27 : decode cX8_offer 27 = .ok (.iload_n 3, 1) := by decide +kernel
theorem dX8_offer_28 : decode cX8_offer 28 = .ok (.iastore, 1) := by decide +kernel
theorem dX8_offer_29 : decode cX8_offer 29 = .ok (.aload_n 0, 1) := by decide +kernel
theorem dX8_offer_30 : decode cX8_offer 30 = .ok (.getfield 23, 3) := by decide +kernel
theorem dX8_offer_33 : decode cX8_offer 33 = .ok (.aload_n 0, 1) := by decide +kernel
theorem dX8_offer_34 : decode cX8_offer 34 = .ok (.getfield 47, 3) := by decide +kernel
theorem dX8_offer_37 : decode cX8_offer 37 = .ok (.iload_n 2, 1) := by decide +kernel
theorem dX8_offer_38 : decode cX8_offer 38 = .ok (.iastore, 1) := by decide +kernel
theorem dX8_offer_39 : decode cX8_offer 39 = .ok (.aload_n 0, 1) := by decide +kernel
theorem dX8_offer_40 : decode cX8_offer 40 = .ok (.getfield 26, 3) := by decide +kernel
theorem dX8_offer_43 : decode cX8_offer 43 = .ok (.aload_n 0, 1) := by decide +kernel
theorem dX8_offer_44 : decode cX8_offer 44 = .ok (.getfield 47, 3) := by decide +kernel
theorem dX8_offer_47 : decode cX8_offer 47 = .ok (.aload_n 0, 1) := by decide +kernel
theorem dX8_offer_48 : decode cX8_offer 48 = .ok (.getfield 20, 3) := by decide +kernel
theorem dX8_offer_51 : decode cX8_offer 51 = .ok (.iload_n 3, 1) := by decide +kernel
theorem dX8_offer_52 : decode cX8_offer 52 = .ok (.iaload, 1) := by decide +kernel
theorem dX8_offer_53 : decode cX8_offer 53 = .ok (.iastore, 1) := by decide +kernel
theorem dX8_offer_54 : decode cX8_offer 54 = .ok (.aload_n 0, 1) := by decide +kernel
theorem dX8_offer_55 : decode cX8_offer 55 = .ok (.getfield 20, 3) := by decide +kernel
theorem dX8_offer_58 : decode cX8_offer 58 = .ok (.iload_n 3, 1) := by decide +kernel
theorem dX8_offer_59 : decode cX8_offer 59 = .ok (.aload_n 0, 1) := by decide +kernel
theorem dX8_offer_60 : decode cX8_offer 60 = .ok (.getfield 47, 3) := by decide +kernel
theorem dX8_offer_63 : decode cX8_offer 63 = .ok (.iastore, 1) := by decide +kernel
theorem dX8_offer_64 : decode cX8_offer 64 = .ok (.aload_n 0, 1) := by decide +kernel
theorem dX8_offer_65 : decode cX8_offer 65 = .ok (.dup, 1) := by decide +kernel
theorem dX8_offer_66 : decode cX8_offer 66 = .ok (.getfield 47, 3) := by decide +kernel
theorem dX8_offer_69 : decode cX8_offer 69 = .ok (.iconst 1, 1) := by decide +kernel
theorem dX8_offer_70 : decode cX8_offer 70 = .ok (.iadd, 1) := by decide +kernel
theorem dX8_offer_71 : decode cX8_offer 71 = .ok (.putfield 47, 3) := by decide +kernel
theorem dX8_offer_74 : decode cX8_offer 74 = .ok (.return_, 1) := by decide +kernel
theorem dX8_walk_0 : decode cX8_walk 0 = .ok (.aload_n 0, 1) := by decide +kernel
theorem dX8_walk_1 : decode cX8_walk 1 = .ok (.iconst 0, 1) := by decide +kernel
theorem dX8_walk_2 : decode cX8_walk 2 = .ok (.putfield 86, 3) := by decide +kernel
theorem dX8_walk_5 : decode cX8_walk 5 = .ok (.iload_n 2, 1) := by decide +kernel
theorem dX8_walk_6 : decode cX8_walk 6 = .ok (.istore 5, 2) := by decide +kernel
theorem dX8_walk_8 : decode cX8_walk 8 = .ok (.iconst 0, 1) := by decide +kernel
theorem dX8_walk_9 : decode cX8_walk 9 = .ok (.istore 6, 2) := by decide +kernel
theorem dX8_walk_11 : decode cX8_walk 11 = .ok (.iload 6, 2) := by decide +kernel
theorem dX8_walk_13 : decode cX8_walk 13 = .ok (.sipush 256, 3) := by decide +kernel
theorem dX8_walk_16 : decode cX8_walk 16 = .ok (.if_icmp .ge 63, 3) := by decide +kernel
theorem dX8_walk_19 : decode cX8_walk 19 = .ok (.iload 5, 2) := by decide +kernel
theorem dX8_walk_21 : decode cX8_walk 21 = .ok (.iload_n 3, 1) := by decide +kernel
theorem dX8_walk_22 : decode cX8_walk 22 = .ok (.if_icmp .eq 57, 3) := by decide +kernel
theorem dX8_walk_25 : decode cX8_walk 25 = .ok (.aload_n 1, 1) := by decide +kernel
theorem dX8_walk_26 : decode cX8_walk 26 = .ok (.iload 5, 2) := by decide +kernel
theorem dX8_walk_28 : decode cX8_walk 28 = .ok (.aload 4, 2) := by decide +kernel
theorem dX8_walk_30 : decode cX8_walk 30 = .ok (.invokestatic 89, 3) := by decide +kernel
theorem dX8_walk_33 : decode cX8_walk 33 = .ok (.istore 7, 2) := by decide +kernel
theorem dX8_walk_35 : decode cX8_walk 35 = .ok (.iload 7, 2) := by decide +kernel
theorem dX8_walk_37 : decode cX8_walk 37 = .ok (.iconst (-1), 1) := by decide +kernel
theorem dX8_walk_38 : decode cX8_walk 38 = .ok (.if_icmp .ne 4, 3) := by decide +kernel
theorem dX8_walk_41 : decode cX8_walk 41 = .ok (.return_, 1) := by decide +kernel
theorem dX8_walk_42 : decode cX8_walk 42 = .ok (.aload_n 0, 1) := by decide +kernel
theorem dX8_walk_43 : decode cX8_walk 43 = .ok (.getfield 13, 3) := by decide +kernel
theorem dX8_walk_46 : decode cX8_walk 46 = .ok (.aload_n 0, 1) := by decide +kernel
theorem dX8_walk_47 : decode cX8_walk 47 = .ok (.getfield 86, 3) := by decide +kernel
theorem dX8_walk_50 : decode cX8_walk 50 = .ok (.iload 7, 2) := by decide +kernel
theorem dX8_walk_52 : decode cX8_walk 52 = .ok (.iastore, 1) := by decide +kernel
theorem dX8_walk_53 : decode cX8_walk 53 = .ok (.aload_n 0, 1) := by decide +kernel
theorem dX8_walk_54 : decode cX8_walk 54 = .ok (.dup, 1) := by decide +kernel
theorem dX8_walk_55 : decode cX8_walk 55 = .ok (.getfield 86, 3) := by decide +kernel
theorem dX8_walk_58 : decode cX8_walk 58 = .ok (.iconst 1, 1) := by decide +kernel
theorem dX8_walk_59 : decode cX8_walk 59 = .ok (.iadd, 1) := by decide +kernel
theorem dX8_walk_60 : decode cX8_walk 60 = .ok (.putfield 86, 3) := by decide +kernel
theorem dX8_walk_63 : decode cX8_walk 63 = .ok (.aload_n 1, 1) := by decide +kernel
theorem dX8_walk_64 : decode cX8_walk 64 = .ok (.iload 7, 2) := by decide +kernel
theorem dX8_walk_66 : decode cX8_walk 66 = .ok (.iload 5, 2) := by decide +kernel
theorem dX8_walk_68 : decode cX8_walk 68 = .ok (.invokevirtual 83, 3) := by decide +kernel
theorem dX8_walk_71 : decode cX8_walk 71 = .ok (.istore 5, 2) := by decide +kernel
theorem dX8_walk_73 : decode cX8_walk 73 = .ok (.iinc 6 1, 3) := by decide +kernel
theorem dX8_walk_76 : decode cX8_walk 76 = .ok (.goto (-65), 3) := by decide +kernel
theorem dX8_walk_79 : decode cX8_walk 79 = .ok (.return_, 1) := by decide +kernel
theorem dX8_edgeFrom_0 : decode cX8_edgeFrom 0 = .ok (.iconst 0, 1) := by decide +kernel
theorem dX8_edgeFrom_1 : decode cX8_edgeFrom 1 = .ok (.istore_n 3, 1) := by decide +kernel
theorem dX8_edgeFrom_2 : decode cX8_edgeFrom 2 = .ok (.iload_n 3, 1) := by decide +kernel
theorem dX8_edgeFrom_3 : decode cX8_edgeFrom 3 = .ok (.aload_n 0, 1) := by decide +kernel
theorem dX8_edgeFrom_4 : decode cX8_edgeFrom 4 = .ok (.getfield 76, 3) := by decide +kernel
theorem dX8_edgeFrom_7 : decode cX8_edgeFrom 7 = .ok (.iload_n 1, 1) := by decide +kernel
theorem dX8_edgeFrom_8 : decode cX8_edgeFrom 8 = .ok (.iaload, 1) := by decide +kernel
theorem dX8_edgeFrom_9 : decode cX8_edgeFrom 9 = .ok (.if_icmp .ge 43, 3) := by decide +kernel
theorem dX8_edgeFrom_12 : decode cX8_edgeFrom 12 = .ok (.aload_n 0, 1) := by decide +kernel
theorem dX8_edgeFrom_13 : decode cX8_edgeFrom 13 = .ok (.iload_n 1, 1) := by decide +kernel
theorem dX8_edgeFrom_14 : decode cX8_edgeFrom 14 = .ok (.iload_n 3, 1) := by decide +kernel
theorem dX8_edgeFrom_15 : decode cX8_edgeFrom 15 = .ok (.invokevirtual 79, 3) := by decide +kernel
theorem dX8_edgeFrom_18 : decode cX8_edgeFrom 18 = .ok (.istore 4, 2) := by decide +kernel
theorem dX8_edgeFrom_20 : decode cX8_edgeFrom 20 = .ok (.aload_n 2, 1) := by decide +kernel
theorem dX8_edgeFrom_21 : decode cX8_edgeFrom 21 = .ok (.aload_n 0, 1) := by decide +kernel
theorem dX8_edgeFrom_22 : decode cX8_edgeFrom 22 = .ok (.iload 4, 2) := by decide +kernel
theorem dX8_edgeFrom_24 : decode cX8_edgeFrom 24 = .ok (.iload_n 1, 1) := by decide +kernel
theorem dX8_edgeFrom_25 : decode cX8_edgeFrom 25 = .ok (.invokevirtual 83, 3) := by decide +kernel
theorem dX8_edgeFrom_28 : decode cX8_edgeFrom 28 = .ok (.iaload, 1) := by decide +kernel
theorem dX8_edgeFrom_29 : decode cX8_edgeFrom 29 = .ok (.aload_n 0, 1) := by decide +kernel
theorem dX8_edgeFrom_30 : decode cX8_edgeFrom 30 = .ok (.getfield 74, 3) := by decide +kernel
theorem dX8_edgeFrom_33 : decode cX8_edgeFrom 33 = .ok (.iload 4, 2) := by decide +kernel
theorem dX8_edgeFrom_35 : decode cX8_edgeFrom 35 = .ok (.iaload, 1) := by decide +kernel
theorem dX8_edgeFrom_36 : decode cX8_edgeFrom 36 = .ok (.iadd, 1) := by decide +kernel
theorem dX8_edgeFrom_37 : decode cX8_edgeFrom 37 = .ok (.aload_n 2, 1) := by decide +kernel
theorem dX8_edgeFrom_38 : decode cX8_edgeFrom 38 = .ok (.iload_n 1, 1) := by decide +kernel
theorem dX8_edgeFrom_39 : decode cX8_edgeFrom 39 = .ok (.iaload, 1) := by decide +kernel
theorem dX8_edgeFrom_40 : decode cX8_edgeFrom 40 = .ok (.if_icmp .ne 6, 3) := by decide +kernel
theorem dX8_edgeFrom_43 : decode cX8_edgeFrom 43 = .ok (.iload 4, 2) := by decide +kernel
theorem dX8_edgeFrom_45 : decode cX8_edgeFrom 45 = .ok (.ireturn, 1) := by decide +kernel
theorem dX8_edgeFrom_46 : decode cX8_edgeFrom 46 = .ok (.iinc 3 1, 3) := by decide +kernel
theorem dX8_edgeFrom_49 : decode cX8_edgeFrom 49 = .ok (.goto (-47), 3) := by decide +kernel
theorem dX8_edgeFrom_52 : decode cX8_edgeFrom 52 = .ok (.iconst (-1), 1) := by decide +kernel
theorem dX8_edgeFrom_53 : decode cX8_edgeFrom 53 = .ok (.ireturn, 1) := by decide +kernel
theorem dX9_init_0 : decode cX9_init 0 = .ok (.aload_n 0, 1) := by decide +kernel
theorem dX9_init_1 : decode cX9_init 1 = .ok (.invokespecial 3, 3) := by decide +kernel
theorem dX9_init_4 : decode cX9_init 4 = .ok (.aload_n 0, 1) := by decide +kernel
theorem dX9_init_5 : decode cX9_init 5 = .ok (.iconst 2, 1) := by decide +kernel
theorem dX9_init_6 : decode cX9_init 6 = .ok (.bipush 12, 2) := by decide +kernel
theorem dX9_init_8 : decode cX9_init 8 = .ok (.multianewarray 9 2, 4) := by decide +kernel
theorem dX9_init_12 : decode cX9_init 12 = .ok (.putfield 11, 3) := by decide +kernel
theorem dX9_init_15 : decode cX9_init 15 = .ok (.aload_n 0, 1) := by decide +kernel
theorem dX9_init_16 : decode cX9_init 16 = .ok (.iconst 2, 1) := by decide +kernel
theorem dX9_init_17 : decode cX9_init 17 = .ok (.bipush 12, 2) := by decide +kernel
theorem dX9_init_19 : decode cX9_init 19 = .ok (.multianewarray 9 2, 4) := by decide +kernel
theorem dX9_init_23 : decode cX9_init 23 = .ok (.putfield 16, 3) := by decide +kernel
theorem dX9_init_26 : decode cX9_init 26 = .ok (.aload_n 0, 1) := by decide +kernel
theorem dX9_init_27 : decode cX9_init 27 = .ok (.iconst 2, 1) := by decide +kernel
theorem dX9_init_28 : decode cX9_init 28 = .ok (.bipush 12, 2) := by decide +kernel
theorem dX9_init_30 : decode cX9_init 30 = .ok (.multianewarray 9 2, 4) := by decide +kernel
theorem dX9_init_34 : decode cX9_init 34 = .ok (.putfield 19, 3) := by decide +kernel
theorem dX9_init_37 : decode cX9_init 37 = .ok (.aload_n 0, 1) := by decide +kernel
theorem dX9_init_38 : decode cX9_init 38 = .ok (.iconst 2, 1) := by decide +kernel
theorem dX9_init_39 : decode cX9_init 39 = .ok (.bipush 25, 2) := by decide +kernel
theorem dX9_init_41 : decode cX9_init 41 = .ok (.multianewarray 9 2, 4) := by decide +kernel
theorem dX9_init_45 : decode cX9_init 45 = .ok (.putfield 22, 3) := by decide +kernel
theorem dX9_init_48 : decode cX9_init 48 = .ok (.aload_n 0, 1) := by decide +kernel
theorem dX9_init_49 : decode cX9_init 49 = .ok (.iconst 2, 1) := by decide +kernel
theorem dX9_init_50 : decode cX9_init 50 = .ok (.bipush 25, 2) := by decide +kernel
theorem dX9_init_52 : decode cX9_init 52 = .ok (.multianewarray 9 2, 4) := by decide +kernel
theorem dX9_init_56 : decode cX9_init 56 = .ok (.putfield 25, 3) := by decide +kernel
theorem dX9_init_59 : decode cX9_init 59 = .ok (.aload_n 0, 1) := by decide +kernel
theorem dX9_init_60 : decode cX9_init 60 = .ok (.iconst 2, 1) := by decide +kernel
theorem dX9_init_61 : decode cX9_init 61 = .ok (.newarray .int, 2) := by decide +kernel
theorem dX9_init_63 : decode cX9_init 63 = .ok (.putfield 28, 3) := by decide +kernel
theorem dX9_init_66 : decode cX9_init 66 = .ok (.aload_n 0, 1) := by decide +kernel
theorem dX9_init_67 : decode cX9_init 67 = .ok (.iconst 2, 1) := by decide +kernel
theorem dX9_init_68 : decode cX9_init 68 = .ok (.newarray .int, 2) := by decide +kernel
theorem dX9_init_70 : decode cX9_init 70 = .ok (.putfield 32, 3) := by decide +kernel
theorem dX9_init_73 : decode cX9_init 73 = .ok (.aload_n 0, 1) := by decide +kernel
theorem dX9_init_74 : decode cX9_init 74 = .ok (.iload_n 1, 1) := by decide +kernel
theorem dX9_init_75 : decode cX9_init 75 = .ok (.putfield 35, 3) := by decide +kernel
theorem dX9_init_78 : decode cX9_init 78 = .ok (.aload_n 0, 1) := by decide +kernel
theorem dX9_init_79 : decode cX9_init 79 = .ok (.iload_n 1, 1) := by decide +kernel
theorem dX9_init_80 : decode cX9_init 80 = .ok (.iload_n 1, 1) := by decide +kernel
theorem dX9_init_81 : decode cX9_init 81 = .ok (.imul, 1) := by decide +kernel
theorem dX9_init_82 : decode cX9_init 82 = .ok (.putfield 39, 3) := by decide +kernel
theorem dX9_init_85 : decode cX9_init 85 = .ok (.aload_n 0, 1) := by decide +kernel
theorem dX9_init_86 : decode cX9_init 86 = .ok (.aload_n 0, 1) := by decide +kernel
theorem dX9_init_87 : decode cX9_init 87 = .ok (.getfield 39, 3) := by decide +kernel
theorem dX9_init_90 : decode cX9_init 90 = .ok (.iconst 1, 1) := by decide +kernel
theorem dX9_init_91 : decode cX9_init 91 = .ok (.isub, 1) := by decide +kernel
theorem dX9_init_92 : decode cX9_init 92 = .ok (.iconst 2, 1) := by decide +kernel
theorem dX9_init_93 : decode cX9_init 93 = .ok (.idiv, 1) := by decide +kernel
theorem dX9_init_94 : decode cX9_init 94 = .ok (.putfield 42, 3) := by decide +kernel
theorem dX9_init_97 : decode cX9_init 97 = .ok (.iconst 0, 1) := by decide +kernel
theorem dX9_init_98 : decode cX9_init 98 = .ok (.istore_n 2, 1) := by decide +kernel
theorem dX9_init_99 : decode cX9_init 99 = .ok (.iload_n 2, 1) := by decide +kernel
theorem dX9_init_100 : decode cX9_init 100 = .ok (.iconst 2, 1) := by decide +kernel
theorem dX9_init_101 : decode cX9_init 101 = .ok (.if_icmp .ge 19, 3) := by decide +kernel
theorem dX9_init_104 : decode cX9_init 104 = .ok (.aload_n 0, 1) := by decide +kernel
theorem dX9_init_105 : decode cX9_init 105 = .ok (.iload_n 2, 1) := by decide +kernel
theorem dX9_init_106 : decode cX9_init 106 = .ok (.invokevirtual 45, 3) := by decide +kernel
theorem dX9_init_109 : decode cX9_init 109 = .ok (.aload_n 0, 1) := by decide +kernel
theorem dX9_init_110 : decode cX9_init 110 = .ok (.iload_n 2, 1) := by decide +kernel
theorem dX9_init_111 : decode cX9_init 111 = .ok (.invokevirtual 49, 3) := by decide +kernel
theorem dX9_init_114 : decode cX9_init 114 = .ok (.iinc 2 1, 3) := by decide +kernel
theorem dX9_init_117 : decode cX9_init 117 = .ok (.goto (-18), 3) := by decide +kernel
theorem dX9_init_120 : decode cX9_init 120 = .ok (.aload_n 0, 1) := by decide +kernel
theorem dX9_init_121 : decode cX9_init 121 = .ok (.invokevirtual 52, 3) := by decide +kernel
theorem dX9_init_124 : decode cX9_init 124 = .ok (.return_, 1) := by decide +kernel
theorem dX9_layFaces_0 : decode cX9_layFaces 0 = .ok (.iconst 0, 1) := by decide +kernel
theorem dX9_layFaces_1 : decode cX9_layFaces 1 = .ok (.istore_n 2, 1) := by decide +kernel
theorem dX9_layFaces_2 : decode cX9_layFaces 2 = .ok (.iconst 0, 1) := by decide +kernel
theorem dX9_layFaces_3 : decode cX9_layFaces 3 = .ok (.istore_n 3, 1) := by decide +kernel
theorem dX9_layFaces_4 : decode cX9_layFaces 4 = .ok (.iload_n 3, 1) := by decide +kernel
theorem dX9_layFaces_5 : decode cX9_layFaces 5 = .ok (.aload_n 0, 1) := by decide +kernel
theorem dX9_layFaces_6 : decode cX9_layFaces 6 = .ok (.getfield 35, 3) := by decide +kernel
theorem dX9_layFaces_9 : decode cX9_layFaces 9 = .ok (.if_icmp .gt 83, 3) := by decide +kernel
theorem dX9_layFaces_12 : decode cX9_layFaces 12 = .ok (.iconst 0, 1) := by decide +kernel
theorem dX9_layFaces_13 : decode cX9_layFaces 13 = .ok (.istore 4, 2) := by decide +kernel
theorem dX9_layFaces_15 : decode cX9_layFaces 15 = .ok (.iload 4, 2) := by decide +kernel
theorem dX9_layFaces_17 : decode cX9_layFaces 17 = .ok (.aload_n 0, 1) := by decide +kernel
theorem dX9_layFaces_18 : decode cX9_layFaces 18 = .ok (.getfield 35, 3) := by decide +kernel
theorem dX9_layFaces_21 : decode cX9_layFaces 21 = .ok (.if_icmp .gt 65, 3) := by decide +kernel
theorem dX9_layFaces_24 : decode cX9_layFaces 24 = .ok (.aload_n 0, 1) := by decide +kernel
theorem dX9_layFaces_25 : decode cX9_layFaces 25 = .ok (.iload_n 3, 1) := by decide +kernel
theorem dX9_layFaces_26 : decode cX9_layFaces 26 = .ok (.iload 4, 2) := by decide +kernel
theorem dX9_layFaces_28 : decode cX9_layFaces 28 = .ok (.invokevirtual 55, 3) := by decide +kernel
theorem dX9_layFaces_31 : decode cX9_layFaces 31 = .ok (.iload_n 1, 1) := by decide +kernel
theorem dX9_layFaces_32 : decode cX9_layFaces 32 = .ok (.if_icmp .ne 48, 3) := by decide +kernel
theorem dX9_layFaces_35 : decode cX9_layFaces 35 = .ok (.iload_n 2, 1) := by decide +kernel
theorem dX9_layFaces_36 : decode cX9_layFaces 36 = .ok (.aload_n 0, 1) := by decide +kernel
theorem dX9_layFaces_37 : decode cX9_layFaces 37 = .ok (.getfield 42, 3) := by decide +kernel
theorem dX9_layFaces_40 : decode cX9_layFaces 40 = .ok (.if_icmp .ge 40, 3) := by decide +kernel
theorem dX9_layFaces_43 : decode cX9_layFaces 43 = .ok (.aload_n 0, 1) := by decide +kernel
theorem dX9_layFaces_44 : decode cX9_layFaces 44 = .ok (.getfield 11, 3) := by decide +kernel
theorem dX9_layFaces_47 : decode cX9_layFaces 47 = .ok (.iload_n 1, 1) := by decide +kernel
theorem dX9_layFaces_48 : decode cX9_layFaces 48 = .ok (.aaload, 1) := by decide +kernel
theorem dX9_layFaces_49 : decode cX9_layFaces 49 = .ok (.iload_n 2, 1) := by decide +kernel
theorem dX9_layFaces_50 : decode cX9_layFaces 50 = .ok (.iload_n 3, 1) := by decide +kernel
theorem dX9_layFaces_51 : decode cX9_layFaces 51 = .ok (.iastore, 1) := by decide +kernel
theorem dX9_layFaces_52 : decode cX9_layFaces 52 = .ok (.aload_n 0, 1) := by decide +kernel
theorem dX9_layFaces_53 : decode cX9_layFaces 53 = .ok (.getfield 16, 3) := by decide +kernel
theorem dX9_layFaces_56 : decode cX9_layFaces 56 = .ok (.iload_n 1, 1) := by decide +kernel
theorem dX9_layFaces_57 : decode cX9_layFaces 57 = .ok (.aaload, 1) := by decide +kernel
theorem dX9_layFaces_58 : decode cX9_layFaces 58 = .ok (.iload_n 2, 1) := by decide +kernel
theorem dX9_layFaces_59 : decode cX9_layFaces 59 = .ok (.iload 4, 2) := by decide +kernel
theorem dX9_layFaces_61 : decode cX9_layFaces 61 = .ok (.iastore, 1) := by decide +kernel
theorem dX9_layFaces_62 : decode cX9_layFaces 62 = .ok (.aload_n 0, 1) := by decide +kernel
theorem dX9_layFaces_63 : decode cX9_layFaces 63 = .ok (.getfield 19, 3) := by decide +kernel
theorem dX9_layFaces_66 : decode cX9_layFaces 66 = .ok (.iload_n 1, 1) := by decide +kernel
theorem dX9_layFaces_67 : decode cX9_layFaces 67 = .ok (.aaload, 1) := by decide +kernel
theorem dX9_layFaces_68 : decode cX9_layFaces 68 = .ok (.iload_n 2, 1) := by decide +kernel
theorem dX9_layFaces_69 : decode cX9_layFaces 69 = .ok (.aload_n 0, 1) := by decide +kernel
theorem dX9_layFaces_70 : decode cX9_layFaces 70 = .ok (.iload_n 3, 1) := by decide +kernel
theorem dX9_layFaces_71 : decode cX9_layFaces 71 = .ok (.iload 4, 2) := by decide +kernel
theorem dX9_layFaces_73 : decode cX9_layFaces 73 = .ok (.invokevirtual 59, 3) := by decide +kernel
theorem dX9_layFaces_76 : decode cX9_layFaces 76 = .ok (.iastore, 1) := by decide +kernel
theorem dX9_layFaces_77 : decode cX9_layFaces 77 = .ok (.iinc 2 1, 3) := by decide +kernel
theorem dX9_layFaces_80 : decode cX9_layFaces 80 = .ok (.iinc 4 1, 3) := by decide +kernel
theorem dX9_layFaces_83 : decode cX9_layFaces 83 = .ok (.goto (-68), 3) := by decide +kernel
theorem dX9_layFaces_86 : decode cX9_layFaces 86 = .ok (.iinc 3 1, 3) := by decide +kernel
theorem dX9_layFaces_89 : decode cX9_layFaces 89 = .ok (.goto (-85), 3) := by decide +kernel
theorem dX9_layFaces_92 : decode cX9_layFaces 92 = .ok (.return_, 1) := by decide +kernel
theorem dX9_kindAt_0 : decode cX9_kindAt 0 = .ok (.iload_n 1, 1) := by decide +kernel
theorem dX9_kindAt_1 : decode cX9_kindAt 1 = .ok (.iconst 1, 1) := by decide +kernel
theorem dX9_kindAt_2 : decode cX9_kindAt 2 = .ok (.if_icmp .lt 15, 3) := by decide +kernel
theorem dX9_kindAt_5 : decode cX9_kindAt 5 = .ok (.iload_n 1, 1) := by decide +kernel
theorem dX9_kindAt_6 : decode cX9_kindAt 6 = .ok (.aload_n 0, 1) := by decide +kernel
theorem dX9_kindAt_7 : decode cX9_kindAt 7 = .ok (.getfield 35, 3) := by decide +kernel
theorem dX9_kindAt_10 : decode cX9_kindAt 10 = .ok (.if_icmp .ge 7, 3) := by decide +kernel
theorem dX9_kindAt_13 : decode cX9_kindAt 13 = .ok (.iconst 1, 1) := by decide +kernel
theorem dX9_kindAt_14 : decode cX9_kindAt 14 = .ok (.goto 4, 3) := by decide +kernel
theorem dX9_kindAt_17 : decode cX9_kindAt 17 = .ok (.iconst 0, 1) := by decide +kernel
theorem dX9_kindAt_18 : decode cX9_kindAt 18 = .ok (.istore_n 3, 1) := by decide +kernel
theorem dX9_kindAt_19 : decode cX9_kindAt 19 = .ok (.iload_n 2, 1) := by decide +kernel
theorem dX9_kindAt_20 : decode cX9_kindAt 20 = .ok (.iconst 1, 1) := by decide +kernel
theorem dX9_kindAt_21 : decode cX9_kindAt 21 = .ok (.if_icmp .lt 15, 3) := by decide +kernel
theorem dX9_kindAt_24 : decode cX9_kindAt 24 = .ok (.iload_n 2, 1) := by decide +kernel
theorem dX9_kindAt_25 : decode cX9_kindAt 25 = .ok (.aload_n 0, 1) := by decide +kernel
theorem dX9_kindAt_26 : decode cX9_kindAt 26 = .ok (.getfield 35, 3) := by decide +kernel
theorem dX9_kindAt_29 : decode cX9_kindAt 29 = .ok (.if_icmp .ge 7, 3) := by decide +kernel
theorem dX9_kindAt_32 : decode cX9_kindAt 32 = .ok (.iconst 1, 1) := by decide +kernel
theorem dX9_kindAt_33 : decode cX9_kindAt 33 = .ok (.goto 4, 3) := by decide +kernel
theorem dX9_kindAt_36 : decode cX9_kindAt 36 = .ok (.iconst 0, 1) := by decide +kernel
theorem dX9_kindAt_37 : decode cX9_kindAt 37 = .ok (.istore 4, 2) := by decide +kernel
theorem dX9_kindAt_39 : decode cX9_kindAt 39 = .ok (.iload_n 1, 1) := by decide +kernel
theorem dX9_kindAt_40 : decode cX9_kindAt 40 = .ok (.iload_n 2, 1) := by decide +kernel
theorem dX9_kindAt_41 : decode cX9_kindAt 41 = .ok (.iadd, 1) := by decide +kernel
theorem dX9_kindAt_42 : decode cX9_kindAt 42 = .ok (.iconst 2, 1) := by decide +kernel
theorem dX9_kindAt_43 : decode cX9_kindAt 43 = .ok (.irem, 1) := by decide +kernel
theorem dX9_kindAt_44 : decode cX9_kindAt 44 = .ok (.ifCond .ne 7, 3) := by decide +kernel
theorem dX9_kindAt_47 : decode cX9_kindAt 47 = .ok (.iconst 0, 1) := by decide +kernel
theorem dX9_kindAt_48 : decode cX9_kindAt 48 = .ok (.goto 4, 3) := by decide +kernel
theorem dX9_kindAt_51 : decode cX9_kindAt 51 = .ok (.iconst 1, 1) := by decide +kernel
theorem dX9_kindAt_52 : decode cX9_kindAt 52 = .ok (.istore 5, 2) := by decide +kernel
theorem dX9_kindAt_54 : decode cX9_kindAt 54 = .ok (.iload_n 3, 1) := by decide +kernel
theorem dX9_kindAt_55 : decode cX9_kindAt 55 = .ok (.ifCond .eq 11, 3) := by decide +kernel
theorem dX9_kindAt_58 : decode cX9_kindAt 58 = .ok (.iload 4, 2) := by decide +kernel
theorem dX9_kindAt_60 : decode cX9_kindAt 60 = .ok (.ifCond .eq 6, 3) := by decide +kernel
theorem dX9_kindAt_63 : decode cX9_kindAt 63 = .ok (.iload 5, 2) := by decide +kernel
theorem dX9_kindAt_65 : decode cX9_kindAt 65 = .ok (.ireturn, 1) := by decide +kernel
theorem dX9_kindAt_66 : decode cX9_kindAt 66 = .ok (.iload_n 3, 1) := by decide +kernel
theorem dX9_kindAt_67 : decode cX9_kindAt 67 = .ok (.ifCond .eq 14, 3) := by decide +kernel
theorem dX9_kindAt_70 : decode cX9_kindAt 70 = .ok (.iload 5, 2) := by decide +kernel
theorem dX9_kindAt_72 : decode cX9_kindAt 72 = .ok (.ifCond .ne 7, 3) := by decide +kernel
theorem dX9_kindAt_75 : decode cX9_kindAt 75 = .ok (.iconst 0, 1) := by decide +kernel
theorem dX9_kindAt_76 : decode cX9_kindAt 76 = .ok (.goto 4, 3) := by decide +kernel
theorem dX9_kindAt_79 : decode cX9_kindAt 79 = .ok (.iconst (-1), 1) := by decide +kernel
theorem dX9_kindAt_80 : decode cX9_kindAt 80 = .ok (.ireturn, 1) := by decide +kernel
theorem dX9_kindAt_81 : decode cX9_kindAt 81 = .ok (.iload 4, 2) := by decide +kernel
theorem dX9_kindAt_83 : decode cX9_kindAt 83 = .ok (.ifCond .eq 15, 3) := by decide +kernel
theorem dX9_kindAt_86 : decode cX9_kindAt 86 = .ok (.iload 5, 2) := by decide +kernel
theorem dX9_kindAt_88 : decode cX9_kindAt 88 = .ok (.iconst 1, 1) := by decide +kernel
theorem dX9_kindAt_89 : decode cX9_kindAt 89 = .ok (.if_icmp .ne 7, 3) := by decide +kernel
theorem dX9_kindAt_92 : decode cX9_kindAt 92 = .ok (.iconst 1, 1) := by decide +kernel
theorem dX9_kindAt_93 : decode cX9_kindAt 93 = .ok (.goto 4, 3) := by decide +kernel
theorem dX9_kindAt_96 : decode cX9_kindAt 96 = .ok (.iconst (-1), 1) := by decide +kernel
theorem dX9_kindAt_97 : decode cX9_kindAt 97 = .ok (.ireturn, 1) := by decide +kernel
theorem dX9_kindAt_98 : decode cX9_kindAt 98 = .ok (.iconst (-1), 1) := by decide +kernel
theorem dX9_kindAt_99 : decode cX9_kindAt 99 = .ok (.ireturn, 1) := by decide +kernel
theorem dX9_bitsAt_0 : decode cX9_bitsAt 0 = .ok (.iconst 0, 1) := by decide +kernel
theorem dX9_bitsAt_1 : decode cX9_bitsAt 1 = .ok (.istore_n 3, 1) := by decide +kernel
theorem dX9_bitsAt_2 : decode cX9_bitsAt 2 = .ok (.iload_n 1, 1) := by decide +kernel
theorem dX9_bitsAt_3 : decode cX9_bitsAt 3 = .ok (.iconst 1, 1) := by decide +kernel
theorem dX9_bitsAt_4 : decode cX9_bitsAt 4 = .ok (.isub, 1) := by decide +kernel
theorem dX9_bitsAt_5 : decode cX9_bitsAt 5 = .ok (.istore 4, 2) := by decide +kernel
theorem dX9_bitsAt_7 : decode cX9_bitsAt 7 = .ok (.iload 4, 2) := by decide +kernel
theorem dX9_bitsAt_9 : decode cX9_bitsAt 9 = .ok (.iload_n 1, 1) := by decide +kernel
theorem dX9_bitsAt_10 : decode cX9_bitsAt 10 = .ok (.if_icmp .gt 69, 3) := by decide +kernel
theorem dX9_bitsAt_13 : decode cX9_bitsAt 13 = .ok (.iload_n 2, 1) := by decide +kernel
theorem dX9_bitsAt_14 : decode cX9_bitsAt 14 = .ok (.iconst 1, 1) := by decide +kernel
theorem dX9_bitsAt_15 : decode cX9_bitsAt 15 = .ok (.isub, 1) := by decide +kernel
theorem dX9_bitsAt_16 : decode cX9_bitsAt 16 = .ok (.istore 5, 2) := by decide +kernel
theorem dX9_bitsAt_18 : decode cX9_bitsAt 18 = .ok (.iload 5, 2) := by decide +kernel
theorem dX9_bitsAt_20 : decode cX9_bitsAt 20 = .ok (.iload_n 2, 1) := by decide +kernel
theorem dX9_bitsAt_21 : decode cX9_bitsAt 21 = .ok (.if_icmp .gt 52, 3) := by decide +kernel
theorem dX9_bitsAt_24 : decode cX9_bitsAt 24 = .ok (.iload 4, 2) := by decide +kernel
theorem dX9_bitsAt_26 : decode cX9_bitsAt 26 = .ok (.ifCond .lt 41, 3) := by decide +kernel
theorem dX9_bitsAt_29 : decode cX9_bitsAt 29 = .ok (.iload 4, 2) := by decide +kernel
theorem dX9_bitsAt_31 : decode cX9_bitsAt 31 = .ok (.aload_n 0, 1) := by decide +kernel
theorem dX9_bitsAt_32 : decode cX9_bitsAt 32 = .ok (.getfield 35, 3) := by decide +kernel
theorem dX9_bitsAt_35 : decode cX9_bitsAt 35 = .ok (.if_icmp .ge 32, 3) := by decide +kernel
theorem dX9_bitsAt_38 : decode cX9_bitsAt 38 = .ok (.iload 5, 2) := by decide +kernel
theorem dX9_bitsAt_40 : decode cX9_bitsAt 40 = .ok (.ifCond .lt 27, 3) := by decide +kernel
theorem dX9_bitsAt_43 : decode cX9_bitsAt 43 = .ok (.iload 5, 2) := by decide +kernel
theorem dX9_bitsAt_45 : decode cX9_bitsAt 45 = .ok (.aload_n 0, 1) := by decide +kernel
theorem dX9_bitsAt_46 : decode cX9_bitsAt 46 = .ok (.getfield 35, 3) := by decide +kernel
theorem dX9_bitsAt_49 : decode cX9_bitsAt 49 = .ok (.if_icmp .ge 18, 3) := by decide +kernel
theorem dX9_bitsAt_52 : decode cX9_bitsAt 52 = .ok (.iload_n 3, 1) := by decide +kernel
theorem dX9_bitsAt_53 : decode cX9_bitsAt 53 = .ok (.iconst 1, 1) := by decide +kernel
theorem dX9_bitsAt_54 : decode cX9_bitsAt 54 = .ok (.iload 4, 2) := by decide +kernel
theorem dX9_bitsAt_56 : decode cX9_bitsAt 56 = .ok (.aload_n 0, 1) := by decide +kernel
theorem dX9_bitsAt_57 : decode cX9_bitsAt 57 = .ok (.getfield 35, 3) := by decide +kernel
theorem dX9_bitsAt_60 : decode cX9_bitsAt 60 = .ok (.imul, 1) := by decide +kernel
theorem dX9_bitsAt_61 : decode cX9_bitsAt 61 = .ok (.iload 5, 2) := by decide +kernel
theorem dX9_bitsAt_63 : decode cX9_bitsAt 63 = .ok (.iadd, 1) := by decide +kernel
theorem dX9_bitsAt_64 : decode cX9_bitsAt 64 = .ok (.ishl, 1) := by decide +kernel
theorem dX9_bitsAt_65 : decode cX9_bitsAt 65 = .ok (.ior, 1) := by decide +kernel
theorem dX9_bitsAt_66 : decode cX9_bitsAt 66 = .ok (.istore_n 3, 1) := by decide +kernel
theorem dX9_bitsAt_67 : decode cX9_bitsAt 67 = .ok (.iinc 5 1, 3) := by decide +kernel
theorem dX9_bitsAt_70 : decode cX9_bitsAt 70 = .ok (.goto (-52), 3) := by decide +kernel
theorem dX9_bitsAt_73 : decode cX9_bitsAt 73 = .ok (.iinc 4 1, 3) := by decide +kernel
theorem dX9_bitsAt_76 : decode cX9_bitsAt 76 = .ok (.goto (-69), 3) := by decide +kernel
theorem dX9_bitsAt_79 : decode cX9_bitsAt 79 = .ok (.iload_n 3, 1) := by decide +kernel
theorem dX9_bitsAt_80 : decode cX9_bitsAt 80 = .ok (.ireturn, 1) := by decide +kernel
theorem dX9_layQubits_0 : decode cX9_layQubits 0 = .ok (.iconst 0, 1) := by decide +kernel
theorem dX9_layQubits_1 : decode cX9_layQubits 1 = .ok (.istore_n 2, 1) := by decide +kernel
theorem dX9_layQubits_2 : decode cX9_layQubits 2 = .ok (.iload_n 2, 1) := by decide +kernel
theorem dX9_layQubits_3 : decode cX9_layQubits 3 = .ok (.aload_n 0, 1) := by decide +kernel
theorem dX9_layQubits_4 : decode cX9_layQubits 4 = .ok (.getfield 39, 3) := by decide +kernel
theorem dX9_layQubits_7 : decode cX9_layQubits 7 = .ok (.if_icmp .ge 57, 3) := by decide +kernel
theorem dX9_layQubits_10 : decode cX9_layQubits 10 = .ok (.aload_n 0, 1) := by decide +kernel
theorem dX9_layQubits_11 : decode cX9_layQubits 11 = .ok (.iload_n 1, 1) := by decide +kernel
theorem dX9_layQubits_12 : decode cX9_layQubits 12 = .ok (.iload_n 2, 1) := by decide +kernel
theorem dX9_layQubits_13 : decode cX9_layQubits 13 = .ok (.invokevirtual 62, 3) := by decide +kernel
theorem dX9_layQubits_16 : decode cX9_layQubits 16 = .ok (.istore_n 3, 1) := by decide +kernel
theorem dX9_layQubits_17 : decode cX9_layQubits 17 = .ok (.iload_n 3, 1) := by decide +kernel
theorem dX9_layQubits_18 : decode cX9_layQubits 18 = .ok (.iload_n 3, 1) := by decide +kernel
theorem dX9_layQubits_19 : decode cX9_layQubits 19 = .ok (.iconst 1, 1) := by decide +kernel
theorem dX9_layQubits_20 : decode cX9_layQubits 20 = .ok (.isub, 1) := by decide +kernel
theorem dX9_layQubits_21 : decode cX9_layQubits 21 = .ok (.iand, 1) := by decide +kernel
theorem dX9_layQubits_22 : decode cX9_layQubits 22 = .ok (.istore 4, 2) := by decide +kernel
theorem dX9_layQubits_24 : decode cX9_layQubits 24 = .ok (.aload_n 0, 1) := by decide +kernel
theorem dX9_layQubits_25 : decode cX9_layQubits 25 = .ok (.getfield 22, 3) := by decide +kernel
theorem dX9_layQubits_28 : decode cX9_layQubits 28 = .ok (.iload_n 1, 1) := by decide +kernel
theorem dX9_layQubits_29 : decode cX9_layQubits 29 = .ok (.aaload, 1) := by decide +kernel
theorem dX9_layQubits_30 : decode cX9_layQubits 30 = .ok (.iload_n 2, 1) := by decide +kernel
theorem dX9_layQubits_31 : decode cX9_layQubits 31 = .ok (.iload_n 3, 1) := by decide +kernel
theorem dX9_layQubits_32 : decode cX9_layQubits 32 = .ok (.invokestatic 65, 3) := by decide +kernel
theorem dX9_layQubits_35 : decode cX9_layQubits 35 = .ok (.iastore, 1) := by decide +kernel
theorem dX9_layQubits_36 : decode cX9_layQubits 36 = .ok (.aload_n 0, 1) := by decide +kernel
theorem dX9_layQubits_37 : decode cX9_layQubits 37 = .ok (.getfield 25, 3) := by decide +kernel
theorem dX9_layQubits_40 : decode cX9_layQubits 40 = .ok (.iload_n 1, 1) := by decide +kernel
theorem dX9_layQubits_41 : decode cX9_layQubits 41 = .ok (.aaload, 1) := by decide +kernel
theorem dX9_layQubits_42 : decode cX9_layQubits 42 = .ok (.iload_n 2, 1) := by decide +kernel
theorem dX9_layQubits_43 : decode cX9_layQubits 43 = .ok (.iload 4, 2) := by decide +kernel
theorem dX9_layQubits_45 : decode cX9_layQubits 45 = .ok (.ifCond .ne 7, 3) := by decide +kernel
theorem dX9_layQubits_48 : decode cX9_layQubits 48 = .ok (.iconst (-1), 1) := by decide +kernel
theorem dX9_layQubits_49 : decode cX9_layQubits 49 = .ok (.goto 8, 3) := by decide +kernel
theorem dX9_layQubits_52 : decode cX9_layQubits 52 = .ok (.iload 4, 2) := by decide +kernel
theorem dX9_layQubits_54 : decode cX9_layQubits 54 = .ok (.invokestatic 65, 3) := by decide +kernel
theorem dX9_layQubits_57 : decode cX9_layQubits 57 = .ok (.iastore, 1) := by decide +kernel
theorem dX9_layQubits_58 : decode cX9_layQubits 58 = .ok (.iinc 2 1, 3) := by decide +kernel
theorem dX9_layQubits_61 : decode cX9_layQubits 61 = .ok (.goto (-59), 3) := by decide +kernel
theorem dX9_layQubits_64 : decode cX9_layQubits 64 = .ok (.return_, 1) := by decide +kernel
theorem dX9_layBorders_0 : decode cX9_layBorders 0 = .ok (.iconst 0, 1) := by decide +kernel
theorem dX9_layBorders_1 : decode cX9_layBorders 1 = .ok (.istore_n 1, 1) := by decide +kernel
theorem dX9_layBorders_2 : decode cX9_layBorders 2 = .ok (.iload_n 1, 1) := by decide +kernel
theorem dX9_layBorders_3 : decode cX9_layBorders 3 = .ok (.aload_n 0, 1) := by decide +kernel
theorem dX9_layBorders_4 : decode cX9_layBorders 4 = .ok (.getfield 35, 3) := by decide +kernel
theorem dX9_layBorders_7 : decode cX9_layBorders 7 = .ok (.if_icmp .ge 38, 3) := by decide +kernel
theorem dX9_layBorders_10 : decode cX9_layBorders 10 = .ok (.aload_n 0, 1) := by decide +kernel
theorem dX9_layBorders_11 : decode cX9_layBorders 11 = .ok (.getfield 28, 3) := by decide +kernel
theorem dX9_layBorders_14 : decode cX9_layBorders 14 = .ok (.iconst 0, 1) := by decide +kernel
theorem dX9_layBorders_15 : decode cX9_layBorders 15 = .ok (.dup2, 1) := by decide +kernel
theorem dX9_layBorders_16 : decode cX9_layBorders 16 = .ok (.iaload, 1) := by decide +kernel
theorem dX9_layBorders_17 : decode cX9_layBorders 17 = .ok (.iconst 1, 1) := by decide +kernel
theorem dX9_layBorders_18 : decode cX9_layBorders 18 = .ok (.iload_n 1, 1) := by decide +kernel
theorem dX9_layBorders_19 : decode cX9_layBorders 19 = .ok (.ishl, 1) := by decide +kernel
theorem dX9_layBorders_20 : decode cX9_layBorders 20 = .ok (.ior, 1) := by decide +kernel
theorem dX9_layBorders_21 : decode cX9_layBorders 21 = .ok (.iastore, 1) := by decide +kernel
theorem dX9_layBorders_22 : decode cX9_layBorders 22 = .ok (.aload_n 0, 1) := by decide +kernel
theorem dX9_layBorders_23 : decode cX9_layBorders 23 = .ok (.getfield 28, 3) := by decide +kernel
theorem dX9_layBorders_26 : decode cX9_layBorders 26 = .ok (.iconst 1, 1) := by decide +kernel
theorem dX9_layBorders_27 : decode cX9_layBorders 27 = .ok (.dup2, 1) := by decide +kernel
theorem dX9_layBorders_28 : decode cX9_layBorders 28 = .ok (.iaload, 1) := by decide +kernel
theorem dX9_layBorders_29 : decode cX9_layBorders 29 = .ok (.iconst 1, 1) := by decide +kernel
theorem dX9_layBorders_30 : decode cX9_layBorders 30 = .ok (.iload_n 1, 1) := by decide +kernel
theorem dX9_layBorders_31 : decode cX9_layBorders 31 = .ok (.aload_n 0, 1) := by decide +kernel
theorem dX9_layBorders_32 : decode cX9_layBorders 32 = .ok (.getfield 35, 3) := by decide +kernel
theorem dX9_layBorders_35 : decode cX9_layBorders 35 = .ok (.imul, 1) := by decide +kernel
theorem dX9_layBorders_36 : decode cX9_layBorders 36 = .ok (.ishl, 1) := by decide +kernel
theorem dX9_layBorders_37 : decode cX9_layBorders 37 = .ok (.ior, 1) := by decide +kernel
theorem dX9_layBorders_38 : decode cX9_layBorders 38 = .ok (.iastore, 1) := by decide +kernel
theorem dX9_layBorders_39 : decode cX9_layBorders 39 = .ok (.iinc 1 1, 3) := by decide +kernel
theorem dX9_layBorders_42 : decode cX9_layBorders 42 = .ok (.goto (-40), 3) := by decide +kernel
theorem dX9_layBorders_45 : decode cX9_layBorders 45 = .ok (.aload_n 0, 1) := by decide +kernel
theorem dX9_layBorders_46 : decode cX9_layBorders 46 = .ok (.getfield 32, 3) := by decide +kernel
theorem dX9_layBorders_49 : decode cX9_layBorders 49 = .ok (.iconst 0, 1) := by decide +kernel
theorem dX9_layBorders_50 : decode cX9_layBorders 50 = .ok (.aload_n 0, 1) := by decide +kernel
theorem dX9_layBorders_51 : decode cX9_layBorders 51 = .ok (.getfield 28, 3) := by decide +kernel
theorem dX9_layBorders_54 : decode cX9_layBorders 54 = .ok (.iconst 1, 1) := by decide +kernel
theorem dX9_layBorders_55 : decode cX9_layBorders 55 = .ok (.iaload, 1) := by decide +kernel
theorem dX9_layBorders_56 : decode cX9_layBorders 56 = .ok (.iastore, 1) := by decide +kernel
theorem dX9_layBorders_57 : decode cX9_layBorders 57 = .ok (.aload_n 0, 1) := by decide +kernel
theorem dX9_layBorders_58 : decode cX9_layBorders 58 = .ok (.getfield 32, 3) := by decide +kernel
theorem dX9_layBorders_61 : decode cX9_layBorders 61 = .ok (.iconst 1, 1) := by decide +kernel
theorem dX9_layBorders_62 : decode cX9_layBorders 62 = .ok (.aload_n 0, 1) := by decide +kernel
theorem dX9_layBorders_63 : decode cX9_layBorders 63 = .ok (.getfield 28, 3) := by decide +kernel
theorem dX9_layBorders_66 : decode cX9_layBorders 66 = .ok (.iconst 0, 1) := by decide +kernel
theorem dX9_layBorders_67 : decode cX9_layBorders 67 = .ok (.iaload, 1) := by decide +kernel
theorem dX9_layBorders_68 : decode cX9_layBorders 68 = .ok (.iastore, 1) := by decide +kernel
theorem dX9_layBorders_69 : decode cX9_layBorders 69 = .ok (.return_, 1) := by decide +kernel
theorem dX9_checksOn_0 : decode cX9_checksOn 0 = .ok (.iconst 0, 1) := by decide +kernel
theorem dX9_checksOn_1 : decode cX9_checksOn 1 = .ok (.istore_n 3, 1) := by decide +kernel
theorem dX9_checksOn_2 : decode cX9_checksOn 2 = .ok (.iconst 0, 1) := by decide +kernel
theorem dX9_checksOn_3 : decode cX9_checksOn 3 = .ok (.istore 4, 2) := by decide +kernel
theorem dX9_checksOn_5 : decode cX9_checksOn 5 = .ok (.iload 4, 2) := by decide +kernel
theorem dX9_checksOn_7 : decode cX9_checksOn 7 = .ok (.aload_n 0, 1) := by decide +kernel
theorem dX9_checksOn_8 : decode cX9_checksOn 8 = .ok (.getfield 42, 3) := by decide +kernel
theorem dX9_checksOn_11 : decode cX9_checksOn 11 = .ok (.if_icmp .ge 28, 3) := by decide +kernel
theorem dX9_checksOn_14 : decode cX9_checksOn 14 = .ok (.iload_n 3, 1) := by decide +kernel
theorem dX9_checksOn_15 : decode cX9_checksOn 15 = .ok (.aload_n 0, 1) := by decide +kernel
theorem dX9_checksOn_16 : decode cX9_checksOn 16 = .ok (.getfield 19, 3) := by decide +kernel
theorem dX9_checksOn_19 : decode cX9_checksOn 19 = .ok (.iload_n 1, 1) := by decide +kernel
theorem dX9_checksOn_20 : decode cX9_checksOn 20 = .ok (.aaload, 1) := by decide +kernel
theorem dX9_checksOn_21 : decode cX9_checksOn 21 = .ok (.iload 4, 2) := by decide +kernel
theorem dX9_checksOn_23 : decode cX9_checksOn 23 = .ok (.iaload, 1) := by decide +kernel
theorem dX9_checksOn_24 : decode cX9_checksOn 24 = .ok (.iload_n 2, 1) := by decide +kernel
theorem dX9_checksOn_25 : decode cX9_checksOn 25 = .ok (.ishr, 1) := by decide +kernel
theorem dX9_checksOn_26 : decode cX9_checksOn 26 = .ok (.iconst 1, 1) := by decide +kernel
theorem dX9_checksOn_27 : decode cX9_checksOn 27 = .ok (.iand, 1) := by decide +kernel
theorem dX9_checksOn_28 : decode cX9_checksOn 28 = .ok (.iload 4, 2) := by decide +kernel
theorem dX9_checksOn_30 : decode cX9_checksOn 30 = .ok (.ishl, 1) := by decide +kernel
theorem dX9_checksOn_31 : decode cX9_checksOn 31 = .ok (.ior, 1) := by decide +kernel
theorem dX9_checksOn_32 : decode cX9_checksOn 32 = .ok (.istore_n 3, 1) := by decide +kernel
theorem dX9_checksOn_33 : decode cX9_checksOn 33 = .ok (.iinc 4 1, 3) := by decide +kernel
theorem dX9_checksOn_36 : decode cX9_checksOn 36 = .ok (.goto (-31), 3) := by decide +kernel
theorem dX9_checksOn_39 : decode cX9_checksOn 39 = .ok (.iload_n 3, 1) := by decide +kernel
theorem dX9_checksOn_40 : decode cX9_checksOn 40 = .ok (.ireturn, 1) := by decide +kernel
theorem dX9_logicalOf_0 : decode cX9_logicalOf 0 = .ok (.iload_n 2, 1) := by decide +kernel
theorem dX9_logicalOf_1 : decode cX9_logicalOf 1 = .ok (.aload_n 0, 1) := by decide +kernel
theorem dX9_logicalOf_2 : decode cX9_logicalOf 2 = .ok (.getfield 28, 3) := by decide +kernel
theorem dX9_logicalOf_5 : decode cX9_logicalOf 5 = .ok (.iload_n 1, 1) := by decide +kernel
theorem dX9_logicalOf_6 : decode cX9_logicalOf 6 = .ok (.iaload, 1) := by decide +kernel
theorem dX9_logicalOf_7 : decode cX9_logicalOf 7 = .ok (.iand, 1) := by decide +kernel
theorem dX9_logicalOf_8 : decode cX9_logicalOf 8 = .ok (.invokestatic 71, 3) := by decide +kernel
theorem dX9_logicalOf_11 : decode cX9_logicalOf 11 = .ok (.iconst 1, 1) := by decide +kernel
theorem dX9_logicalOf_12 : decode cX9_logicalOf 12 = .ok (.iand, 1) := by decide +kernel
theorem dX9_logicalOf_13 : decode cX9_logicalOf 13 = .ok (.ireturn, 1) := by decide +kernel
theorem dX10_init_0 : decode cX10_init 0 = .ok (.aload_n 0, 1) := by decide +kernel
theorem dX10_init_1 : decode cX10_init 1 = .ok (.invokespecial 3, 3) := by decide +kernel
theorem dX10_init_4 : decode cX10_init 4 = .ok (.aload_n 0, 1) := by decide +kernel
theorem dX10_init_5 : decode cX10_init 5 = .ok (.new 9, 3) := by decide +kernel
theorem dX10_init_8 : decode cX10_init 8 = .ok (.dup, 1) := by decide +kernel
theorem dX10_init_9 : decode cX10_init 9 = .ok (.iconst 3, 1) := by decide +kernel
theorem dX10_init_10 : decode cX10_init 10 = .ok (.invokespecial 11, 3) := by decide +kernel
theorem dX10_init_13 : decode cX10_init 13 = .ok (.putfield 14, 3) := by decide +kernel
theorem dX10_init_16 : decode cX10_init 16 = .ok (.aload_n 0, 1) := by decide +kernel
theorem dX10_init_17 : decode cX10_init 17 = .ok (.new 9, 3) := by decide +kernel
theorem dX10_init_20 : decode cX10_init 20 = .ok (.dup, 1) := by decide +kernel
theorem dX10_init_21 : decode cX10_init 21 = .ok (.iconst 5, 1) := by decide +kernel
theorem dX10_init_22 : decode cX10_init 22 = .ok (.invokespecial 11, 3) := by decide +kernel
theorem dX10_init_25 : decode cX10_init 25 = .ok (.putfield 18, 3) := by decide +kernel
theorem dX10_init_28 : decode cX10_init 28 = .ok (.aload_n 0, 1) := by decide +kernel
theorem dX10_init_29 : decode cX10_init 29 = .ok (.new 21, 3) := by decide +kernel
theorem dX10_init_32 : decode cX10_init 32 = .ok (.dup, 1) := by decide +kernel
theorem dX10_init_33 : decode cX10_init 33 = .ok (.aload_n 0, 1) := by decide +kernel
theorem dX10_init_34 : decode cX10_init 34 = .ok (.getfield 14, 3) := by decide +kernel
theorem dX10_init_37 : decode cX10_init 37 = .ok (.invokespecial 23, 3) := by decide +kernel
theorem dX10_init_40 : decode cX10_init 40 = .ok (.putfield 26, 3) := by decide +kernel
theorem dX10_init_43 : decode cX10_init 43 = .ok (.aload_n 0, 1) := by decide +kernel
theorem dX10_init_44 : decode cX10_init 44 = .ok (.new 21, 3) := by decide +kernel
theorem dX10_init_47 : decode cX10_init 47 = .ok (.dup, 1) := by decide +kernel
theorem dX10_init_48 : decode cX10_init 48 = .ok (.aload_n 0, 1) := by decide +kernel
theorem dX10_init_49 : decode cX10_init 49 = .ok (.getfield 14, 3) := by decide +kernel
theorem dX10_init_52 : decode cX10_init 52 = .ok (.invokespecial 23, 3) := by decide +kernel
theorem dX10_init_55 : decode cX10_init 55 = .ok (.putfield 30, 3) := by decide +kernel
theorem dX10_init_58 : decode cX10_init 58 = .ok (.aload_n 0, 1) := by decide +kernel
theorem dX10_init_59 : decode cX10_init 59 = .ok (.iconst 2, 1) := by decide +kernel
theorem dX10_init_60 : decode cX10_init 60 = .ok (.anewarray 21, 3) := by decide +kernel
theorem dX10_init_63 : decode cX10_init 63 = .ok (.putfield 33, 3) := by decide +kernel
theorem dX10_init_66 : decode cX10_init 66 = .ok (.aload_n 0, 1) := by decide +kernel
theorem dX10_init_67 : decode cX10_init 67 = .ok (.iconst 2, 1) := by decide +kernel
theorem dX10_init_68 : decode cX10_init 68 = .ok (.newarray .boolean, 2) := by decide +kernel
theorem dX10_init_70 : decode cX10_init 70 = .ok (.putfield 37, 3) := by decide +kernel
theorem dX10_init_73 : decode cX10_init 73 = .ok (.aload_n 0, 1) := by decide +kernel
theorem dX10_init_74 : decode cX10_init 74 = .ok (.new 41, 3) := by decide +kernel
theorem dX10_init_77 : decode cX10_init 77 = .ok (.dup, 1) := by decide +kernel
theorem dX10_init_78 : decode cX10_init 78 = .ok (.aload_n 0, 1) := by decide +kernel
theorem dX10_init_79 : decode cX10_init 79 = .ok (.getfield 14, 3) := by decide +kernel
theorem dX10_init_82 : decode cX10_init 82 = .ok (.invokespecial 43, 3) := by decide +kernel
theorem dX10_init_85 : decode cX10_init 85 = .ok (.putfield 44, 3) := by decide +kernel
theorem dX10_init_88 : decode cX10_init 88 = .ok (.aload_n 0, 1) := by decide +kernel
theorem dX10_init_89 : decode cX10_init 89 = .ok (.new 48, 3) := by decide +kernel
theorem dX10_init_92 : decode cX10_init 92 = .ok (.dup, 1) := by decide +kernel
theorem dX10_init_93 : decode cX10_init 93 = .ok (.invokespecial 50, 3) := by decide +kernel
theorem dX10_init_96 : decode cX10_init 96 = .ok (.putfield 51, 3) := by decide +kernel
theorem dX10_init_99 : decode cX10_init 99 = .ok (.aload_n 0, 1) := by decide +kernel
theorem dX10_init_100 : decode cX10_init 100 = .ok (.new 55, 3) := by decide +kernel
theorem dX10_init_103 : decode cX10_init 103 = .ok (.dup, 1) := by decide +kernel
theorem dX10_init_104 : decode cX10_init 104 = .ok (.invokespecial 57, 3) := by decide +kernel
theorem dX10_init_107 : decode cX10_init 107 = .ok (.putfield 58, 3) := by decide +kernel
theorem dX10_init_110 : decode cX10_init 110 = .ok (.aload_n 0, 1) := by decide +kernel
theorem dX10_init_111 : decode cX10_init 111 = .ok (.new 62, 3) := by decide +kernel
theorem dX10_init_114 : decode cX10_init 114 = .ok (.dup, 1) := by decide +kernel
theorem dX10_init_115 : decode cX10_init 115 = .ok (.invokespecial 64, 3) := by decide +kernel
theorem dX10_init_118 : decode cX10_init 118 = .ok (.putfield 65, 3) := by decide +kernel
theorem dX10_init_121 : decode cX10_init 121 = .ok (.aload_n 0, 1) := by decide +kernel
theorem dX10_init_122 : decode cX10_init 122 = .ok (.new 69, 3) := by decide +kernel
theorem dX10_init_125 : decode cX10_init 125 = .ok (.dup, 1) := by decide +kernel
theorem dX10_init_126 : decode cX10_init 126 = .ok (.invokespecial 71, 3) := by decide +kernel
theorem dX10_init_129 : decode cX10_init 129 = .ok (.putfield 72, 3) := by decide +kernel
theorem dX10_init_132 : decode cX10_init 132 = .ok (.aload_n 0, 1) := by decide +kernel
theorem dX10_init_133 : decode cX10_init 133 = .ok (.new 76, 3) := by decide +kernel
theorem dX10_init_136 : decode cX10_init 136 = .ok (.dup, 1) := by decide +kernel
theorem dX10_init_137 : decode cX10_init 137 = .ok (.invokespecial 78, 3) := by decide +kernel
theorem dX10_init_140 : decode cX10_init 140 = .ok (.putfield 79, 3) := by decide +kernel
theorem dX10_init_143 : decode cX10_init 143 = .ok (.aload_n 0, 1) := by decide +kernel
theorem dX10_init_144 : decode cX10_init 144 = .ok (.new 83, 3) := by decide +kernel
theorem dX10_init_147 : decode cX10_init 147 = .ok (.dup, 1) := by decide +kernel
theorem dX10_init_148 : decode cX10_init 148 = .ok (.invokespecial 85, 3) := by decide +kernel
theorem dX10_init_151 : decode cX10_init 151 = .ok (.putfield 86, 3) := by decide +kernel
theorem dX10_init_154 : decode cX10_init 154 = .ok (.aload_n 0, 1) := by decide +kernel
theorem dX10_init_155 : decode cX10_init 155 = .ok (.new 90, 3) := by decide +kernel
theorem dX10_init_158 : decode cX10_init 158 = .ok (.dup, 1) := by decide +kernel
theorem dX10_init_159 : decode cX10_init 159 = .ok (.invokespecial 92, 3) := by decide +kernel
theorem dX10_init_162 : decode cX10_init 162 = .ok (.putfield 93, 3) := by decide +kernel
theorem dX10_init_165 : decode cX10_init 165 = .ok (.iconst 0, 1) := by decide +kernel
theorem dX10_init_166 : decode cX10_init 166 = .ok (.istore_n 1, 1) := by decide +kernel
theorem dX10_init_167 : decode cX10_init 167 = .ok (.iload_n 1, 1) := by decide +kernel
theorem dX10_init_168 : decode cX10_init 168 = .ok (.iconst 2, 1) := by decide +kernel
theorem dX10_init_169 : decode cX10_init 169 = .ok (.if_icmp .ge 26, 3) := by decide +kernel
theorem dX10_init_172 : decode cX10_init 172 = .ok (.aload_n 0, 1) := by decide +kernel
theorem dX10_init_173 : decode cX10_init 173 = .ok (.getfield 33, 3) := by decide +kernel
theorem dX10_init_176 : decode cX10_init 176 = .ok (.iload_n 1, 1) := by decide +kernel
theorem dX10_init_177 : decode cX10_init 177 = .ok (.new 21, 3) := by decide +kernel
theorem dX10_init_180 : decode cX10_init 180 = .ok (.dup, 1) := by decide +kernel
theorem dX10_init_181 : decode cX10_init 181 = .ok (.aload_n 0, 1) := by decide +kernel
theorem dX10_init_182 : decode cX10_init 182 = .ok (.getfield 14, 3) := by decide +kernel
theorem dX10_init_185 : decode cX10_init 185 = .ok (.invokespecial 23, 3) := by decide +kernel
theorem dX10_init_188 : decode cX10_init 188 = .ok (.aastore, 1) := by decide +kernel
theorem dX10_init_189 : decode cX10_init 189 = .ok (.iinc 1 1, 3) := by decide +kernel
theorem dX10_init_192 : decode cX10_init 192 = .ok (.goto (-25), 3) := by decide +kernel
theorem dX10_init_195 : decode cX10_init 195 = .ok (.return_, 1) := by decide +kernel
theorem dX10_feed_0 : decode cX10_feed 0 = .ok (.aload_n 0, 1) := by decide +kernel
theorem dX10_feed_1 : decode cX10_feed 1 = .ok (.getfield 51, 3) := by decide +kernel
theorem dX10_feed_4 : decode cX10_feed 4 = .ok (.getfield 97, 3) := by decide +kernel
theorem dX10_feed_7 : decode cX10_feed 7 = .ok (.sipush 220, 3) := by decide +kernel
theorem dX10_feed_10 : decode cX10_feed 10 = .ok (.if_icmp .le 5, 3) := by decide +kernel
theorem dX10_feed_13 : decode cX10_feed 13 = .ok (.iconst (-1), 1) := by decide +kernel
theorem dX10_feed_14 : decode cX10_feed 14 = .ok (.ireturn, 1) := by decide +kernel
theorem dX10_feed_15 : decode cX10_feed 15 = .ok (.aload_n 0, 1) := by decide +kernel
theorem dX10_feed_16 : decode cX10_feed 16 = .ok (.getfield 51, 3) := by decide +kernel
theorem dX10_feed_19 : decode cX10_feed 19 = .ok (.iload_n 1, 1) := by decide +kernel
theorem dX10_feed_20 : decode cX10_feed 20 = .ok (.invokevirtual 101, 3) := by decide +kernel
theorem dX10_feed_23 : decode cX10_feed 23 = .ok (.aload_n 0, 1) := by decide +kernel
theorem dX10_feed_24 : decode cX10_feed 24 = .ok (.getfield 51, 3) := by decide +kernel
theorem dX10_feed_27 : decode cX10_feed 27 = .ok (.iload_n 2, 1) := by decide +kernel
theorem dX10_feed_28 : decode cX10_feed 28 = .ok (.invokevirtual 101, 3) := by decide +kernel
theorem dX10_feed_31 : decode cX10_feed 31 = .ok (.aload_n 0, 1) := by decide +kernel
theorem dX10_feed_32 : decode cX10_feed 32 = .ok (.getfield 51, 3) := by decide +kernel
theorem dX10_feed_35 : decode cX10_feed 35 = .ok (.iload_n 3, 1) := by decide +kernel
theorem dX10_feed_36 : decode cX10_feed 36 = .ok (.invokevirtual 101, 3) := by decide +kernel
theorem dX10_feed_39 : decode cX10_feed 39 = .ok (.aload_n 0, 1) := by decide +kernel
theorem dX10_feed_40 : decode cX10_feed 40 = .ok (.getfield 51, 3) := by decide +kernel
theorem dX10_feed_43 : decode cX10_feed 43 = .ok (.iload 4, 2) := by decide +kernel
theorem dX10_feed_45 : decode cX10_feed 45 = .ok (.invokevirtual 101, 3) := by decide +kernel
theorem dX10_feed_48 : decode cX10_feed 48 = .ok (.aload_n 0, 1) := by decide +kernel
theorem dX10_feed_49 : decode cX10_feed 49 = .ok (.getfield 51, 3) := by decide +kernel
theorem dX10_feed_52 : decode cX10_feed 52 = .ok (.iload 5, 2) := by decide +kernel
theorem dX10_feed_54 : decode cX10_feed 54 = .ok (.invokevirtual 101, 3) := by decide +kernel
theorem dX10_feed_57 : decode cX10_feed 57 = .ok (.aload_n 0, 1) := by decide +kernel
theorem dX10_feed_58 : decode cX10_feed 58 = .ok (.getfield 51, 3) := by decide +kernel
theorem dX10_feed_61 : decode cX10_feed 61 = .ok (.getfield 97, 3) := by decide +kernel
theorem dX10_feed_64 : decode cX10_feed 64 = .ok (.ireturn, 1) := by decide +kernel
theorem dX10_end_0 : decode cX10_end 0 = .ok (.iload_n 1, 1) := by decide +kernel
theorem dX10_end_1 : decode cX10_end 1 = .ok (.ifCond .lt 14, 3) := by decide +kernel
theorem dX10_end_4 : decode cX10_end 4 = .ok (.iload_n 1, 1) := by decide +kernel
theorem dX10_end_5 : decode cX10_end 5 = .ok (.aload_n 0, 1) := by decide +kernel
theorem dX10_end_6 : decode cX10_end 6 = .ok (.getfield 51, 3) := by decide +kernel
theorem dX10_end_9 : decode cX10_end 9 = .ok (.getfield 97, 3) := by decide +kernel
theorem dX10_end_12 : decode cX10_end 12 = .ok (.if_icmp .le 5, 3) := by decide +kernel
theorem dX10_end_15 : decode cX10_end 15 = .ok (.iconst 0, 1) := by decide +kernel
theorem dX10_end_16 : decode cX10_end 16 = .ok (.ireturn, 1) := by decide +kernel
theorem dX10_end_17 : decode cX10_end 17 = .ok (.aload_n 0, 1) := by decide +kernel
theorem dX10_end_18 : decode cX10_end 18 = .ok (.getfield 51, 3) := by decide +kernel
theorem dX10_end_21 : decode cX10_end 21 = .ok (.iload_n 1, 1) := by decide +kernel
theorem dX10_end_22 : decode cX10_end 22 = .ok (.putfield 97, 3) := by decide +kernel
theorem dX10_end_25 : decode cX10_end 25 = .ok (.iconst 1, 1) := by decide +kernel
theorem dX10_end_26 : decode cX10_end 26 = .ok (.ireturn, 1) := by decide +kernel
theorem dX10_code_0 : decode cX10_code 0 = .ok (.iload_n 1, 1) := by decide +kernel
theorem dX10_code_1 : decode cX10_code 1 = .ok (.aload_n 0, 1) := by decide +kernel
theorem dX10_code_2 : decode cX10_code 2 = .ok (.getfield 14, 3) := by decide +kernel
theorem dX10_code_5 : decode cX10_code 5 = .ok (.getfield 104, 3) := by decide +kernel
theorem dX10_code_8 : decode cX10_code 8 = .ok (.if_icmp .eq 16, 3) := by decide +kernel
theorem dX10_code_11 : decode cX10_code 11 = .ok (.iload_n 1, 1) := by decide +kernel
theorem dX10_code_12 : decode cX10_code 12 = .ok (.aload_n 0, 1) := by decide +kernel
theorem dX10_code_13 : decode cX10_code 13 = .ok (.getfield 18, 3) := by decide +kernel
theorem dX10_code_16 : decode cX10_code 16 = .ok (.getfield 104, 3) := by decide +kernel
theorem dX10_code_19 : decode cX10_code 19 = .ok (.if_icmp .eq 5, 3) := by decide +kernel
theorem dX10_code_22 : decode cX10_code 22 = .ok (.iconst (-1), 1) := by decide +kernel
theorem dX10_code_23 : decode cX10_code 23 = .ok (.ireturn, 1) := by decide +kernel
theorem dX10_code_24 : decode cX10_code 24 = .ok (.aload_n 0, 1) := by decide +kernel
theorem dX10_code_25 : decode cX10_code 25 = .ok (.getfield 26, 3) := by decide +kernel
theorem dX10_code_28 : decode cX10_code 28 = .ok (.iload_n 1, 1) := by decide +kernel
theorem dX10_code_29 : decode cX10_code 29 = .ok (.aload_n 0, 1) := by decide +kernel
theorem dX10_code_30 : decode cX10_code 30 = .ok (.getfield 14, 3) := by decide +kernel
theorem dX10_code_33 : decode cX10_code 33 = .ok (.getfield 104, 3) := by decide +kernel
theorem dX10_code_36 : decode cX10_code 36 = .ok (.if_icmp .ne 10, 3) := by decide +kernel
theorem dX10_code_39 : decode cX10_code 39 = .ok (.aload_n 0, 1) := by decide +kernel
theorem dX10_code_40 : decode cX10_code 40 = .ok (.getfield 14, 3) := by decide +kernel
theorem dX10_code_43 : decode cX10_code 43 = .ok (.goto 7, 3) := by decide +kernel
theorem dX10_code_46 : decode cX10_code 46 = .ok (.aload_n 0, 1) := by decide +kernel
theorem dX10_code_47 : decode cX10_code 47 = .ok (.getfield 18, 3) := by decide +kernel
theorem dX10_code_50 : decode cX10_code 50 = .ok (.invokevirtual 107, 3) := by decide +kernel
theorem dX10_code_53 : decode cX10_code 53 = .ok (.aload_n 0, 1) := by decide +kernel
theorem dX10_code_54 : decode cX10_code 54 = .ok (.getfield 44, 3) := by decide +kernel
theorem dX10_code_57 : decode cX10_code 57 = .ok (.iconst 0, 1) := by decide +kernel
theorem dX10_code_58 : decode cX10_code 58 = .ok (.putfield 110, 3) := by decide +kernel
theorem dX10_code_61 : decode cX10_code 61 = .ok (.aload_n 0, 1) := by decide +kernel
theorem dX10_code_62 : decode cX10_code 62 = .ok (.getfield 26, 3) := by decide +kernel
theorem dX10_code_65 : decode cX10_code 65 = .ok (.getfield 113, 3) := by decide +kernel
theorem dX10_code_68 : decode cX10_code 68 = .ok (.getfield 116, 3) := by decide +kernel
theorem dX10_code_71 : decode cX10_code 71 = .ok (.ireturn, 1) := by decide +kernel
theorem dX10_work_0 : decode cX10_work 0 = .ok (.aload_n 0, 1) := by decide +kernel
theorem dX10_work_1 : decode cX10_work 1 = .ok (.getfield 51, 3) := by decide +kernel
theorem dX10_work_4 : decode cX10_work 4 = .ok (.aload_n 0, 1) := by decide +kernel
theorem dX10_work_5 : decode cX10_work 5 = .ok (.getfield 26, 3) := by decide +kernel
theorem dX10_work_8 : decode cX10_work 8 = .ok (.getfield 113, 3) := by decide +kernel
theorem dX10_work_11 : decode cX10_work 11 = .ok (.invokevirtual 119, 3) := by decide +kernel
theorem dX10_work_14 : decode cX10_work 14 = .ok (.istore_n 1, 1) := by decide +kernel
theorem dX10_work_15 : decode cX10_work 15 = .ok (.aload_n 0, 1) := by decide +kernel
theorem dX10_work_16 : decode cX10_work 16 = .ok (.getfield 51, 3) := by decide +kernel
theorem dX10_work_19 : decode cX10_work 19 = .ok (.iconst 0, 1) := by decide +kernel
theorem dX10_work_20 : decode cX10_work 20 = .ok (.putfield 97, 3) := by decide +kernel
theorem dX10_work_23 : decode cX10_work 23 = .ok (.iload_n 1, 1) := by decide +kernel
theorem dX10_work_24 : decode cX10_work 24 = .ok (.ifCond .ne 15, 3) := by decide +kernel
theorem dX10_work_27 : decode cX10_work 27 = .ok (.sipush (-1000), 3) := by decide +kernel
theorem dX10_work_30 : decode cX10_work 30 = .ok (.aload_n 0, 1) := by decide +kernel
theorem dX10_work_31 : decode cX10_work 31 = .ok (.getfield 51, 3) := by decide +kernel
theorem dX10_work_34 : decode cX10_work 34 = .ok (.getfield 123, 3) := by decide +kernel
theorem dX10_work_37 : decode cX10_work 37 = .ok (.isub, 1) := by decide +kernel
theorem dX10_work_38 : decode cX10_work 38 = .ok (.ireturn, 1) := by decide +kernel
theorem dX10_work_39 : decode cX10_work 39 = .ok (.aload_n 0, 1) := by decide +kernel
theorem dX10_work_40 : decode cX10_work 40 = .ok (.getfield 44, 3) := by decide +kernel
theorem dX10_work_43 : decode cX10_work 43 = .ok (.aload_n 0, 1) := by decide +kernel
theorem dX10_work_44 : decode cX10_work 44 = .ok (.getfield 26, 3) := by decide +kernel
theorem dX10_work_47 : decode cX10_work 47 = .ok (.invokevirtual 126, 3) := by decide +kernel
theorem dX10_work_50 : decode cX10_work 50 = .ok (.aload_n 0, 1) := by decide +kernel
theorem dX10_work_51 : decode cX10_work 51 = .ok (.getfield 51, 3) := by decide +kernel
theorem dX10_work_54 : decode cX10_work 54 = .ok (.aload_n 0, 1) := by decide +kernel
theorem dX10_work_55 : decode cX10_work 55 = .ok (.getfield 26, 3) := by decide +kernel
theorem dX10_work_58 : decode cX10_work 58 = .ok (.invokevirtual 130, 3) := by decide +kernel
theorem dX10_work_61 : decode cX10_work 61 = .ok (.ireturn, 1) := by decide +kernel
theorem dX10_fault_0 : decode cX10_fault 0 = .ok (.aload_n 0, 1) := by decide +kernel
theorem dX10_fault_1 : decode cX10_fault 1 = .ok (.getfield 51, 3) := by decide +kernel
theorem dX10_fault_4 : decode cX10_fault 4 = .ok (.getfield 134, 3) := by decide +kernel
theorem dX10_fault_7 : decode cX10_fault 7 = .ok (.ireturn, 1) := by decide +kernel
theorem dX10_now_0 : decode cX10_now 0 = .ok (.iload_n 1, 1) := by decide +kernel
theorem dX10_now_1 : decode cX10_now 1 = .ok (.tableswitch 129 0 9 #[55, 66, 74, 85, 85, 97, 97, 108, 108, 121], 55) := by decide +kernel
theorem dX10_now_56 : decode cX10_now 56 = .ok (.aload_n 0, 1) := by decide +kernel
theorem dX10_now_57 : decode cX10_now 57 = .ok (.getfield 26, 3) := by decide +kernel
theorem dX10_now_60 : decode cX10_now 60 = .ok (.getfield 113, 3) := by decide +kernel
theorem dX10_now_63 : decode cX10_now 63 = .ok (.getfield 104, 3) := by decide +kernel
theorem dX10_now_66 : decode cX10_now 66 = .ok (.ireturn, 1) := by decide +kernel
theorem dX10_now_67 : decode cX10_now 67 = .ok (.aload_n 0, 1) := by decide +kernel
theorem dX10_now_68 : decode cX10_now 68 = .ok (.getfield 26, 3) := by decide +kernel
theorem dX10_now_71 : decode cX10_now 71 = .ok (.getfield 137, 3) := by decide +kernel
theorem dX10_now_74 : decode cX10_now 74 = .ok (.ireturn, 1) := by decide +kernel
theorem dX10_now_75 : decode cX10_now 75 = .ok (.aload_n 0, 1) := by decide +kernel
theorem dX10_now_76 : decode cX10_now 76 = .ok (.getfield 26, 3) := by decide +kernel
theorem dX10_now_79 : decode cX10_now 79 = .ok (.getfield 113, 3) := by decide +kernel
theorem dX10_now_82 : decode cX10_now 82 = .ok (.getfield 140, 3) := by decide +kernel
theorem dX10_now_85 : decode cX10_now 85 = .ok (.ireturn, 1) := by decide +kernel
theorem dX10_now_86 : decode cX10_now 86 = .ok (.aload_n 0, 1) := by decide +kernel
theorem dX10_now_87 : decode cX10_now 87 = .ok (.getfield 26, 3) := by decide +kernel
theorem dX10_now_90 : decode cX10_now 90 = .ok (.getfield 143, 3) := by decide +kernel
theorem dX10_now_93 : decode cX10_now 93 = .ok (.iload_n 1, 1) := by decide +kernel
theorem dX10_now_94 : decode cX10_now 94 = .ok (.iconst 3, 1) := by decide +kernel
theorem dX10_now_95 : decode cX10_now 95 = .ok (.isub, 1) := by decide +kernel
theorem dX10_now_96 : decode cX10_now 96 = .ok (.iaload, 1) := by decide +kernel
theorem dX10_now_97 : decode cX10_now 97 = .ok (.ireturn, 1) := by decide +kernel
theorem dX10_now_98 : decode cX10_now 98 = .ok (.aload_n 0, 1) := by decide +kernel
theorem dX10_now_99 : decode cX10_now 99 = .ok (.getfield 26, 3) := by decide +kernel
theorem dX10_now_102 : decode cX10_now 102 = .ok (.iload_n 1, 1) := by decide +kernel
theorem dX10_now_103 : decode cX10_now 103 = .ok (.iconst 5, 1) := by decide +kernel
theorem dX10_now_104 : decode cX10_now 104 = .ok (.isub, 1) := by decide +kernel
theorem dX10_now_105 : decode cX10_now 105 = .ok (.invokevirtual 147, 3) := by decide +kernel
theorem dX10_now_108 : decode cX10_now 108 = .ok (.ireturn, 1) := by decide +kernel
theorem dX10_now_109 : decode cX10_now 109 = .ok (.aload_n 0, 1) := by decide +kernel
theorem dX10_now_110 : decode cX10_now 110 = .ok (.getfield 26, 3) := by decide +kernel
theorem dX10_now_113 : decode cX10_now 113 = .ok (.getfield 151, 3) := by decide +kernel
theorem dX10_now_116 : decode cX10_now 116 = .ok (.iload_n 1, 1) := by decide +kernel
theorem dX10_now_117 : decode cX10_now 117 = .ok (.bipush 7, 2) := by decide +kernel
theorem dX10_now_119 : decode cX10_now 119 = .ok (.isub, 1) := by decide +kernel
theorem dX10_now_120 : decode cX10_now 120 = .ok (.iaload, 1) := by decide +kernel
theorem dX10_now_121 : decode cX10_now 121 = .ok (.ireturn, 1) := by decide +kernel
theorem dX10_now_122 : decode cX10_now 122 = .ok (.aload_n 0, 1) := by decide +kernel
theorem dX10_now_123 : decode cX10_now 123 = .ok (.getfield 51, 3) := by decide +kernel
theorem dX10_now_126 : decode cX10_now 126 = .ok (.getfield 97, 3) := by decide +kernel
theorem dX10_now_129 : decode cX10_now 129 = .ok (.ireturn, 1) := by decide +kernel
theorem dX10_now_130 : decode cX10_now 130 = .ok (.iconst (-1), 1) := by decide +kernel
theorem dX10_now_131 : decode cX10_now 131 = .ok (.ireturn, 1) := by decide +kernel
theorem dX10_check_0 : decode cX10_check 0 = .ok (.aload_n 0, 1) := by decide +kernel
theorem dX10_check_1 : decode cX10_check 1 = .ok (.iload_n 1, 1) := by decide +kernel
theorem dX10_check_2 : decode cX10_check 2 = .ok (.iload_n 2, 1) := by decide +kernel
theorem dX10_check_3 : decode cX10_check 3 = .ok (.invokevirtual 154, 3) := by decide +kernel
theorem dX10_check_6 : decode cX10_check 6 = .ok (.ifCond .ne 11, 3) := by decide +kernel
theorem dX10_check_9 : decode cX10_check 9 = .ok (.new 158, 3) := by decide +kernel
theorem dX10_check_12 : decode cX10_check 12 = .ok (.dup, 1) := by decide +kernel
theorem dX10_check_13 : decode cX10_check 13 = .ok (.invokespecial 160, 3) := by decide +kernel
theorem dX10_check_16 : decode cX10_check 16 = .ok (.athrow, 1) := by decide +kernel
theorem dX10_check_17 : decode cX10_check 17 = .ok (.iload_n 3, 1) := by decide +kernel
theorem dX10_check_18 : decode cX10_check 18 = .ok (.tableswitch 87 0 3 #[30, 45, 60, 75], 30) := by decide +kernel
theorem dX10_check_48 : decode cX10_check 48 = .ok (.aload_n 0, 1) := by decide +kernel
theorem dX10_check_49 : decode cX10_check 49 = .ok (.getfield 26, 3) := by decide +kernel
theorem dX10_check_52 : decode cX10_check 52 = .ok (.getfield 113, 3) := by decide +kernel
theorem dX10_check_55 : decode cX10_check 55 = .ok (.getfield 161, 3) := by decide +kernel
theorem dX10_check_58 : decode cX10_check 58 = .ok (.iload_n 1, 1) := by decide +kernel
theorem dX10_check_59 : decode cX10_check 59 = .ok (.aaload, 1) := by decide +kernel
theorem dX10_check_60 : decode cX10_check 60 = .ok (.iload_n 2, 1) := by decide +kernel
theorem dX10_check_61 : decode cX10_check 61 = .ok (.iaload, 1) := by decide +kernel
theorem dX10_check_62 : decode cX10_check 62 = .ok (.ireturn, 1) := by decide +kernel
theorem dX10_check_63 : decode cX10_check 63 = .ok (.aload_n 0, 1) := by decide +kernel
theorem dX10_check_64 : decode cX10_check 64 = .ok (.getfield 26, 3) := by decide +kernel
theorem dX10_check_67 : decode cX10_check 67 = .ok (.getfield 113, 3) := by decide +kernel
theorem dX10_check_70 : decode cX10_check 70 = .ok (.getfield 165, 3) := by decide +kernel
theorem dX10_check_73 : decode cX10_check 73 = .ok (.iload_n 1, 1) := by decide +kernel
theorem dX10_check_74 : decode cX10_check 74 = .ok (.aaload, 1) := by decide +kernel
theorem dX10_check_75 : decode cX10_check 75 = .ok (.iload_n 2, 1) := by decide +kernel
theorem dX10_check_76 : decode cX10_check 76 = .ok (.iaload, 1) := by decide +kernel
theorem dX10_check_77 : decode cX10_check 77 = .ok (.ireturn, 1) := by decide +kernel
theorem dX10_check_78 : decode cX10_check 78 = .ok (.aload_n 0, 1) := by decide +kernel
theorem dX10_check_79 : decode cX10_check 79 = .ok (.getfield 26, 3) := by decide +kernel
theorem dX10_check_82 : decode cX10_check 82 = .ok (.getfield 113, 3) := by decide +kernel
theorem dX10_check_85 : decode cX10_check 85 = .ok (.getfield 168, 3) := by decide +kernel
theorem dX10_check_88 : decode cX10_check 88 = .ok (.iload_n 1, 1) := by decide +kernel
theorem dX10_check_89 : decode cX10_check 89 = .ok (.aaload, 1) := by decide +kernel
theorem dX10_check_90 : decode cX10_check 90 = .ok (.iload_n 2, 1) := by decide +kernel
theorem dX10_check_91 : decode cX10_check 91 = .ok (.iaload, 1) := by decide +kernel
theorem dX10_check_92 : decode cX10_check 92 = .ok (.ireturn, 1) := by decide +kernel
theorem dX10_check_93 : decode cX10_check 93 = .ok (.aload_n 0, 1) := by decide +kernel
theorem dX10_check_94 : decode cX10_check 94 = .ok (.getfield 26, 3) := by decide +kernel
theorem dX10_check_97 : decode cX10_check 97 = .ok (.getfield 171, 3) := by decide +kernel
theorem dX10_check_100 : decode cX10_check 100 = .ok (.iload_n 1, 1) := by decide +kernel
theorem dX10_check_101 : decode cX10_check 101 = .ok (.aaload, 1) := by decide +kernel
theorem dX10_check_102 : decode cX10_check 102 = .ok (.iload_n 2, 1) := by decide +kernel
theorem dX10_check_103 : decode cX10_check 103 = .ok (.iaload, 1) := by decide +kernel
theorem dX10_check_104 : decode cX10_check 104 = .ok (.ireturn, 1) := by decide +kernel
theorem dX10_check_105 : decode cX10_check 105 = .ok (.new 158, 3) := by decide +kernel
theorem dX10_check_108 : decode cX10_check 108 = .ok (.dup, 1) := by decide +kernel
theorem dX10_check_109 : decode cX10_check 109 = .ok (.invokespecial 160, 3) := by decide +kernel
theorem dX10_check_112 : decode cX10_check 112 = .ok (.athrow, 1) := by decide +kernel
theorem dX10_qubit_0 : decode cX10_qubit 0 = .ok (.iload_n 1, 1) := by decide +kernel
theorem dX10_qubit_1 : decode cX10_qubit 1 = .ok (.ifCond .lt 17, 3) := by decide +kernel
theorem dX10_qubit_4 : decode cX10_qubit 4 = .ok (.iload_n 1, 1) := by decide +kernel
theorem dX10_qubit_5 : decode cX10_qubit 5 = .ok (.aload_n 0, 1) := by decide +kernel
theorem dX10_qubit_6 : decode cX10_qubit 6 = .ok (.getfield 26, 3) := by decide +kernel
theorem dX10_qubit_9 : decode cX10_qubit 9 = .ok (.getfield 113, 3) := by decide +kernel
theorem dX10_qubit_12 : decode cX10_qubit 12 = .ok (.getfield 116, 3) := by decide +kernel
theorem dX10_qubit_15 : decode cX10_qubit 15 = .ok (.if_icmp .lt 11, 3) := by decide +kernel
theorem dX10_qubit_18 : decode cX10_qubit 18 = .ok (.new 158, 3) := by decide +kernel
theorem dX10_qubit_21 : decode cX10_qubit 21 = .ok (.dup, 1) := by decide +kernel
theorem dX10_qubit_22 : decode cX10_qubit 22 = .ok (.invokespecial 160, 3) := by decide +kernel
theorem dX10_qubit_25 : decode cX10_qubit 25 = .ok (.athrow, 1) := by decide +kernel
theorem dX10_qubit_26 : decode cX10_qubit 26 = .ok (.iload_n 2, 1) := by decide +kernel
theorem dX10_qubit_27 : decode cX10_qubit 27 = .ok (.tableswitch 50 0 2 #[25, 35, 35], 25) := by decide +kernel
theorem dX10_qubit_52 : decode cX10_qubit 52 = .ok (.aload_n 0, 1) := by decide +kernel
theorem dX10_qubit_53 : decode cX10_qubit 53 = .ok (.getfield 26, 3) := by decide +kernel
theorem dX10_qubit_56 : decode cX10_qubit 56 = .ok (.getfield 174, 3) := by decide +kernel
theorem dX10_qubit_59 : decode cX10_qubit 59 = .ok (.iload_n 1, 1) := by decide +kernel
theorem dX10_qubit_60 : decode cX10_qubit 60 = .ok (.iaload, 1) := by decide +kernel
theorem dX10_qubit_61 : decode cX10_qubit 61 = .ok (.ireturn, 1) := by decide +kernel
theorem dX10_qubit_62 : decode cX10_qubit 62 = .ok (.aload_n 0, 1) := by decide +kernel
theorem dX10_qubit_63 : decode cX10_qubit 63 = .ok (.getfield 26, 3) := by decide +kernel
theorem dX10_qubit_66 : decode cX10_qubit 66 = .ok (.getfield 113, 3) := by decide +kernel
theorem dX10_qubit_69 : decode cX10_qubit 69 = .ok (.iload_n 2, 1) := by decide +kernel
theorem dX10_qubit_70 : decode cX10_qubit 70 = .ok (.iconst 1, 1) := by decide +kernel
theorem dX10_qubit_71 : decode cX10_qubit 71 = .ok (.isub, 1) := by decide +kernel
theorem dX10_qubit_72 : decode cX10_qubit 72 = .ok (.iload_n 1, 1) := by decide +kernel
theorem dX10_qubit_73 : decode cX10_qubit 73 = .ok (.invokevirtual 177, 3) := by decide +kernel
theorem dX10_qubit_76 : decode cX10_qubit 76 = .ok (.ireturn, 1) := by decide +kernel
theorem dX10_qubit_77 : decode cX10_qubit 77 = .ok (.new 158, 3) := by decide +kernel
theorem dX10_qubit_80 : decode cX10_qubit 80 = .ok (.dup, 1) := by decide +kernel
theorem dX10_qubit_81 : decode cX10_qubit 81 = .ok (.invokespecial 160, 3) := by decide +kernel
theorem dX10_qubit_84 : decode cX10_qubit 84 = .ok (.athrow, 1) := by decide +kernel
theorem dX10_reading_0 : decode cX10_reading 0 = .ok (.iload_n 1, 1) := by decide +kernel
theorem dX10_reading_1 : decode cX10_reading 1 = .ok (.invokestatic 181, 3) := by decide +kernel
theorem dX10_reading_4 : decode cX10_reading 4 = .ok (.ifCond .eq 11, 3) := by decide +kernel
theorem dX10_reading_7 : decode cX10_reading 7 = .ok (.aload_n 0, 1) := by decide +kernel
theorem dX10_reading_8 : decode cX10_reading 8 = .ok (.iload_n 2, 1) := by decide +kernel
theorem dX10_reading_9 : decode cX10_reading 9 = .ok (.invokevirtual 185, 3) := by decide +kernel
theorem dX10_reading_12 : decode cX10_reading 12 = .ok (.ifCond .ne 5, 3) := by decide +kernel
theorem dX10_reading_15 : decode cX10_reading 15 = .ok (.iconst (-1), 1) := by decide +kernel
theorem dX10_reading_16 : decode cX10_reading 16 = .ok (.ireturn, 1) := by decide +kernel
theorem dX10_reading_17 : decode cX10_reading 17 = .ok (.aload_n 0, 1) := by decide +kernel
theorem dX10_reading_18 : decode cX10_reading 18 = .ok (.getfield 26, 3) := by decide +kernel
theorem dX10_reading_21 : decode cX10_reading 21 = .ok (.getfield 188, 3) := by decide +kernel
theorem dX10_reading_24 : decode cX10_reading 24 = .ok (.iload_n 1, 1) := by decide +kernel
theorem dX10_reading_25 : decode cX10_reading 25 = .ok (.aaload, 1) := by decide +kernel
theorem dX10_reading_26 : decode cX10_reading 26 = .ok (.iload_n 2, 1) := by decide +kernel
theorem dX10_reading_27 : decode cX10_reading 27 = .ok (.iaload, 1) := by decide +kernel
theorem dX10_reading_28 : decode cX10_reading 28 = .ok (.ireturn, 1) := by decide +kernel
theorem dX10_events_0 : decode cX10_events 0 = .ok (.iload_n 1, 1) := by decide +kernel
theorem dX10_events_1 : decode cX10_events 1 = .ok (.invokestatic 181, 3) := by decide +kernel
theorem dX10_events_4 : decode cX10_events 4 = .ok (.ifCond .ne 5, 3) := by decide +kernel
theorem dX10_events_7 : decode cX10_events 7 = .ok (.iconst (-1), 1) := by decide +kernel
theorem dX10_events_8 : decode cX10_events 8 = .ok (.ireturn, 1) := by decide +kernel
theorem dX10_events_9 : decode cX10_events 9 = .ok (.aload_n 0, 1) := by decide +kernel
theorem dX10_events_10 : decode cX10_events 10 = .ok (.getfield 58, 3) := by decide +kernel
theorem dX10_events_13 : decode cX10_events 13 = .ok (.aload_n 0, 1) := by decide +kernel
theorem dX10_events_14 : decode cX10_events 14 = .ok (.getfield 26, 3) := by decide +kernel
theorem dX10_events_17 : decode cX10_events 17 = .ok (.iload_n 1, 1) := by decide +kernel
theorem dX10_events_18 : decode cX10_events 18 = .ok (.invokevirtual 191, 3) := by decide +kernel
theorem dX10_events_21 : decode cX10_events 21 = .ok (.aload_n 0, 1) := by decide +kernel
theorem dX10_events_22 : decode cX10_events 22 = .ok (.getfield 58, 3) := by decide +kernel
theorem dX10_events_25 : decode cX10_events 25 = .ok (.getfield 195, 3) := by decide +kernel
theorem dX10_events_28 : decode cX10_events 28 = .ok (.ireturn, 1) := by decide +kernel
theorem dX10_event_0 : decode cX10_event 0 = .ok (.iload_n 1, 1) := by decide +kernel
theorem dX10_event_1 : decode cX10_event 1 = .ok (.invokestatic 181, 3) := by decide +kernel
theorem dX10_event_4 : decode cX10_event 4 = .ok (.ifCond .ne 5, 3) := by decide +kernel
theorem dX10_event_7 : decode cX10_event 7 = .ok (.iconst (-1), 1) := by decide +kernel
theorem dX10_event_8 : decode cX10_event 8 = .ok (.ireturn, 1) := by decide +kernel
theorem dX10_event_9 : decode cX10_event 9 = .ok (.aload_n 0, 1) := by decide +kernel
theorem dX10_event_10 : decode cX10_event 10 = .ok (.getfield 58, 3) := by decide +kernel
theorem dX10_event_13 : decode cX10_event 13 = .ok (.aload_n 0, 1) := by decide +kernel
theorem dX10_event_14 : decode cX10_event 14 = .ok (.getfield 26, 3) := by decide +kernel
theorem dX10_event_17 : decode cX10_event 17 = .ok (.iload_n 1, 1) := by decide +kernel
theorem dX10_event_18 : decode cX10_event 18 = .ok (.invokevirtual 191, 3) := by decide +kernel
theorem dX10_event_21 : decode cX10_event 21 = .ok (.aload_n 0, 1) := by decide +kernel
theorem dX10_event_22 : decode cX10_event 22 = .ok (.getfield 58, 3) := by decide +kernel
theorem dX10_event_25 : decode cX10_event 25 = .ok (.iload_n 2, 1) := by decide +kernel
theorem dX10_event_26 : decode cX10_event 26 = .ok (.invokevirtual 198, 3) := by decide +kernel
theorem dX10_event_29 : decode cX10_event 29 = .ok (.ifCond .eq 12, 3) := by decide +kernel
theorem dX10_event_32 : decode cX10_event 32 = .ok (.iload_n 3, 1) := by decide +kernel
theorem dX10_event_33 : decode cX10_event 33 = .ok (.ifCond .lt 8, 3) := by decide +kernel
theorem dX10_event_36 : decode cX10_event 36 = .ok (.iload_n 3, 1) := by decide +kernel
theorem dX10_event_37 : decode cX10_event 37 = .ok (.iconst 1, 1) := by decide +kernel
theorem dX10_event_38 : decode cX10_event 38 = .ok (.if_icmp .le 5, 3) := by decide +kernel
theorem dX10_event_41 : decode cX10_event 41 = .ok (.iconst (-1), 1) := by decide +kernel
theorem dX10_event_42 : decode cX10_event 42 = .ok (.ireturn, 1) := by decide +kernel
theorem dX10_event_43 : decode cX10_event 43 = .ok (.iload_n 3, 1) := by decide +kernel
theorem dX10_event_44 : decode cX10_event 44 = .ok (.ifCond .ne 15, 3) := by decide +kernel
theorem dX10_event_47 : decode cX10_event 47 = .ok (.aload_n 0, 1) := by decide +kernel
theorem dX10_event_48 : decode cX10_event 48 = .ok (.getfield 58, 3) := by decide +kernel
theorem dX10_event_51 : decode cX10_event 51 = .ok (.getfield 201, 3) := by decide +kernel
theorem dX10_event_54 : decode cX10_event 54 = .ok (.iload_n 2, 1) := by decide +kernel
theorem dX10_event_55 : decode cX10_event 55 = .ok (.iaload, 1) := by decide +kernel
theorem dX10_event_56 : decode cX10_event 56 = .ok (.goto 12, 3) := by decide +kernel
theorem dX10_event_59 : decode cX10_event 59 = .ok (.aload_n 0, 1) := by decide +kernel
theorem dX10_event_60 : decode cX10_event 60 = .ok (.getfield 58, 3) := by decide +kernel
theorem dX10_event_63 : decode cX10_event 63 = .ok (.getfield 204, 3) := by decide +kernel
theorem dX10_event_66 : decode cX10_event 66 = .ok (.iload_n 2, 1) := by decide +kernel
theorem dX10_event_67 : decode cX10_event 67 = .ok (.iaload, 1) := by decide +kernel
theorem dX10_event_68 : decode cX10_event 68 = .ok (.ireturn, 1) := by decide +kernel
theorem dX10_far_0 : decode cX10_far 0 = .ok (.aload_n 0, 1) := by decide +kernel
theorem dX10_far_1 : decode cX10_far 1 = .ok (.iload_n 1, 1) := by decide +kernel
theorem dX10_far_2 : decode cX10_far 2 = .ok (.iload_n 2, 1) := by decide +kernel
theorem dX10_far_3 : decode cX10_far 3 = .ok (.iload_n 3, 1) := by decide +kernel
theorem dX10_far_4 : decode cX10_far 4 = .ok (.invokevirtual 207, 3) := by decide +kernel
theorem dX10_far_7 : decode cX10_far 7 = .ok (.ifCond .eq 13, 3) := by decide +kernel
theorem dX10_far_10 : decode cX10_far 10 = .ok (.aload_n 0, 1) := by decide +kernel
theorem dX10_far_11 : decode cX10_far 11 = .ok (.getfield 65, 3) := by decide +kernel
theorem dX10_far_14 : decode cX10_far 14 = .ok (.getfield 211, 3) := by decide +kernel
theorem dX10_far_17 : decode cX10_far 17 = .ok (.goto 4, 3) := by decide +kernel
theorem dX10_far_20 : decode cX10_far 20 = .ok (.iconst (-1), 1) := by decide +kernel
theorem dX10_far_21 : decode cX10_far 21 = .ok (.ireturn, 1) := by decide +kernel
theorem dX10_way_0 : decode cX10_way 0 = .ok (.aload_n 0, 1) := by decide +kernel
theorem dX10_way_1 : decode cX10_way 1 = .ok (.iload_n 1, 1) := by decide +kernel
theorem dX10_way_2 : decode cX10_way 2 = .ok (.iload_n 2, 1) := by decide +kernel
theorem dX10_way_3 : decode cX10_way 3 = .ok (.iload_n 3, 1) := by decide +kernel
theorem dX10_way_4 : decode cX10_way 4 = .ok (.invokevirtual 207, 3) := by decide +kernel
theorem dX10_way_7 : decode cX10_way 7 = .ok (.ifCond .eq 20, 3) := by decide +kernel
theorem dX10_way_10 : decode cX10_way 10 = .ok (.iload 4, 2) := by decide +kernel
theorem dX10_way_12 : decode cX10_way 12 = .ok (.ifCond .lt 15, 3) := by decide +kernel
theorem dX10_way_15 : decode cX10_way 15 = .ok (.iload 4, 2) := by decide +kernel
theorem dX10_way_17 : decode cX10_way 17 = .ok (.aload_n 0, 1) := by decide +kernel
theorem dX10_way_18 : decode cX10_way 18 = .ok (.getfield 65, 3) := by decide +kernel
theorem dX10_way_21 : decode cX10_way 21 = .ok (.getfield 214, 3) := by decide +kernel
theorem dX10_way_24 : decode cX10_way 24 = .ok (.if_icmp .lt 5, 3) := by decide +kernel
theorem dX10_way_27 : decode cX10_way 27 = .ok (.iconst (-1), 1) := by decide +kernel
theorem dX10_way_28 : decode cX10_way 28 = .ok (.ireturn, 1) := by decide +kernel
theorem dX10_way_29 : decode cX10_way 29 = .ok (.aload_n 0, 1) := by decide +kernel
theorem dX10_way_30 : decode cX10_way 30 = .ok (.getfield 65, 3) := by decide +kernel
theorem dX10_way_33 : decode cX10_way 33 = .ok (.getfield 215, 3) := by decide +kernel
theorem dX10_way_36 : decode cX10_way 36 = .ok (.iload 4, 2) := by decide +kernel
theorem dX10_way_38 : decode cX10_way 38 = .ok (.iaload, 1) := by decide +kernel
theorem dX10_way_39 : decode cX10_way 39 = .ok (.ireturn, 1) := by decide +kernel
theorem dX10_pair_0 : decode cX10_pair 0 = .ok (.iload_n 1, 1) := by decide +kernel
theorem dX10_pair_1 : decode cX10_pair 1 = .ok (.invokestatic 181, 3) := by decide +kernel
theorem dX10_pair_4 : decode cX10_pair 4 = .ok (.ifCond .eq 15, 3) := by decide +kernel
theorem dX10_pair_7 : decode cX10_pair 7 = .ok (.aload_n 0, 1) := by decide +kernel
theorem dX10_pair_8 : decode cX10_pair 8 = .ok (.aload_n 0, 1) := by decide +kernel
theorem dX10_pair_9 : decode cX10_pair 9 = .ok (.getfield 26, 3) := by decide +kernel
theorem dX10_pair_12 : decode cX10_pair 12 = .ok (.iload_n 1, 1) := by decide +kernel
theorem dX10_pair_13 : decode cX10_pair 13 = .ok (.invokevirtual 218, 3) := by decide +kernel
theorem dX10_pair_16 : decode cX10_pair 16 = .ok (.ifCond .ne 5, 3) := by decide +kernel
theorem dX10_pair_19 : decode cX10_pair 19 = .ok (.iconst (-1), 1) := by decide +kernel
theorem dX10_pair_20 : decode cX10_pair 20 = .ok (.ireturn, 1) := by decide +kernel
theorem dX10_pair_21 : decode cX10_pair 21 = .ok (.aload_n 0, 1) := by decide +kernel
theorem dX10_pair_22 : decode cX10_pair 22 = .ok (.getfield 93, 3) := by decide +kernel
theorem dX10_pair_25 : decode cX10_pair 25 = .ok (.aload_n 0, 1) := by decide +kernel
theorem dX10_pair_26 : decode cX10_pair 26 = .ok (.getfield 72, 3) := by decide +kernel
theorem dX10_pair_29 : decode cX10_pair 29 = .ok (.invokevirtual 222, 3) := by decide +kernel
theorem dX10_pair_32 : decode cX10_pair 32 = .ok (.aload_n 0, 1) := by decide +kernel
theorem dX10_pair_33 : decode cX10_pair 33 = .ok (.getfield 72, 3) := by decide +kernel
theorem dX10_pair_36 : decode cX10_pair 36 = .ok (.getfield 226, 3) := by decide +kernel
theorem dX10_pair_39 : decode cX10_pair 39 = .ok (.ireturn, 1) := by decide +kernel
theorem dX10_partner_0 : decode cX10_partner 0 = .ok (.iload_n 1, 1) := by decide +kernel
theorem dX10_partner_1 : decode cX10_partner 1 = .ok (.ifCond .lt 14, 3) := by decide +kernel
theorem dX10_partner_4 : decode cX10_partner 4 = .ok (.iload_n 1, 1) := by decide +kernel
theorem dX10_partner_5 : decode cX10_partner 5 = .ok (.aload_n 0, 1) := by decide +kernel
theorem dX10_partner_6 : decode cX10_partner 6 = .ok (.getfield 93, 3) := by decide +kernel
theorem dX10_partner_9 : decode cX10_partner 9 = .ok (.getfield 227, 3) := by decide +kernel
theorem dX10_partner_12 : decode cX10_partner 12 = .ok (.if_icmp .lt 5, 3) := by decide +kernel
theorem dX10_partner_15 : decode cX10_partner 15 = .ok (.iconst (-1), 1) := by decide +kernel
theorem dX10_partner_16 : decode cX10_partner 16 = .ok (.ireturn, 1) := by decide +kernel
theorem dX10_partner_17 : decode cX10_partner 17 = .ok (.aload_n 0, 1) := by decide +kernel
theorem dX10_partner_18 : decode cX10_partner 18 = .ok (.getfield 93, 3) := by decide +kernel
theorem dX10_partner_21 : decode cX10_partner 21 = .ok (.getfield 229, 3) := by decide +kernel
theorem dX10_partner_24 : decode cX10_partner 24 = .ok (.iload_n 1, 1) := by decide +kernel
theorem dX10_partner_25 : decode cX10_partner 25 = .ok (.iaload, 1) := by decide +kernel
theorem dX10_partner_26 : decode cX10_partner 26 = .ok (.ireturn, 1) := by decide +kernel
theorem dX10_pairings_0 : decode cX10_pairings 0 = .ok (.iload_n 1, 1) := by decide +kernel
theorem dX10_pairings_1 : decode cX10_pairings 1 = .ok (.invokestatic 181, 3) := by decide +kernel
theorem dX10_pairings_4 : decode cX10_pairings 4 = .ok (.ifCond .eq 15, 3) := by decide +kernel
theorem dX10_pairings_7 : decode cX10_pairings 7 = .ok (.aload_n 0, 1) := by decide +kernel
theorem dX10_pairings_8 : decode cX10_pairings 8 = .ok (.aload_n 0, 1) := by decide +kernel
theorem dX10_pairings_9 : decode cX10_pairings 9 = .ok (.getfield 26, 3) := by decide +kernel
theorem dX10_pairings_12 : decode cX10_pairings 12 = .ok (.iload_n 1, 1) := by decide +kernel
theorem dX10_pairings_13 : decode cX10_pairings 13 = .ok (.invokevirtual 218, 3) := by decide +kernel
theorem dX10_pairings_16 : decode cX10_pairings 16 = .ok (.ifCond .ne 5, 3) := by decide +kernel
theorem dX10_pairings_19 : decode cX10_pairings 19 = .ok (.iconst (-1), 1) := by decide +kernel
theorem dX10_pairings_20 : decode cX10_pairings 20 = .ok (.ireturn, 1) := by decide +kernel
theorem dX10_pairings_21 : decode cX10_pairings 21 = .ok (.aload_n 0, 1) := by decide +kernel
theorem dX10_pairings_22 : decode cX10_pairings 22 = .ok (.getfield 72, 3) := by decide +kernel
theorem dX10_pairings_25 : decode cX10_pairings 25 = .ok (.getfield 232, 3) := by decide +kernel
theorem dX10_pairings_28 : decode cX10_pairings 28 = .ok (.ireturn, 1) := by decide +kernel
theorem dX10_grow_0 : decode cX10_grow 0 = .ok (.iload_n 1, 1) := by decide +kernel
theorem dX10_grow_1 : decode cX10_grow 1 = .ok (.invokestatic 181, 3) := by decide +kernel
theorem dX10_grow_4 : decode cX10_grow 4 = .ok (.ifCond .ne 5, 3) := by decide +kernel
theorem dX10_grow_7 : decode cX10_grow 7 = .ok (.iconst (-1), 1) := by decide +kernel
theorem dX10_grow_8 : decode cX10_grow 8 = .ok (.ireturn, 1) := by decide +kernel
theorem dX10_grow_9 : decode cX10_grow 9 = .ok (.aload_n 0, 1) := by decide +kernel
theorem dX10_grow_10 : decode cX10_grow 10 = .ok (.aload_n 0, 1) := by decide +kernel
theorem dX10_grow_11 : decode cX10_grow 11 = .ok (.getfield 26, 3) := by decide +kernel
theorem dX10_grow_14 : decode cX10_grow 14 = .ok (.iload_n 1, 1) := by decide +kernel
theorem dX10_grow_15 : decode cX10_grow 15 = .ok (.invokevirtual 235, 3) := by decide +kernel
theorem dX10_grow_18 : decode cX10_grow 18 = .ok (.aload_n 0, 1) := by decide +kernel
theorem dX10_grow_19 : decode cX10_grow 19 = .ok (.getfield 93, 3) := by decide +kernel
theorem dX10_grow_22 : decode cX10_grow 22 = .ok (.aload_n 0, 1) := by decide +kernel
theorem dX10_grow_23 : decode cX10_grow 23 = .ok (.getfield 79, 3) := by decide +kernel
theorem dX10_grow_26 : decode cX10_grow 26 = .ok (.aload_n 0, 1) := by decide +kernel
theorem dX10_grow_27 : decode cX10_grow 27 = .ok (.getfield 58, 3) := by decide +kernel
theorem dX10_grow_30 : decode cX10_grow 30 = .ok (.invokevirtual 238, 3) := by decide +kernel
theorem dX10_grow_33 : decode cX10_grow 33 = .ok (.aload_n 0, 1) := by decide +kernel
theorem dX10_grow_34 : decode cX10_grow 34 = .ok (.getfield 79, 3) := by decide +kernel
theorem dX10_grow_37 : decode cX10_grow 37 = .ok (.getfield 242, 3) := by decide +kernel
theorem dX10_grow_40 : decode cX10_grow 40 = .ok (.ireturn, 1) := by decide +kernel
theorem dX10_grown_0 : decode cX10_grown 0 = .ok (.aload_n 0, 1) := by decide +kernel
theorem dX10_grown_1 : decode cX10_grown 1 = .ok (.getfield 93, 3) := by decide +kernel
theorem dX10_grown_4 : decode cX10_grown 4 = .ok (.getfield 243, 3) := by decide +kernel
theorem dX10_grown_7 : decode cX10_grown 7 = .ok (.ifCond .eq 19, 3) := by decide +kernel
theorem dX10_grown_10 : decode cX10_grown 10 = .ok (.iload_n 1, 1) := by decide +kernel
theorem dX10_grown_11 : decode cX10_grown 11 = .ok (.ifCond .lt 15, 3) := by decide +kernel
theorem dX10_grown_14 : decode cX10_grown 14 = .ok (.iload_n 1, 1) := by decide +kernel
theorem dX10_grown_15 : decode cX10_grown 15 = .ok (.aload_n 0, 1) := by decide +kernel
theorem dX10_grown_16 : decode cX10_grown 16 = .ok (.getfield 93, 3) := by decide +kernel
theorem dX10_grown_19 : decode cX10_grown 19 = .ok (.getfield 247, 3) := by decide +kernel
theorem dX10_grown_22 : decode cX10_grown 22 = .ok (.arraylength, 1) := by decide +kernel
theorem dX10_grown_23 : decode cX10_grown 23 = .ok (.if_icmp .lt 5, 3) := by decide +kernel
theorem dX10_grown_26 : decode cX10_grown 26 = .ok (.iconst (-1), 1) := by decide +kernel
theorem dX10_grown_27 : decode cX10_grown 27 = .ok (.ireturn, 1) := by decide +kernel
theorem dX10_grown_28 : decode cX10_grown 28 = .ok (.aload_n 0, 1) := by decide +kernel
theorem dX10_grown_29 : decode cX10_grown 29 = .ok (.getfield 93, 3) := by decide +kernel
theorem dX10_grown_32 : decode cX10_grown 32 = .ok (.getfield 247, 3) := by decide +kernel
theorem dX10_grown_35 : decode cX10_grown 35 = .ok (.iload_n 1, 1) := by decide +kernel
theorem dX10_grown_36 : decode cX10_grown 36 = .ok (.iaload, 1) := by decide +kernel
theorem dX10_grown_37 : decode cX10_grown 37 = .ok (.ireturn, 1) := by decide +kernel
theorem dX10_peeledAt_0 : decode cX10_peeledAt 0 = .ok (.iload_n 1, 1) := by decide +kernel
theorem dX10_peeledAt_1 : decode cX10_peeledAt 1 = .ok (.ifCond .lt 14, 3) := by decide +kernel
theorem dX10_peeledAt_4 : decode cX10_peeledAt 4 = .ok (.iload_n 1, 1) := by decide +kernel
theorem dX10_peeledAt_5 : decode cX10_peeledAt 5 = .ok (.aload_n 0, 1) := by decide +kernel
theorem dX10_peeledAt_6 : decode cX10_peeledAt 6 = .ok (.getfield 93, 3) := by decide +kernel
theorem dX10_peeledAt_9 : decode cX10_peeledAt 9 = .ok (.getfield 249, 3) := by decide +kernel
theorem dX10_peeledAt_12 : decode cX10_peeledAt 12 = .ok (.if_icmp .lt 5, 3) := by decide +kernel
theorem dX10_peeledAt_15 : decode cX10_peeledAt 15 = .ok (.iconst (-1), 1) := by decide +kernel
theorem dX10_peeledAt_16 : decode cX10_peeledAt 16 = .ok (.ireturn, 1) := by decide +kernel
theorem dX10_peeledAt_17 : decode cX10_peeledAt 17 = .ok (.aload_n 0, 1) := by decide +kernel
theorem dX10_peeledAt_18 : decode cX10_peeledAt 18 = .ok (.getfield 93, 3) := by decide +kernel
theorem dX10_peeledAt_21 : decode cX10_peeledAt 21 = .ok (.getfield 252, 3) := by decide +kernel
theorem dX10_peeledAt_24 : decode cX10_peeledAt 24 = .ok (.iload_n 1, 1) := by decide +kernel
theorem dX10_peeledAt_25 : decode cX10_peeledAt 25 = .ok (.iaload, 1) := by decide +kernel
theorem dX10_peeledAt_26 : decode cX10_peeledAt 26 = .ok (.ireturn, 1) := by decide +kernel
theorem dX10_blame_0 : decode cX10_blame 0 = .ok (.iload_n 1, 1) := by decide +kernel
theorem dX10_blame_1 : decode cX10_blame 1 = .ok (.invokestatic 181, 3) := by decide +kernel
theorem dX10_blame_4 : decode cX10_blame 4 = .ok (.ifCond .eq 11, 3) := by decide +kernel
theorem dX10_blame_7 : decode cX10_blame 7 = .ok (.aload_n 0, 1) := by decide +kernel
theorem dX10_blame_8 : decode cX10_blame 8 = .ok (.iload_n 3, 1) := by decide +kernel
theorem dX10_blame_9 : decode cX10_blame 9 = .ok (.invokevirtual 185, 3) := by decide +kernel
theorem dX10_blame_12 : decode cX10_blame 12 = .ok (.ifCond .ne 5, 3) := by decide +kernel
theorem dX10_blame_15 : decode cX10_blame 15 = .ok (.iconst (-1), 1) := by decide +kernel
theorem dX10_blame_16 : decode cX10_blame 16 = .ok (.ireturn, 1) := by decide +kernel
theorem dX10_blame_17 : decode cX10_blame 17 = .ok (.iload_n 2, 1) := by decide +kernel
theorem dX10_blame_18 : decode cX10_blame 18 = .ok (.ifCond .ne 46, 3) := by decide +kernel
theorem dX10_blame_21 : decode cX10_blame 21 = .ok (.aload_n 0, 1) := by decide +kernel
theorem dX10_blame_22 : decode cX10_blame 22 = .ok (.aload_n 0, 1) := by decide +kernel
theorem dX10_blame_23 : decode cX10_blame 23 = .ok (.getfield 26, 3) := by decide +kernel
theorem dX10_blame_26 : decode cX10_blame 26 = .ok (.iload_n 1, 1) := by decide +kernel
theorem dX10_blame_27 : decode cX10_blame 27 = .ok (.invokevirtual 218, 3) := by decide +kernel
theorem dX10_blame_30 : decode cX10_blame 30 = .ok (.ifCond .eq 34, 3) := by decide +kernel
theorem dX10_blame_33 : decode cX10_blame 33 = .ok (.aload_n 0, 1) := by decide +kernel
theorem dX10_blame_34 : decode cX10_blame 34 = .ok (.getfield 72, 3) := by decide +kernel
theorem dX10_blame_37 : decode cX10_blame 37 = .ok (.aload_n 0, 1) := by decide +kernel
theorem dX10_blame_38 : decode cX10_blame 38 = .ok (.getfield 58, 3) := by decide +kernel
theorem dX10_blame_41 : decode cX10_blame 41 = .ok (.aload_n 0, 1) := by decide +kernel
theorem dX10_blame_42 : decode cX10_blame 42 = .ok (.getfield 65, 3) := by decide +kernel
theorem dX10_blame_45 : decode cX10_blame 45 = .ok (.invokevirtual 255, 3) := by decide +kernel
theorem dX10_blame_48 : decode cX10_blame 48 = .ok (.aload_n 0, 1) := by decide +kernel
theorem dX10_blame_49 : decode cX10_blame 49 = .ok (.getfield 58, 3) := by decide +kernel
theorem dX10_blame_52 : decode cX10_blame 52 = .ok (.aload_n 0, 1) := by decide +kernel
theorem dX10_blame_53 : decode cX10_blame 53 = .ok (.getfield 72, 3) := by decide +kernel
theorem dX10_blame_56 : decode cX10_blame 56 = .ok (.getfield 259, 3) := by decide +kernel
theorem dX10_blame_59 : decode cX10_blame 59 = .ok (.iload_n 3, 1) := by decide +kernel
theorem dX10_blame_60 : decode cX10_blame 60 = .ok (.invokevirtual 262, 3) := by decide +kernel
theorem dX10_blame_63 : decode cX10_blame 63 = .ok (.ireturn, 1) := by decide +kernel
theorem dX10_blame_64 : decode cX10_blame 64 = .ok (.iload_n 2, 1) := by decide +kernel
theorem dX10_blame_65 : decode cX10_blame 65 = .ok (.iconst 1, 1) := by decide +kernel
theorem dX10_blame_66 : decode cX10_blame 66 = .ok (.if_icmp .ne 28, 3) := by decide +kernel
theorem dX10_blame_69 : decode cX10_blame 69 = .ok (.aload_n 0, 1) := by decide +kernel
theorem dX10_blame_70 : decode cX10_blame 70 = .ok (.aload_n 0, 1) := by decide +kernel
theorem dX10_blame_71 : decode cX10_blame 71 = .ok (.getfield 26, 3) := by decide +kernel
theorem dX10_blame_74 : decode cX10_blame 74 = .ok (.iload_n 1, 1) := by decide +kernel
theorem dX10_blame_75 : decode cX10_blame 75 = .ok (.invokevirtual 235, 3) := by decide +kernel
theorem dX10_blame_78 : decode cX10_blame 78 = .ok (.aload_n 0, 1) := by decide +kernel
theorem dX10_blame_79 : decode cX10_blame 79 = .ok (.getfield 58, 3) := by decide +kernel
theorem dX10_blame_82 : decode cX10_blame 82 = .ok (.aload_n 0, 1) := by decide +kernel
theorem dX10_blame_83 : decode cX10_blame 83 = .ok (.getfield 79, 3) := by decide +kernel
theorem dX10_blame_86 : decode cX10_blame 86 = .ok (.getfield 266, 3) := by decide +kernel
theorem dX10_blame_89 : decode cX10_blame 89 = .ok (.iload_n 3, 1) := by decide +kernel
theorem dX10_blame_90 : decode cX10_blame 90 = .ok (.invokevirtual 262, 3) := by decide +kernel
theorem dX10_blame_93 : decode cX10_blame 93 = .ok (.ireturn, 1) := by decide +kernel
theorem dX10_blame_94 : decode cX10_blame 94 = .ok (.iconst (-1), 1) := by decide +kernel
theorem dX10_blame_95 : decode cX10_blame 95 = .ok (.ireturn, 1) := by decide +kernel
theorem dX10_edges_0 : decode cX10_edges 0 = .ok (.iload_n 1, 1) := by decide +kernel
theorem dX10_edges_1 : decode cX10_edges 1 = .ok (.invokestatic 181, 3) := by decide +kernel
theorem dX10_edges_4 : decode cX10_edges 4 = .ok (.ifCond .ne 5, 3) := by decide +kernel
theorem dX10_edges_7 : decode cX10_edges 7 = .ok (.iconst (-1), 1) := by decide +kernel
theorem dX10_edges_8 : decode cX10_edges 8 = .ok (.ireturn, 1) := by decide +kernel
theorem dX10_edges_9 : decode cX10_edges 9 = .ok (.aload_n 0, 1) := by decide +kernel
theorem dX10_edges_10 : decode cX10_edges 10 = .ok (.getfield 58, 3) := by decide +kernel
theorem dX10_edges_13 : decode cX10_edges 13 = .ok (.aload_n 0, 1) := by decide +kernel
theorem dX10_edges_14 : decode cX10_edges 14 = .ok (.getfield 26, 3) := by decide +kernel
theorem dX10_edges_17 : decode cX10_edges 17 = .ok (.iload_n 1, 1) := by decide +kernel
theorem dX10_edges_18 : decode cX10_edges 18 = .ok (.invokevirtual 191, 3) := by decide +kernel
theorem dX10_edges_21 : decode cX10_edges 21 = .ok (.aload_n 0, 1) := by decide +kernel
theorem dX10_edges_22 : decode cX10_edges 22 = .ok (.getfield 58, 3) := by decide +kernel
theorem dX10_edges_25 : decode cX10_edges 25 = .ok (.getfield 267, 3) := by decide +kernel
theorem dX10_edges_28 : decode cX10_edges 28 = .ok (.ireturn, 1) := by decide +kernel
theorem dX10_edge_0 : decode cX10_edge 0 = .ok (.iload_n 1, 1) := by decide +kernel
theorem dX10_edge_1 : decode cX10_edge 1 = .ok (.invokestatic 181, 3) := by decide +kernel
theorem dX10_edge_4 : decode cX10_edge 4 = .ok (.ifCond .ne 11, 3) := by decide +kernel
theorem dX10_edge_7 : decode cX10_edge 7 = .ok (.new 158, 3) := by decide +kernel
theorem dX10_edge_10 : decode cX10_edge 10 = .ok (.dup, 1) := by decide +kernel
theorem dX10_edge_11 : decode cX10_edge 11 = .ok (.invokespecial 160, 3) := by decide +kernel
theorem dX10_edge_14 : decode cX10_edge 14 = .ok (.athrow, 1) := by decide +kernel
theorem dX10_edge_15 : decode cX10_edge 15 = .ok (.aload_n 0, 1) := by decide +kernel
theorem dX10_edge_16 : decode cX10_edge 16 = .ok (.getfield 58, 3) := by decide +kernel
theorem dX10_edge_19 : decode cX10_edge 19 = .ok (.aload_n 0, 1) := by decide +kernel
theorem dX10_edge_20 : decode cX10_edge 20 = .ok (.getfield 26, 3) := by decide +kernel
theorem dX10_edge_23 : decode cX10_edge 23 = .ok (.iload_n 1, 1) := by decide +kernel
theorem dX10_edge_24 : decode cX10_edge 24 = .ok (.invokevirtual 191, 3) := by decide +kernel
theorem dX10_edge_27 : decode cX10_edge 27 = .ok (.iload_n 2, 1) := by decide +kernel
theorem dX10_edge_28 : decode cX10_edge 28 = .ok (.ifCond .lt 14, 3) := by decide +kernel
theorem dX10_edge_31 : decode cX10_edge 31 = .ok (.iload_n 2, 1) := by decide +kernel
theorem dX10_edge_32 : decode cX10_edge 32 = .ok (.aload_n 0, 1) := by decide +kernel
theorem dX10_edge_33 : decode cX10_edge 33 = .ok (.getfield 58, 3) := by decide +kernel
theorem dX10_edge_36 : decode cX10_edge 36 = .ok (.getfield 267, 3) := by decide +kernel
theorem dX10_edge_39 : decode cX10_edge 39 = .ok (.if_icmp .lt 11, 3) := by decide +kernel
theorem dX10_edge_42 : decode cX10_edge 42 = .ok (.new 158, 3) := by decide +kernel
theorem dX10_edge_45 : decode cX10_edge 45 = .ok (.dup, 1) := by decide +kernel
theorem dX10_edge_46 : decode cX10_edge 46 = .ok (.invokespecial 160, 3) := by decide +kernel
theorem dX10_edge_49 : decode cX10_edge 49 = .ok (.athrow, 1) := by decide +kernel
theorem dX10_edge_50 : decode cX10_edge 50 = .ok (.iload_n 3, 1) := by decide +kernel
theorem dX10_edge_51 : decode cX10_edge 51 = .ok (.tableswitch 78 0 2 #[25, 35, 68], 25) := by decide +kernel
theorem dX10_edge_76 : decode cX10_edge 76 = .ok (.aload_n 0, 1) := by decide +kernel
theorem dX10_edge_77 : decode cX10_edge 77 = .ok (.getfield 58, 3) := by decide +kernel
theorem dX10_edge_80 : decode cX10_edge 80 = .ok (.getfield 270, 3) := by decide +kernel
theorem dX10_edge_83 : decode cX10_edge 83 = .ok (.iload_n 2, 1) := by decide +kernel
theorem dX10_edge_84 : decode cX10_edge 84 = .ok (.iaload, 1) := by decide +kernel
theorem dX10_edge_85 : decode cX10_edge 85 = .ok (.ireturn, 1) := by decide +kernel
theorem dX10_edge_86 : decode cX10_edge 86 = .ok (.aload_n 0, 1) := by decide +kernel
theorem dX10_edge_87 : decode cX10_edge 87 = .ok (.getfield 58, 3) := by decide +kernel
theorem dX10_edge_90 : decode cX10_edge 90 = .ok (.getfield 273, 3) := by decide +kernel
theorem dX10_edge_93 : decode cX10_edge 93 = .ok (.iload_n 2, 1) := by decide +kernel
theorem dX10_edge_94 : decode cX10_edge 94 = .ok (.iaload, 1) := by decide +kernel
theorem dX10_edge_95 : decode cX10_edge 95 = .ok (.aload_n 0, 1) := by decide +kernel
theorem dX10_edge_96 : decode cX10_edge 96 = .ok (.getfield 58, 3) := by decide +kernel
theorem dX10_edge_99 : decode cX10_edge 99 = .ok (.getfield 276, 3) := by decide +kernel
theorem dX10_edge_102 : decode cX10_edge 102 = .ok (.if_icmp .ne 7, 3) := by decide +kernel
theorem dX10_edge_105 : decode cX10_edge 105 = .ok (.iconst (-1), 1) := by decide +kernel
theorem dX10_edge_106 : decode cX10_edge 106 = .ok (.goto 12, 3) := by decide +kernel
theorem dX10_edge_109 : decode cX10_edge 109 = .ok (.aload_n 0, 1) := by decide +kernel
theorem dX10_edge_110 : decode cX10_edge 110 = .ok (.getfield 58, 3) := by decide +kernel
theorem dX10_edge_113 : decode cX10_edge 113 = .ok (.getfield 273, 3) := by decide +kernel
theorem dX10_edge_116 : decode cX10_edge 116 = .ok (.iload_n 2, 1) := by decide +kernel
theorem dX10_edge_117 : decode cX10_edge 117 = .ok (.iaload, 1) := by decide +kernel
theorem dX10_edge_118 : decode cX10_edge 118 = .ok (.ireturn, 1) := by decide +kernel
theorem dX10_edge_119 : decode cX10_edge 119 = .ok (.aload_n 0, 1) := by decide +kernel
theorem dX10_edge_120 : decode cX10_edge 120 = .ok (.getfield 58, 3) := by decide +kernel
theorem dX10_edge_123 : decode cX10_edge 123 = .ok (.getfield 279, 3) := by decide +kernel
theorem dX10_edge_126 : decode cX10_edge 126 = .ok (.iload_n 2, 1) := by decide +kernel
theorem dX10_edge_127 : decode cX10_edge 127 = .ok (.iaload, 1) := by decide +kernel
theorem dX10_edge_128 : decode cX10_edge 128 = .ok (.ireturn, 1) := by decide +kernel
theorem dX10_edge_129 : decode cX10_edge 129 = .ok (.new 158, 3) := by decide +kernel
theorem dX10_edge_132 : decode cX10_edge 132 = .ok (.dup, 1) := by decide +kernel
theorem dX10_edge_133 : decode cX10_edge 133 = .ok (.invokespecial 160, 3) := by decide +kernel
theorem dX10_edge_136 : decode cX10_edge 136 = .ok (.athrow, 1) := by decide +kernel
theorem dX10_correction_0 : decode cX10_correction 0 = .ok (.iload_n 1, 1) := by decide +kernel
theorem dX10_correction_1 : decode cX10_correction 1 = .ok (.invokestatic 181, 3) := by decide +kernel
theorem dX10_correction_4 : decode cX10_correction 4 = .ok (.ifCond .ne 5, 3) := by decide +kernel
theorem dX10_correction_7 : decode cX10_correction 7 = .ok (.iconst (-1), 1) := by decide +kernel
theorem dX10_correction_8 : decode cX10_correction 8 = .ok (.ireturn, 1) := by decide +kernel
theorem dX10_correction_9 : decode cX10_correction 9 = .ok (.aload_n 0, 1) := by decide +kernel
theorem dX10_correction_10 : decode cX10_correction 10 = .ok (.aload_n 0, 1) := by decide +kernel
theorem dX10_correction_11 : decode cX10_correction 11 = .ok (.getfield 26, 3) := by decide +kernel
theorem dX10_correction_14 : decode cX10_correction 14 = .ok (.iload_n 1, 1) := by decide +kernel
theorem dX10_correction_15 : decode cX10_correction 15 = .ok (.iload_n 2, 1) := by decide +kernel
theorem dX10_correction_16 : decode cX10_correction 16 = .ok (.invokevirtual 281, 3) := by decide +kernel
theorem dX10_correction_19 : decode cX10_correction 19 = .ok (.ireturn, 1) := by decide +kernel
theorem dX10_result_0 : decode cX10_result 0 = .ok (.iload_n 1, 1) := by decide +kernel
theorem dX10_result_1 : decode cX10_result 1 = .ok (.invokestatic 181, 3) := by decide +kernel
theorem dX10_result_4 : decode cX10_result 4 = .ok (.ifCond .ne 5, 3) := by decide +kernel
theorem dX10_result_7 : decode cX10_result 7 = .ok (.iconst (-1), 1) := by decide +kernel
theorem dX10_result_8 : decode cX10_result 8 = .ok (.ireturn, 1) := by decide +kernel
theorem dX10_result_9 : decode cX10_result 9 = .ok (.aload_n 0, 1) := by decide +kernel
theorem dX10_result_10 : decode cX10_result 10 = .ok (.aload_n 0, 1) := by decide +kernel
theorem dX10_result_11 : decode cX10_result 11 = .ok (.getfield 26, 3) := by decide +kernel
theorem dX10_result_14 : decode cX10_result 14 = .ok (.iload_n 1, 1) := by decide +kernel
theorem dX10_result_15 : decode cX10_result 15 = .ok (.iload_n 2, 1) := by decide +kernel
theorem dX10_result_16 : decode cX10_result 16 = .ok (.invokevirtual 285, 3) := by decide +kernel
theorem dX10_result_19 : decode cX10_result 19 = .ok (.ireturn, 1) := by decide +kernel
theorem dX10_correct_0 : decode cX10_correct 0 = .ok (.iload_n 1, 1) := by decide +kernel
theorem dX10_correct_1 : decode cX10_correct 1 = .ok (.invokestatic 181, 3) := by decide +kernel
theorem dX10_correct_4 : decode cX10_correct 4 = .ok (.ifCond .eq 16, 3) := by decide +kernel
theorem dX10_correct_7 : decode cX10_correct 7 = .ok (.aload_n 0, 1) := by decide +kernel
theorem dX10_correct_8 : decode cX10_correct 8 = .ok (.aload_n 0, 1) := by decide +kernel
theorem dX10_correct_9 : decode cX10_correct 9 = .ok (.getfield 26, 3) := by decide +kernel
theorem dX10_correct_12 : decode cX10_correct 12 = .ok (.iload_n 1, 1) := by decide +kernel
