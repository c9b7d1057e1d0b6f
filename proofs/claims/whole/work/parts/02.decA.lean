theorem dX0_init_0 : decode cX0_init 0 = .ok (.aload_n 0, 1) := by decide +kernel
theorem dX0_init_1 : decode cX0_init 1 = .ok (.invokespecial 3, 3) := by decide +kernel
theorem dX0_init_4 : decode cX0_init 4 = .ok (.aload_n 0, 1) := by decide +kernel
theorem dX0_init_5 : decode cX0_init 5 = .ok (.bipush 8, 2) := by decide +kernel
theorem dX0_init_7 : decode cX0_init 7 = .ok (.putfield 9, 3) := by decide +kernel
theorem dX0_init_10 : decode cX0_init 10 = .ok (.aload_n 0, 1) := by decide +kernel
theorem dX0_init_11 : decode cX0_init 11 = .ok (.bipush 6, 2) := by decide +kernel
theorem dX0_init_13 : decode cX0_init 13 = .ok (.putfield 15, 3) := by decide +kernel
theorem dX0_init_16 : decode cX0_init 16 = .ok (.aload_n 0, 1) := by decide +kernel
theorem dX0_init_17 : decode cX0_init 17 = .ok (.iconst 2, 1) := by decide +kernel
theorem dX0_init_18 : decode cX0_init 18 = .ok (.putfield 18, 3) := by decide +kernel
theorem dX0_init_21 : decode cX0_init 21 = .ok (.aload_n 0, 1) := by decide +kernel
theorem dX0_init_22 : decode cX0_init 22 = .ok (.iconst 3, 1) := by decide +kernel
theorem dX0_init_23 : decode cX0_init 23 = .ok (.putfield 21, 3) := by decide +kernel
theorem dX0_init_26 : decode cX0_init 26 = .ok (.aload_n 0, 1) := by decide +kernel
theorem dX0_init_27 : decode cX0_init 27 = .ok (.bipush 36, 2) := by decide +kernel
theorem dX0_init_29 : decode cX0_init 29 = .ok (.newarray .int, 2) := by decide +kernel
theorem dX0_init_31 : decode cX0_init 31 = .ok (.putfield 24, 3) := by decide +kernel
theorem dX0_init_34 : decode cX0_init 34 = .ok (.aload_n 0, 1) := by decide +kernel
theorem dX0_init_35 : decode cX0_init 35 = .ok (.bipush 9, 2) := by decide +kernel
theorem dX0_init_37 : decode cX0_init 37 = .ok (.newarray .int, 2) := by decide +kernel
theorem dX0_init_39 : decode cX0_init 39 = .ok (.putfield 28, 3) := by decide +kernel
theorem dX0_init_42 : decode cX0_init 42 = .ok (.aload_n 0, 1) := by decide +kernel
theorem dX0_init_43 : decode cX0_init 43 = .ok (.bipush 12, 2) := by decide +kernel
theorem dX0_init_45 : decode cX0_init 45 = .ok (.newarray .int, 2) := by decide +kernel
theorem dX0_init_47 : decode cX0_init 47 = .ok (.putfield 31, 3) := by decide +kernel
theorem dX0_init_50 : decode cX0_init 50 = .ok (.aload_n 0, 1) := by decide +kernel
theorem dX0_init_51 : decode cX0_init 51 = .ok (.bipush 12, 2) := by decide +kernel
theorem dX0_init_53 : decode cX0_init 53 = .ok (.newarray .int, 2) := by decide +kernel
theorem dX0_init_55 : decode cX0_init 55 = .ok (.putfield 34, 3) := by decide +kernel
theorem dX0_init_58 : decode cX0_init 58 = .ok (.aload_n 0, 1) := by decide +kernel
theorem dX0_init_59 : decode cX0_init 59 = .ok (.bipush 6, 2) := by decide +kernel
theorem dX0_init_61 : decode cX0_init 61 = .ok (.anewarray 37, 3) := by decide +kernel
theorem dX0_init_64 : decode cX0_init 64 = .ok (.putfield 39, 3) := by decide +kernel
theorem dX0_init_67 : decode cX0_init 67 = .ok (.aload_n 0, 1) := by decide +kernel
theorem dX0_init_68 : decode cX0_init 68 = .ok (.bipush 6, 2) := by decide +kernel
theorem dX0_init_70 : decode cX0_init 70 = .ok (.newarray .int, 2) := by decide +kernel
theorem dX0_init_72 : decode cX0_init 72 = .ok (.putfield 43, 3) := by decide +kernel
theorem dX0_init_75 : decode cX0_init 75 = .ok (.aload_n 0, 1) := by decide +kernel
theorem dX0_init_76 : decode cX0_init 76 = .ok (.iconst 0, 1) := by decide +kernel
theorem dX0_init_77 : decode cX0_init 77 = .ok (.putfield 46, 3) := by decide +kernel
theorem dX0_init_80 : decode cX0_init 80 = .ok (.iconst 0, 1) := by decide +kernel
theorem dX0_init_81 : decode cX0_init 81 = .ok (.istore_n 1, 1) := by decide +kernel
theorem dX0_init_82 : decode cX0_init 82 = .ok (.iload_n 1, 1) := by decide +kernel
theorem dX0_init_83 : decode cX0_init 83 = .ok (.bipush 12, 2) := by decide +kernel
theorem dX0_init_85 : decode cX0_init 85 = .ok (.if_icmp .ge 40, 3) := by decide +kernel
theorem dX0_init_88 : decode cX0_init 88 = .ok (.aload_n 0, 1) := by decide +kernel
theorem dX0_init_89 : decode cX0_init 89 = .ok (.getfield 24, 3) := by decide +kernel
theorem dX0_init_92 : decode cX0_init 92 = .ok (.iload_n 1, 1) := by decide +kernel
theorem dX0_init_93 : decode cX0_init 93 = .ok (.iconst 3, 1) := by decide +kernel
theorem dX0_init_94 : decode cX0_init 94 = .ok (.imul, 1) := by decide +kernel
theorem dX0_init_95 : decode cX0_init 95 = .ok (.iconst 1, 1) := by decide +kernel
theorem dX0_init_96 : decode cX0_init 96 = .ok (.iastore, 1) := by decide +kernel
theorem dX0_init_97 : decode cX0_init 97 = .ok (.aload_n 0, 1) := by decide +kernel
theorem dX0_init_98 : decode cX0_init 98 = .ok (.getfield 24, 3) := by decide +kernel
theorem dX0_init_101 : decode cX0_init 101 = .ok (.iload_n 1, 1) := by decide +kernel
theorem dX0_init_102 : decode cX0_init 102 = .ok (.iconst 3, 1) := by decide +kernel
theorem dX0_init_103 : decode cX0_init 103 = .ok (.imul, 1) := by decide +kernel
theorem dX0_init_104 : decode cX0_init 104 = .ok (.iconst 1, 1) := by decide +kernel
theorem dX0_init_105 : decode cX0_init 105 = .ok (.iadd, 1) := by decide +kernel
theorem dX0_init_106 : decode cX0_init 106 = .ok (.iconst 2, 1) := by decide +kernel
theorem dX0_init_107 : decode cX0_init 107 = .ok (.iastore, 1) := by decide +kernel
theorem dX0_init_108 : decode cX0_init 108 = .ok (.aload_n 0, 1) := by decide +kernel
theorem dX0_init_109 : decode cX0_init 109 = .ok (.getfield 24, 3) := by decide +kernel
theorem dX0_init_112 : decode cX0_init 112 = .ok (.iload_n 1, 1) := by decide +kernel
theorem dX0_init_113 : decode cX0_init 113 = .ok (.iconst 3, 1) := by decide +kernel
theorem dX0_init_114 : decode cX0_init 114 = .ok (.imul, 1) := by decide +kernel
theorem dX0_init_115 : decode cX0_init 115 = .ok (.iconst 2, 1) := by decide +kernel
theorem dX0_init_116 : decode cX0_init 116 = .ok (.iadd, 1) := by decide +kernel
theorem dX0_init_117 : decode cX0_init 117 = .ok (.iconst 4, 1) := by decide +kernel
theorem dX0_init_118 : decode cX0_init 118 = .ok (.iastore, 1) := by decide +kernel
theorem dX0_init_119 : decode cX0_init 119 = .ok (.iinc 1 1, 3) := by decide +kernel
theorem dX0_init_122 : decode cX0_init 122 = .ok (.goto (-40), 3) := by decide +kernel
theorem dX0_init_125 : decode cX0_init 125 = .ok (.iconst 0, 1) := by decide +kernel
theorem dX0_init_126 : decode cX0_init 126 = .ok (.istore_n 1, 1) := by decide +kernel
theorem dX0_init_127 : decode cX0_init 127 = .ok (.iload_n 1, 1) := by decide +kernel
theorem dX0_init_128 : decode cX0_init 128 = .ok (.bipush 9, 2) := by decide +kernel
theorem dX0_init_130 : decode cX0_init 130 = .ok (.if_icmp .ge 16, 3) := by decide +kernel
theorem dX0_init_133 : decode cX0_init 133 = .ok (.aload_n 0, 1) := by decide +kernel
theorem dX0_init_134 : decode cX0_init 134 = .ok (.getfield 28, 3) := by decide +kernel
theorem dX0_init_137 : decode cX0_init 137 = .ok (.iload_n 1, 1) := by decide +kernel
theorem dX0_init_138 : decode cX0_init 138 = .ok (.iconst 1, 1) := by decide +kernel
theorem dX0_init_139 : decode cX0_init 139 = .ok (.iastore, 1) := by decide +kernel
theorem dX0_init_140 : decode cX0_init 140 = .ok (.iinc 1 1, 3) := by decide +kernel
theorem dX0_init_143 : decode cX0_init 143 = .ok (.goto (-16), 3) := by decide +kernel
theorem dX0_init_146 : decode cX0_init 146 = .ok (.iconst 0, 1) := by decide +kernel
theorem dX0_init_147 : decode cX0_init 147 = .ok (.istore_n 1, 1) := by decide +kernel
theorem dX0_init_148 : decode cX0_init 148 = .ok (.iload_n 1, 1) := by decide +kernel
theorem dX0_init_149 : decode cX0_init 149 = .ok (.bipush 6, 2) := by decide +kernel
theorem dX0_init_151 : decode cX0_init 151 = .ok (.if_icmp .ge 22, 3) := by decide +kernel
theorem dX0_init_154 : decode cX0_init 154 = .ok (.aload_n 0, 1) := by decide +kernel
theorem dX0_init_155 : decode cX0_init 155 = .ok (.getfield 39, 3) := by decide +kernel
theorem dX0_init_158 : decode cX0_init 158 = .ok (.iload_n 1, 1) := by decide +kernel
theorem dX0_init_159 : decode cX0_init 159 = .ok (.new 37, 3) := by decide +kernel
theorem dX0_init_162 : decode cX0_init 162 = .ok (.dup, 1) := by decide +kernel
theorem dX0_init_163 : decode cX0_init 163 = .ok (.invokespecial 49, 3) := by decide +kernel
theorem dX0_init_166 : decode cX0_init 166 = .ok (.aastore, 1) := by decide +kernel
theorem dX0_init_167 : decode cX0_init 167 = .ok (.iinc 1 1, 3) := by decide +kernel
theorem dX0_init_170 : decode cX0_init 170 = .ok (.goto (-22), 3) := by decide +kernel
theorem dX0_init_173 : decode cX0_init 173 = .ok (.return_, 1) := by decide +kernel
theorem dX0_copyFrom_0 : decode cX0_copyFrom 0 = .ok (.aload_n 0, 1) := by decide +kernel
theorem dX0_copyFrom_1 : decode cX0_copyFrom 1 = .ok (.aload_n 1, 1) := by decide +kernel
theorem dX0_copyFrom_2 : decode cX0_copyFrom 2 = .ok (.getfield 9, 3) := by decide +kernel
theorem dX0_copyFrom_5 : decode cX0_copyFrom 5 = .ok (.putfield 9, 3) := by decide +kernel
theorem dX0_copyFrom_8 : decode cX0_copyFrom 8 = .ok (.aload_n 0, 1) := by decide +kernel
theorem dX0_copyFrom_9 : decode cX0_copyFrom 9 = .ok (.aload_n 1, 1) := by decide +kernel
theorem dX0_copyFrom_10 : decode cX0_copyFrom 10 = .ok (.getfield 15, 3) := by decide +kernel
theorem dX0_copyFrom_13 : decode cX0_copyFrom 13 = .ok (.putfield 15, 3) := by decide +kernel
theorem dX0_copyFrom_16 : decode cX0_copyFrom 16 = .ok (.aload_n 0, 1) := by decide +kernel
theorem dX0_copyFrom_17 : decode cX0_copyFrom 17 = .ok (.aload_n 1, 1) := by decide +kernel
theorem dX0_copyFrom_18 : decode cX0_copyFrom 18 = .ok (.getfield 18, 3) := by decide +kernel
theorem dX0_copyFrom_21 : decode cX0_copyFrom 21 = .ok (.putfield 18, 3) := by decide +kernel
theorem dX0_copyFrom_24 : decode cX0_copyFrom 24 = .ok (.aload_n 0, 1) := by decide +kernel
theorem dX0_copyFrom_25 : decode cX0_copyFrom 25 = .ok (.aload_n 1, 1) := by decide +kernel
theorem dX0_copyFrom_26 : decode cX0_copyFrom 26 = .ok (.getfield 21, 3) := by decide +kernel
theorem dX0_copyFrom_29 : decode cX0_copyFrom 29 = .ok (.putfield 21, 3) := by decide +kernel
theorem dX0_copyFrom_32 : decode cX0_copyFrom 32 = .ok (.aload_n 1, 1) := by decide +kernel
theorem dX0_copyFrom_33 : decode cX0_copyFrom 33 = .ok (.getfield 24, 3) := by decide +kernel
theorem dX0_copyFrom_36 : decode cX0_copyFrom 36 = .ok (.iconst 0, 1) := by decide +kernel
theorem dX0_copyFrom_37 : decode cX0_copyFrom 37 = .ok (.aload_n 0, 1) := by decide +kernel
theorem dX0_copyFrom_38 : decode cX0_copyFrom 38 = .ok (.getfield 24, 3) := by decide +kernel
theorem dX0_copyFrom_41 : decode cX0_copyFrom 41 = .ok (.iconst 0, 1) := by decide +kernel
theorem dX0_copyFrom_42 : decode cX0_copyFrom 42 = .ok (.bipush 36, 2) := by decide +kernel
theorem dX0_copyFrom_44 : decode cX0_copyFrom 44 = .ok (.invokestatic 50, 3) := by decide +kernel
theorem dX0_copyFrom_47 : decode cX0_copyFrom 47 = .ok (.aload_n 1, 1) := by decide +kernel
theorem dX0_copyFrom_48 : decode cX0_copyFrom 48 = .ok (.getfield 28, 3) := by decide +kernel
theorem dX0_copyFrom_51 : decode cX0_copyFrom 51 = .ok (.iconst 0, 1) := by decide +kernel
theorem dX0_copyFrom_52 : decode cX0_copyFrom 52 = .ok (.aload_n 0, 1) := by decide +kernel
theorem dX0_copyFrom_53 : decode cX0_copyFrom 53 = .ok (.getfield 28, 3) := by decide +kernel
theorem dX0_copyFrom_56 : decode cX0_copyFrom 56 = .ok (.iconst 0, 1) := by decide +kernel
theorem dX0_copyFrom_57 : decode cX0_copyFrom 57 = .ok (.bipush 9, 2) := by decide +kernel
theorem dX0_copyFrom_59 : decode cX0_copyFrom 59 = .ok (.invokestatic 50, 3) := by decide +kernel
theorem dX0_copyFrom_62 : decode cX0_copyFrom 62 = .ok (.aload_n 1, 1) := by decide +kernel
theorem dX0_copyFrom_63 : decode cX0_copyFrom 63 = .ok (.getfield 31, 3) := by decide +kernel
theorem dX0_copyFrom_66 : decode cX0_copyFrom 66 = .ok (.iconst 0, 1) := by decide +kernel
theorem dX0_copyFrom_67 : decode cX0_copyFrom 67 = .ok (.aload_n 0, 1) := by decide +kernel
theorem dX0_copyFrom_68 : decode cX0_copyFrom 68 = .ok (.getfield 31, 3) := by decide +kernel
theorem dX0_copyFrom_71 : decode cX0_copyFrom 71 = .ok (.iconst 0, 1) := by decide +kernel
theorem dX0_copyFrom_72 : decode cX0_copyFrom 72 = .ok (.bipush 12, 2) := by decide +kernel
theorem dX0_copyFrom_74 : decode cX0_copyFrom 74 = .ok (.invokestatic 50, 3) := by decide +kernel
theorem dX0_copyFrom_77 : decode cX0_copyFrom 77 = .ok (.aload_n 1, 1) := by decide +kernel
theorem dX0_copyFrom_78 : decode cX0_copyFrom 78 = .ok (.getfield 34, 3) := by decide +kernel
theorem dX0_copyFrom_81 : decode cX0_copyFrom 81 = .ok (.iconst 0, 1) := by decide +kernel
theorem dX0_copyFrom_82 : decode cX0_copyFrom 82 = .ok (.aload_n 0, 1) := by decide +kernel
theorem dX0_copyFrom_83 : decode cX0_copyFrom 83 = .ok (.getfield 34, 3) := by decide +kernel
theorem dX0_copyFrom_86 : decode cX0_copyFrom 86 = .ok (.iconst 0, 1) := by decide +kernel
theorem dX0_copyFrom_87 : decode cX0_copyFrom 87 = .ok (.bipush 12, 2) := by decide +kernel
theorem dX0_copyFrom_89 : decode cX0_copyFrom 89 = .ok (.invokestatic 50, 3) := by decide +kernel
theorem dX0_copyFrom_92 : decode cX0_copyFrom 92 = .ok (.aload_n 1, 1) := by decide +kernel
theorem dX0_copyFrom_93 : decode cX0_copyFrom 93 = .ok (.getfield 43, 3) := by decide +kernel
theorem dX0_copyFrom_96 : decode cX0_copyFrom 96 = .ok (.iconst 0, 1) := by decide +kernel
theorem dX0_copyFrom_97 : decode cX0_copyFrom 97 = .ok (.aload_n 0, 1) := by decide +kernel
theorem dX0_copyFrom_98 : decode cX0_copyFrom 98 = .ok (.getfield 43, 3) := by decide +kernel
theorem dX0_copyFrom_101 : decode cX0_copyFrom 101 = .ok (.iconst 0, 1) := by decide +kernel
theorem dX0_copyFrom_102 : decode cX0_copyFrom 102 = .ok (.bipush 6, 2) := by decide +kernel
theorem dX0_copyFrom_104 : decode cX0_copyFrom 104 = .ok (.invokestatic 50, 3) := by decide +kernel
theorem dX0_copyFrom_107 : decode cX0_copyFrom 107 = .ok (.aload_n 0, 1) := by decide +kernel
theorem dX0_copyFrom_108 : decode cX0_copyFrom 108 = .ok (.aload_n 1, 1) := by decide +kernel
theorem dX0_copyFrom_109 : decode cX0_copyFrom 109 = .ok (.getfield 46, 3) := by decide +kernel
theorem dX0_copyFrom_112 : decode cX0_copyFrom 112 = .ok (.putfield 46, 3) := by decide +kernel
theorem dX0_copyFrom_115 : decode cX0_copyFrom 115 = .ok (.iconst 0, 1) := by decide +kernel
theorem dX0_copyFrom_116 : decode cX0_copyFrom 116 = .ok (.istore_n 2, 1) := by decide +kernel
theorem dX0_copyFrom_117 : decode cX0_copyFrom 117 = .ok (.iload_n 2, 1) := by decide +kernel
theorem dX0_copyFrom_118 : decode cX0_copyFrom 118 = .ok (.bipush 6, 2) := by decide +kernel
theorem dX0_copyFrom_120 : decode cX0_copyFrom 120 = .ok (.if_icmp .ge 24, 3) := by decide +kernel
theorem dX0_copyFrom_123 : decode cX0_copyFrom 123 = .ok (.aload_n 0, 1) := by decide +kernel
theorem dX0_copyFrom_124 : decode cX0_copyFrom 124 = .ok (.getfield 39, 3) := by decide +kernel
theorem dX0_copyFrom_127 : decode cX0_copyFrom 127 = .ok (.iload_n 2, 1) := by decide +kernel
theorem dX0_copyFrom_128 : decode cX0_copyFrom 128 = .ok (.aaload, 1) := by decide +kernel
theorem dX0_copyFrom_129 : decode cX0_copyFrom 129 = .ok (.aload_n 1, 1) := by decide +kernel
theorem dX0_copyFrom_130 : decode cX0_copyFrom 130 = .ok (.getfield 39, 3) := by decide +kernel
theorem dX0_copyFrom_133 : decode cX0_copyFrom 133 = .ok (.iload_n 2, 1) := by decide +kernel
theorem dX0_copyFrom_134 : decode cX0_copyFrom 134 = .ok (.aaload, 1) := by decide +kernel
theorem dX0_copyFrom_135 : decode cX0_copyFrom 135 = .ok (.invokevirtual 56, 3) := by decide +kernel
theorem dX0_copyFrom_138 : decode cX0_copyFrom 138 = .ok (.iinc 2 1, 3) := by decide +kernel
theorem dX0_copyFrom_141 : decode cX0_copyFrom 141 = .ok (.goto (-24), 3) := by decide +kernel
theorem dX0_copyFrom_144 : decode cX0_copyFrom 144 = .ok (.return_, 1) := by decide +kernel
theorem dX0_settingOf_0 : decode cX0_settingOf 0 = .ok (.iload_n 1, 1) := by decide +kernel
theorem dX0_settingOf_1 : decode cX0_settingOf 1 = .ok (.tableswitch 51 0 3 #[31, 36, 41, 46], 31) := by decide +kernel
theorem dX0_settingOf_32 : decode cX0_settingOf 32 = .ok (.aload_n 0, 1) := by decide +kernel
theorem dX0_settingOf_33 : decode cX0_settingOf 33 = .ok (.getfield 9, 3) := by decide +kernel
theorem dX0_settingOf_36 : decode cX0_settingOf 36 = .ok (.ireturn, 1) := by decide +kernel
theorem dX0_settingOf_37 : decode cX0_settingOf 37 = .ok (.aload_n 0, 1) := by decide +kernel
theorem dX0_settingOf_38 : decode cX0_settingOf 38 = .ok (.getfield 15, 3) := by decide +kernel
theorem dX0_settingOf_41 : decode cX0_settingOf 41 = .ok (.ireturn, 1) := by decide +kernel
theorem dX0_settingOf_42 : decode cX0_settingOf 42 = .ok (.aload_n 0, 1) := by decide +kernel
theorem dX0_settingOf_43 : decode cX0_settingOf 43 = .ok (.getfield 18, 3) := by decide +kernel
theorem dX0_settingOf_46 : decode cX0_settingOf 46 = .ok (.ireturn, 1) := by decide +kernel
theorem dX0_settingOf_47 : decode cX0_settingOf 47 = .ok (.aload_n 0, 1) := by decide +kernel
theorem dX0_settingOf_48 : decode cX0_settingOf 48 = .ok (.getfield 21, 3) := by decide +kernel
theorem dX0_settingOf_51 : decode cX0_settingOf 51 = .ok (.ireturn, 1) := by decide +kernel
theorem dX0_settingOf_52 : decode cX0_settingOf 52 = .ok (.iconst (-1), 1) := by decide +kernel
theorem dX0_settingOf_53 : decode cX0_settingOf 53 = .ok (.ireturn, 1) := by decide +kernel
theorem dX0_changeSetting_0 : decode cX0_changeSetting 0 = .ok (.iload_n 1, 1) := by decide +kernel
theorem dX0_changeSetting_1 : decode cX0_changeSetting 1 = .ok (.iconst 0, 1) := by decide +kernel
theorem dX0_changeSetting_2 : decode cX0_changeSetting 2 = .ok (.iconst 3, 1) := by decide +kernel
theorem dX0_changeSetting_3 : decode cX0_changeSetting 3 = .ok (.invokestatic 60, 3) := by decide +kernel
theorem dX0_changeSetting_6 : decode cX0_changeSetting 6 = .ok (.ifCond .ne 5, 3) := by decide +kernel
theorem dX0_changeSetting_9 : decode cX0_changeSetting 9 = .ok (.iconst (-1), 1) := by decide +kernel
theorem dX0_changeSetting_10 : decode cX0_changeSetting 10 = .ok (.ireturn, 1) := by decide +kernel
theorem dX0_changeSetting_11 : decode cX0_changeSetting 11 = .ok (.iload_n 2, 1) := by decide +kernel
theorem dX0_changeSetting_12 : decode cX0_changeSetting 12 = .ok (.getstatic 64, 3) := by decide +kernel
theorem dX0_changeSetting_15 : decode cX0_changeSetting 15 = .ok (.iload_n 1, 1) := by decide +kernel
theorem dX0_changeSetting_16 : decode cX0_changeSetting 16 = .ok (.iaload, 1) := by decide +kernel
theorem dX0_changeSetting_17 : decode cX0_changeSetting 17 = .ok (.getstatic 67, 3) := by decide +kernel
theorem dX0_changeSetting_20 : decode cX0_changeSetting 20 = .ok (.iload_n 1, 1) := by decide +kernel
theorem dX0_changeSetting_21 : decode cX0_changeSetting 21 = .ok (.iaload, 1) := by decide +kernel
theorem dX0_changeSetting_22 : decode cX0_changeSetting 22 = .ok (.invokestatic 60, 3) := by decide +kernel
theorem dX0_changeSetting_25 : decode cX0_changeSetting 25 = .ok (.ifCond .ne 6, 3) := by decide +kernel
theorem dX0_changeSetting_28 : decode cX0_changeSetting 28 = .ok (.bipush (-2), 2) := by decide +kernel
theorem dX0_changeSetting_30 : decode cX0_changeSetting 30 = .ok (.ireturn, 1) := by decide +kernel
theorem dX0_changeSetting_31 : decode cX0_changeSetting 31 = .ok (.aload_n 0, 1) := by decide +kernel
theorem dX0_changeSetting_32 : decode cX0_changeSetting 32 = .ok (.iload_n 1, 1) := by decide +kernel
theorem dX0_changeSetting_33 : decode cX0_changeSetting 33 = .ok (.invokevirtual 70, 3) := by decide +kernel
theorem dX0_changeSetting_36 : decode cX0_changeSetting 36 = .ok (.istore_n 3, 1) := by decide +kernel
theorem dX0_changeSetting_37 : decode cX0_changeSetting 37 = .ok (.iload_n 1, 1) := by decide +kernel
theorem dX0_changeSetting_38 : decode cX0_changeSetting 38 = .ok (.tableswitch 50 0 2 #[26, 34, 42], 26) := by decide +kernel
theorem dX0_changeSetting_64 : decode cX0_changeSetting 64 = .ok (.aload_n 0, 1) := by decide +kernel
theorem dX0_changeSetting_65 : decode cX0_changeSetting 65 = .ok (.iload_n 2, 1) := by decide +kernel
theorem dX0_changeSetting_66 : decode cX0_changeSetting 66 = .ok (.putfield 9, 3) := by decide +kernel
theorem dX0_changeSetting_69 : decode cX0_changeSetting 69 = .ok (.goto 24, 3) := by decide +kernel
theorem dX0_changeSetting_72 : decode cX0_changeSetting 72 = .ok (.aload_n 0, 1) := by decide +kernel
theorem dX0_changeSetting_73 : decode cX0_changeSetting 73 = .ok (.iload_n 2, 1) := by decide +kernel
theorem dX0_changeSetting_74 : decode cX0_changeSetting 74 = .ok (.putfield 15, 3) := by decide +kernel
theorem dX0_changeSetting_77 : decode cX0_changeSetting 77 = .ok (.goto 16, 3) := by decide +kernel
theorem dX0_changeSetting_80 : decode cX0_changeSetting 80 = .ok (.aload_n 0, 1) := by decide +kernel
theorem dX0_changeSetting_81 : decode cX0_changeSetting 81 = .ok (.iload_n 2, 1) := by decide +kernel
theorem dX0_changeSetting_82 : decode cX0_changeSetting 82 = .ok (.putfield 18, 3) := by decide +kernel
theorem dX0_changeSetting_85 : decode cX0_changeSetting 85 = .ok (.goto 8, 3) := by decide +kernel
theorem dX0_changeSetting_88 : decode cX0_changeSetting 88 = .ok (.aload_n 0, 1) := by decide +kernel
theorem dX0_changeSetting_89 : decode cX0_changeSetting 89 = .ok (.iload_n 2, 1) := by decide +kernel
theorem dX0_changeSetting_90 : decode cX0_changeSetting 90 = .ok (.putfield 21, 3) := by decide +kernel
theorem dX0_changeSetting_93 : decode cX0_changeSetting 93 = .ok (.iload_n 3, 1) := by decide +kernel
theorem dX0_changeSetting_94 : decode cX0_changeSetting 94 = .ok (.ireturn, 1) := by decide +kernel
theorem dX0_changeInflow_0 : decode cX0_changeInflow 0 = .ok (.iload_n 1, 1) := by decide +kernel
theorem dX0_changeInflow_1 : decode cX0_changeInflow 1 = .ok (.iconst 0, 1) := by decide +kernel
theorem dX0_changeInflow_2 : decode cX0_changeInflow 2 = .ok (.bipush 11, 2) := by decide +kernel
theorem dX0_changeInflow_4 : decode cX0_changeInflow 4 = .ok (.invokestatic 60, 3) := by decide +kernel
theorem dX0_changeInflow_7 : decode cX0_changeInflow 7 = .ok (.ifCond .eq 10, 3) := by decide +kernel
theorem dX0_changeInflow_10 : decode cX0_changeInflow 10 = .ok (.iload_n 2, 1) := by decide +kernel
theorem dX0_changeInflow_11 : decode cX0_changeInflow 11 = .ok (.invokestatic 74, 3) := by decide +kernel
theorem dX0_changeInflow_14 : decode cX0_changeInflow 14 = .ok (.ifCond .ne 5, 3) := by decide +kernel
theorem dX0_changeInflow_17 : decode cX0_changeInflow 17 = .ok (.iconst (-1), 1) := by decide +kernel
theorem dX0_changeInflow_18 : decode cX0_changeInflow 18 = .ok (.ireturn, 1) := by decide +kernel
theorem dX0_changeInflow_19 : decode cX0_changeInflow 19 = .ok (.iload_n 3, 1) := by decide +kernel
theorem dX0_changeInflow_20 : decode cX0_changeInflow 20 = .ok (.iconst 0, 1) := by decide +kernel
theorem dX0_changeInflow_21 : decode cX0_changeInflow 21 = .ok (.bipush 9, 2) := by decide +kernel
theorem dX0_changeInflow_23 : decode cX0_changeInflow 23 = .ok (.invokestatic 60, 3) := by decide +kernel
theorem dX0_changeInflow_26 : decode cX0_changeInflow 26 = .ok (.ifCond .ne 6, 3) := by decide +kernel
theorem dX0_changeInflow_29 : decode cX0_changeInflow 29 = .ok (.bipush (-2), 2) := by decide +kernel
theorem dX0_changeInflow_31 : decode cX0_changeInflow 31 = .ok (.ireturn, 1) := by decide +kernel
theorem dX0_changeInflow_32 : decode cX0_changeInflow 32 = .ok (.aload_n 0, 1) := by decide +kernel
theorem dX0_changeInflow_33 : decode cX0_changeInflow 33 = .ok (.getfield 24, 3) := by decide +kernel
theorem dX0_changeInflow_36 : decode cX0_changeInflow 36 = .ok (.iload_n 1, 1) := by decide +kernel
theorem dX0_changeInflow_37 : decode cX0_changeInflow 37 = .ok (.iconst 3, 1) := by decide +kernel
theorem dX0_changeInflow_38 : decode cX0_changeInflow 38 = .ok (.imul, 1) := by decide +kernel
theorem dX0_changeInflow_39 : decode cX0_changeInflow 39 = .ok (.iload_n 2, 1) := by decide +kernel
theorem dX0_changeInflow_40 : decode cX0_changeInflow 40 = .ok (.iadd, 1) := by decide +kernel
theorem dX0_changeInflow_41 : decode cX0_changeInflow 41 = .ok (.iaload, 1) := by decide +kernel
theorem dX0_changeInflow_42 : decode cX0_changeInflow 42 = .ok (.istore 4, 2) := by decide +kernel
theorem dX0_changeInflow_44 : decode cX0_changeInflow 44 = .ok (.aload_n 0, 1) := by decide +kernel
theorem dX0_changeInflow_45 : decode cX0_changeInflow 45 = .ok (.getfield 24, 3) := by decide +kernel
theorem dX0_changeInflow_48 : decode cX0_changeInflow 48 = .ok (.iload_n 1, 1) := by decide +kernel
theorem dX0_changeInflow_49 : decode cX0_changeInflow 49 = .ok (.iconst 3, 1) := by decide +kernel
theorem dX0_changeInflow_50 : decode cX0_changeInflow 50 = .ok (.imul, 1) := by decide +kernel
theorem dX0_changeInflow_51 : decode cX0_changeInflow 51 = .ok (.iload_n 2, 1) := by decide +kernel
theorem dX0_changeInflow_52 : decode cX0_changeInflow 52 = .ok (.iadd, 1) := by decide +kernel
theorem dX0_changeInflow_53 : decode cX0_changeInflow 53 = .ok (.iload_n 3, 1) := by decide +kernel
theorem dX0_changeInflow_54 : decode cX0_changeInflow 54 = .ok (.iastore, 1) := by decide +kernel
theorem dX0_changeInflow_55 : decode cX0_changeInflow 55 = .ok (.iload 4, 2) := by decide +kernel
theorem dX0_changeInflow_57 : decode cX0_changeInflow 57 = .ok (.ireturn, 1) := by decide +kernel
theorem dX0_changePart_0 : decode cX0_changePart 0 = .ok (.iload_n 1, 1) := by decide +kernel
theorem dX0_changePart_1 : decode cX0_changePart 1 = .ok (.invokestatic 74, 3) := by decide +kernel
theorem dX0_changePart_4 : decode cX0_changePart 4 = .ok (.ifCond .eq 10, 3) := by decide +kernel
theorem dX0_changePart_7 : decode cX0_changePart 7 = .ok (.iload_n 2, 1) := by decide +kernel
theorem dX0_changePart_8 : decode cX0_changePart 8 = .ok (.invokestatic 74, 3) := by decide +kernel
theorem dX0_changePart_11 : decode cX0_changePart 11 = .ok (.ifCond .ne 5, 3) := by decide +kernel
theorem dX0_changePart_14 : decode cX0_changePart 14 = .ok (.iconst (-1), 1) := by decide +kernel
theorem dX0_changePart_15 : decode cX0_changePart 15 = .ok (.ireturn, 1) := by decide +kernel
theorem dX0_changePart_16 : decode cX0_changePart 16 = .ok (.aload_n 0, 1) := by decide +kernel
theorem dX0_changePart_17 : decode cX0_changePart 17 = .ok (.getfield 28, 3) := by decide +kernel
theorem dX0_changePart_20 : decode cX0_changePart 20 = .ok (.iload_n 1, 1) := by decide +kernel
theorem dX0_changePart_21 : decode cX0_changePart 21 = .ok (.iconst 3, 1) := by decide +kernel
theorem dX0_changePart_22 : decode cX0_changePart 22 = .ok (.imul, 1) := by decide +kernel
theorem dX0_changePart_23 : decode cX0_changePart 23 = .ok (.iload_n 2, 1) := by decide +kernel
theorem dX0_changePart_24 : decode cX0_changePart 24 = .ok (.iadd, 1) := by decide +kernel
theorem dX0_changePart_25 : decode cX0_changePart 25 = .ok (.iaload, 1) := by decide +kernel
theorem dX0_changePart_26 : decode cX0_changePart 26 = .ok (.istore 4, 2) := by decide +kernel
theorem dX0_changePart_28 : decode cX0_changePart 28 = .ok (.iload_n 3, 1) := by decide +kernel
theorem dX0_changePart_29 : decode cX0_changePart 29 = .ok (.iconst 0, 1) := by decide +kernel
theorem dX0_changePart_30 : decode cX0_changePart 30 = .ok (.bipush 9, 2) := by decide +kernel
theorem dX0_changePart_32 : decode cX0_changePart 32 = .ok (.invokestatic 60, 3) := by decide +kernel
theorem dX0_changePart_35 : decode cX0_changePart 35 = .ok (.ifCond .eq 16, 3) := by decide +kernel
theorem dX0_changePart_38 : decode cX0_changePart 38 = .ok (.aload_n 0, 1) := by decide +kernel
theorem dX0_changePart_39 : decode cX0_changePart 39 = .ok (.iload_n 1, 1) := by decide +kernel
theorem dX0_changePart_40 : decode cX0_changePart 40 = .ok (.invokevirtual 78, 3) := by decide +kernel
theorem dX0_changePart_43 : decode cX0_changePart 43 = .ok (.iload 4, 2) := by decide +kernel
theorem dX0_changePart_45 : decode cX0_changePart 45 = .ok (.isub, 1) := by decide +kernel
theorem dX0_changePart_46 : decode cX0_changePart 46 = .ok (.iload_n 3, 1) := by decide +kernel
theorem dX0_changePart_47 : decode cX0_changePart 47 = .ok (.iadd, 1) := by decide +kernel
theorem dX0_changePart_48 : decode cX0_changePart 48 = .ok (.ifCond .ne 6, 3) := by decide +kernel
theorem dX0_changePart_51 : decode cX0_changePart 51 = .ok (.bipush (-2), 2) := by decide +kernel
theorem dX0_changePart_53 : decode cX0_changePart 53 = .ok (.ireturn, 1) := by decide +kernel
theorem dX0_changePart_54 : decode cX0_changePart 54 = .ok (.aload_n 0, 1) := by decide +kernel
theorem dX0_changePart_55 : decode cX0_changePart 55 = .ok (.getfield 28, 3) := by decide +kernel
theorem dX0_changePart_58 : decode cX0_changePart 58 = .ok (.iload_n 1, 1) := by decide +kernel
theorem dX0_changePart_59 : decode cX0_changePart 59 = .ok (.iconst 3, 1) := by decide +kernel
theorem dX0_changePart_60 : decode cX0_changePart 60 = .ok (.imul, 1) := by decide +kernel
theorem dX0_changePart_61 : decode cX0_changePart 61 = .ok (.iload_n 2, 1) := by decide +kernel
theorem dX0_changePart_62 : decode cX0_changePart 62 = .ok (.iadd, 1) := by decide +kernel
theorem dX0_changePart_63 : decode cX0_changePart 63 = .ok (.iload_n 3, 1) := by decide +kernel
theorem dX0_changePart_64 : decode cX0_changePart 64 = .ok (.iastore, 1) := by decide +kernel
theorem dX0_changePart_65 : decode cX0_changePart 65 = .ok (.iload 4, 2) := by decide +kernel
theorem dX0_changePart_67 : decode cX0_changePart 67 = .ok (.ireturn, 1) := by decide +kernel
theorem dX0_changeParts_0 : decode cX0_changeParts 0 = .ok (.iload_n 1, 1) := by decide +kernel
theorem dX0_changeParts_1 : decode cX0_changeParts 1 = .ok (.invokestatic 74, 3) := by decide +kernel
theorem dX0_changeParts_4 : decode cX0_changeParts 4 = .ok (.ifCond .eq 12, 3) := by decide +kernel
theorem dX0_changeParts_7 : decode cX0_changeParts 7 = .ok (.iload_n 2, 1) := by decide +kernel
theorem dX0_changeParts_8 : decode cX0_changeParts 8 = .ok (.iload_n 3, 1) := by decide +kernel
theorem dX0_changeParts_9 : decode cX0_changeParts 9 = .ok (.iadd, 1) := by decide +kernel
theorem dX0_changeParts_10 : decode cX0_changeParts 10 = .ok (.iload 4, 2) := by decide +kernel
theorem dX0_changeParts_12 : decode cX0_changeParts 12 = .ok (.iadd, 1) := by decide +kernel
theorem dX0_changeParts_13 : decode cX0_changeParts 13 = .ok (.ifCond .ne 5, 3) := by decide +kernel
theorem dX0_changeParts_16 : decode cX0_changeParts 16 = .ok (.iconst 0, 1) := by decide +kernel
theorem dX0_changeParts_17 : decode cX0_changeParts 17 = .ok (.ireturn, 1) := by decide +kernel
theorem dX0_changeParts_18 : decode cX0_changeParts 18 = .ok (.aload_n 0, 1) := by decide +kernel
theorem dX0_changeParts_19 : decode cX0_changeParts 19 = .ok (.getfield 28, 3) := by decide +kernel
theorem dX0_changeParts_22 : decode cX0_changeParts 22 = .ok (.iload_n 1, 1) := by decide +kernel
theorem dX0_changeParts_23 : decode cX0_changeParts 23 = .ok (.iconst 3, 1) := by decide +kernel
theorem dX0_changeParts_24 : decode cX0_changeParts 24 = .ok (.imul, 1) := by decide +kernel
theorem dX0_changeParts_25 : decode cX0_changeParts 25 = .ok (.iload_n 2, 1) := by decide +kernel
theorem dX0_changeParts_26 : decode cX0_changeParts 26 = .ok (.iastore, 1) := by decide +kernel
theorem dX0_changeParts_27 : decode cX0_changeParts 27 = .ok (.aload_n 0, 1) := by decide +kernel
theorem dX0_changeParts_28 : decode cX0_changeParts 28 = .ok (.getfield 28, 3) := by decide +kernel
theorem dX0_changeParts_31 : decode cX0_changeParts 31 = .ok (.iload_n 1, 1) := by decide +kernel
theorem dX0_changeParts_32 : decode cX0_changeParts 32 = .ok (.iconst 3, 1) := by decide +kernel
theorem dX0_changeParts_33 : decode cX0_changeParts 33 = .ok (.imul, 1) := by decide +kernel
theorem dX0_changeParts_34 : decode cX0_changeParts 34 = .ok (.iconst 1, 1) := by decide +kernel
theorem dX0_changeParts_35 : decode cX0_changeParts 35 = .ok (.iadd, 1) := by decide +kernel
theorem dX0_changeParts_36 : decode cX0_changeParts 36 = .ok (.iload_n 3, 1) := by decide +kernel
theorem dX0_changeParts_37 : decode cX0_changeParts 37 = .ok (.iastore, 1) := by decide +kernel
theorem dX0_changeParts_38 : decode cX0_changeParts 38 = .ok (.aload_n 0, 1) := by decide +kernel
theorem dX0_changeParts_39 : decode cX0_changeParts 39 = .ok (.getfield 28, 3) := by decide +kernel
theorem dX0_changeParts_42 : decode cX0_changeParts 42 = .ok (.iload_n 1, 1) := by decide +kernel
theorem dX0_changeParts_43 : decode cX0_changeParts 43 = .ok (.iconst 3, 1) := by decide +kernel
theorem dX0_changeParts_44 : decode cX0_changeParts 44 = .ok (.imul, 1) := by decide +kernel
theorem dX0_changeParts_45 : decode cX0_changeParts 45 = .ok (.iconst 2, 1) := by decide +kernel
theorem dX0_changeParts_46 : decode cX0_changeParts 46 = .ok (.iadd, 1) := by decide +kernel
theorem dX0_changeParts_47 : decode cX0_changeParts 47 = .ok (.iload 4, 2) := by decide +kernel
theorem dX0_changeParts_49 : decode cX0_changeParts 49 = .ok (.iastore, 1) := by decide +kernel
theorem dX0_changeParts_50 : decode cX0_changeParts 50 = .ok (.iconst 1, 1) := by decide +kernel
theorem dX0_changeParts_51 : decode cX0_changeParts 51 = .ok (.ireturn, 1) := by decide +kernel
theorem dX0_changeMonth_0 : decode cX0_changeMonth 0 = .ok (.iload_n 1, 1) := by decide +kernel
theorem dX0_changeMonth_1 : decode cX0_changeMonth 1 = .ok (.iconst 0, 1) := by decide +kernel
theorem dX0_changeMonth_2 : decode cX0_changeMonth 2 = .ok (.bipush 11, 2) := by decide +kernel
theorem dX0_changeMonth_4 : decode cX0_changeMonth 4 = .ok (.invokestatic 60, 3) := by decide +kernel
theorem dX0_changeMonth_7 : decode cX0_changeMonth 7 = .ok (.ifCond .eq 12, 3) := by decide +kernel
theorem dX0_changeMonth_10 : decode cX0_changeMonth 10 = .ok (.iload_n 2, 1) := by decide +kernel
theorem dX0_changeMonth_11 : decode cX0_changeMonth 11 = .ok (.iconst 0, 1) := by decide +kernel
theorem dX0_changeMonth_12 : decode cX0_changeMonth 12 = .ok (.iconst 1, 1) := by decide +kernel
theorem dX0_changeMonth_13 : decode cX0_changeMonth 13 = .ok (.invokestatic 60, 3) := by decide +kernel
theorem dX0_changeMonth_16 : decode cX0_changeMonth 16 = .ok (.ifCond .ne 5, 3) := by decide +kernel
theorem dX0_changeMonth_19 : decode cX0_changeMonth 19 = .ok (.iconst (-1), 1) := by decide +kernel
theorem dX0_changeMonth_20 : decode cX0_changeMonth 20 = .ok (.ireturn, 1) := by decide +kernel
theorem dX0_changeMonth_21 : decode cX0_changeMonth 21 = .ok (.iload_n 3, 1) := by decide +kernel
theorem dX0_changeMonth_22 : decode cX0_changeMonth 22 = .ok (.iconst 0, 1) := by decide +kernel
theorem dX0_changeMonth_23 : decode cX0_changeMonth 23 = .ok (.bipush 9, 2) := by decide +kernel
theorem dX0_changeMonth_25 : decode cX0_changeMonth 25 = .ok (.invokestatic 60, 3) := by decide +kernel
theorem dX0_changeMonth_28 : decode cX0_changeMonth 28 = .ok (.ifCond .ne 6, 3) := by decide +kernel
theorem dX0_changeMonth_31 : decode cX0_changeMonth 31 = .ok (.bipush (-2), 2) := by decide +kernel
theorem dX0_changeMonth_33 : decode cX0_changeMonth 33 = .ok (.ireturn, 1) := by decide +kernel
theorem dX0_changeMonth_34 : decode cX0_changeMonth 34 = .ok (.iload_n 2, 1) := by decide +kernel
theorem dX0_changeMonth_35 : decode cX0_changeMonth 35 = .ok (.ifCond .ne 10, 3) := by decide +kernel
theorem dX0_changeMonth_38 : decode cX0_changeMonth 38 = .ok (.aload_n 0, 1) := by decide +kernel
theorem dX0_changeMonth_39 : decode cX0_changeMonth 39 = .ok (.getfield 31, 3) := by decide +kernel
theorem dX0_changeMonth_42 : decode cX0_changeMonth 42 = .ok (.goto 7, 3) := by decide +kernel
theorem dX0_changeMonth_45 : decode cX0_changeMonth 45 = .ok (.aload_n 0, 1) := by decide +kernel
theorem dX0_changeMonth_46 : decode cX0_changeMonth 46 = .ok (.getfield 34, 3) := by decide +kernel
theorem dX0_changeMonth_49 : decode cX0_changeMonth 49 = .ok (.astore 4, 2) := by decide +kernel
theorem dX0_changeMonth_51 : decode cX0_changeMonth 51 = .ok (.aload 4, 2) := by decide +kernel
theorem dX0_changeMonth_53 : decode cX0_changeMonth 53 = .ok (.iload_n 1, 1) := by decide +kernel
theorem dX0_changeMonth_54 : decode cX0_changeMonth 54 = .ok (.iaload, 1) := by decide +kernel
theorem dX0_changeMonth_55 : decode cX0_changeMonth 55 = .ok (.istore 5, 2) := by decide +kernel
theorem dX0_changeMonth_57 : decode cX0_changeMonth 57 = .ok (.aload 4, 2) := by decide +kernel
theorem dX0_changeMonth_59 : decode cX0_changeMonth 59 = .ok (.iload_n 1, 1) := by decide +kernel
theorem dX0_changeMonth_60 : decode cX0_changeMonth 60 = .ok (.iload_n 3, 1) := by decide +kernel
theorem dX0_changeMonth_61 : decode cX0_changeMonth 61 = .ok (.iastore, 1) := by decide +kernel
theorem dX0_changeMonth_62 : decode cX0_changeMonth 62 = .ok (.iload 5, 2) := by decide +kernel
theorem dX0_changeMonth_64 : decode cX0_changeMonth 64 = .ok (.ireturn, 1) := by decide +kernel
theorem dX0_addDemand_0 : decode cX0_addDemand 0 = .ok (.iload_n 1, 1) := by decide +kernel
theorem dX0_addDemand_1 : decode cX0_addDemand 1 = .ok (.iconst 0, 1) := by decide +kernel
theorem dX0_addDemand_2 : decode cX0_addDemand 2 = .ok (.iconst 4, 1) := by decide +kernel
theorem dX0_addDemand_3 : decode cX0_addDemand 3 = .ok (.invokestatic 60, 3) := by decide +kernel
theorem dX0_addDemand_6 : decode cX0_addDemand 6 = .ok (.ifCond .eq 50, 3) := by decide +kernel
theorem dX0_addDemand_9 : decode cX0_addDemand 9 = .ok (.iload 5, 2) := by decide +kernel
theorem dX0_addDemand_11 : decode cX0_addDemand 11 = .ok (.iconst 0, 1) := by decide +kernel
theorem dX0_addDemand_12 : decode cX0_addDemand 12 = .ok (.bipush 11, 2) := by decide +kernel
theorem dX0_addDemand_14 : decode cX0_addDemand 14 = .ok (.invokestatic 60, 3) := by decide +kernel
theorem dX0_addDemand_17 : decode cX0_addDemand 17 = .ok (.ifCond .eq 39, 3) := by decide +kernel
theorem dX0_addDemand_20 : decode cX0_addDemand 20 = .ok (.iload 6, 2) := by decide +kernel
theorem dX0_addDemand_22 : decode cX0_addDemand 22 = .ok (.iconst 0, 1) := by decide +kernel
theorem dX0_addDemand_23 : decode cX0_addDemand 23 = .ok (.bipush 11, 2) := by decide +kernel
theorem dX0_addDemand_25 : decode cX0_addDemand 25 = .ok (.invokestatic 60, 3) := by decide +kernel
theorem dX0_addDemand_28 : decode cX0_addDemand 28 = .ok (.ifCond .eq 28, 3) := by decide +kernel
theorem dX0_addDemand_31 : decode cX0_addDemand 31 = .ok (.iconst 0, 1) := by decide +kernel
theorem dX0_addDemand_32 : decode cX0_addDemand 32 = .ok (.iload_n 2, 1) := by decide +kernel
theorem dX0_addDemand_33 : decode cX0_addDemand 33 = .ok (.invokestatic 81, 3) := by decide +kernel
theorem dX0_addDemand_36 : decode cX0_addDemand 36 = .ok (.ifCond .eq 20, 3) := by decide +kernel
theorem dX0_addDemand_39 : decode cX0_addDemand 39 = .ok (.iconst 1, 1) := by decide +kernel
theorem dX0_addDemand_40 : decode cX0_addDemand 40 = .ok (.iload_n 3, 1) := by decide +kernel
theorem dX0_addDemand_41 : decode cX0_addDemand 41 = .ok (.invokestatic 81, 3) := by decide +kernel
theorem dX0_addDemand_44 : decode cX0_addDemand 44 = .ok (.ifCond .eq 12, 3) := by decide +kernel
theorem dX0_addDemand_47 : decode cX0_addDemand 47 = .ok (.iconst 2, 1) := by decide +kernel
theorem dX0_addDemand_48 : decode cX0_addDemand 48 = .ok (.iload 4, 2) := by decide +kernel
theorem dX0_addDemand_50 : decode cX0_addDemand 50 = .ok (.invokestatic 81, 3) := by decide +kernel
theorem dX0_addDemand_53 : decode cX0_addDemand 53 = .ok (.ifCond .ne 6, 3) := by decide +kernel
theorem dX0_addDemand_56 : decode cX0_addDemand 56 = .ok (.bipush (-2), 2) := by decide +kernel
theorem dX0_addDemand_58 : decode cX0_addDemand 58 = .ok (.ireturn, 1) := by decide +kernel
theorem dX0_addDemand_59 : decode cX0_addDemand 59 = .ok (.aload_n 0, 1) := by decide +kernel
theorem dX0_addDemand_60 : decode cX0_addDemand 60 = .ok (.getfield 46, 3) := by decide +kernel
theorem dX0_addDemand_63 : decode cX0_addDemand 63 = .ok (.bipush 6, 2) := by decide +kernel
theorem dX0_addDemand_65 : decode cX0_addDemand 65 = .ok (.if_icmp .lt 6, 3) := by decide +kernel
theorem dX0_addDemand_68 : decode cX0_addDemand 68 = .ok (.bipush (-4), 2) := by decide +kernel
theorem dX0_addDemand_70 : decode cX0_addDemand 70 = .ok (.ireturn, 1) := by decide +kernel
theorem dX0_addDemand_71 : decode cX0_addDemand 71 = .ok (.aload_n 0, 1) := by decide +kernel
theorem dX0_addDemand_72 : decode cX0_addDemand 72 = .ok (.getfield 39, 3) := by decide +kernel
theorem dX0_addDemand_75 : decode cX0_addDemand 75 = .ok (.aload_n 0, 1) := by decide +kernel
theorem dX0_addDemand_76 : decode cX0_addDemand 76 = .ok (.getfield 46, 3) := by decide +kernel
theorem dX0_addDemand_79 : decode cX0_addDemand 79 = .ok (.aaload, 1) := by decide +kernel
theorem dX0_addDemand_80 : decode cX0_addDemand 80 = .ok (.astore 7, 2) := by decide +kernel
theorem dX0_addDemand_82 : decode cX0_addDemand 82 = .ok (.aload 7, 2) := by decide +kernel
theorem dX0_addDemand_84 : decode cX0_addDemand 84 = .ok (.iload_n 1, 1) := by decide +kernel
theorem dX0_addDemand_85 : decode cX0_addDemand 85 = .ok (.putfield 85, 3) := by decide +kernel
theorem dX0_addDemand_88 : decode cX0_addDemand 88 = .ok (.aload 7, 2) := by decide +kernel
theorem dX0_addDemand_90 : decode cX0_addDemand 90 = .ok (.iload_n 2, 1) := by decide +kernel
theorem dX0_addDemand_91 : decode cX0_addDemand 91 = .ok (.putfield 88, 3) := by decide +kernel
theorem dX0_addDemand_94 : decode cX0_addDemand 94 = .ok (.aload 7, 2) := by decide +kernel
theorem dX0_addDemand_96 : decode cX0_addDemand 96 = .ok (.iload_n 3, 1) := by decide +kernel
theorem dX0_addDemand_97 : decode cX0_addDemand 97 = .ok (.putfield 91, 3) := by decide +kernel
theorem dX0_addDemand_100 : decode cX0_addDemand 100 = .ok (.aload 7, 2) := by decide +kernel
theorem dX0_addDemand_102 : decode cX0_addDemand 102 = .ok (.iload 4, 2) := by decide +kernel
theorem dX0_addDemand_104 : decode cX0_addDemand 104 = .ok (.putfield 94, 3) := by decide +kernel
theorem dX0_addDemand_107 : decode cX0_addDemand 107 = .ok (.aload 7, 2) := by decide +kernel
theorem dX0_addDemand_109 : decode cX0_addDemand 109 = .ok (.iload 5, 2) := by decide +kernel
theorem dX0_addDemand_111 : decode cX0_addDemand 111 = .ok (.putfield 97, 3) := by decide +kernel
theorem dX0_addDemand_114 : decode cX0_addDemand 114 = .ok (.aload 7, 2) := by decide +kernel
theorem dX0_addDemand_116 : decode cX0_addDemand 116 = .ok (.iload 6, 2) := by decide +kernel
theorem dX0_addDemand_118 : decode cX0_addDemand 118 = .ok (.putfield 100, 3) := by decide +kernel
theorem dX0_addDemand_121 : decode cX0_addDemand 121 = .ok (.aload_n 0, 1) := by decide +kernel
theorem dX0_addDemand_122 : decode cX0_addDemand 122 = .ok (.dup, 1) := by decide +kernel
theorem dX0_addDemand_123 : decode cX0_addDemand 123 = .ok (.getfield 46, 3) := by decide +kernel
theorem dX0_addDemand_126 : decode cX0_addDemand 126 = .ok (.iconst 1, 1) := by decide +kernel
theorem dX0_addDemand_127 : decode cX0_addDemand 127 = .ok (.iadd, 1) := by decide +kernel
theorem dX0_addDemand_128 : decode cX0_addDemand 128 = .ok (.putfield 46, 3) := by decide +kernel
theorem dX0_addDemand_131 : decode cX0_addDemand 131 = .ok (.aload_n 0, 1) := by decide +kernel
theorem dX0_addDemand_132 : decode cX0_addDemand 132 = .ok (.invokevirtual 103, 3) := by decide +kernel
theorem dX0_addDemand_135 : decode cX0_addDemand 135 = .ok (.aload_n 0, 1) := by decide +kernel
theorem dX0_addDemand_136 : decode cX0_addDemand 136 = .ok (.getfield 46, 3) := by decide +kernel
theorem dX0_addDemand_139 : decode cX0_addDemand 139 = .ok (.iconst 1, 1) := by decide +kernel
theorem dX0_addDemand_140 : decode cX0_addDemand 140 = .ok (.isub, 1) := by decide +kernel
theorem dX0_addDemand_141 : decode cX0_addDemand 141 = .ok (.ireturn, 1) := by decide +kernel
theorem dX0_isFit_0 : decode cX0_isFit 0 = .ok (.iload_n 1, 1) := by decide +kernel
theorem dX0_isFit_1 : decode cX0_isFit 1 = .ok (.getstatic 106, 3) := by decide +kernel
theorem dX0_isFit_4 : decode cX0_isFit 4 = .ok (.iload_n 0, 1) := by decide +kernel
theorem dX0_isFit_5 : decode cX0_isFit 5 = .ok (.iaload, 1) := by decide +kernel
theorem dX0_isFit_6 : decode cX0_isFit 6 = .ok (.getstatic 109, 3) := by decide +kernel
theorem dX0_isFit_9 : decode cX0_isFit 9 = .ok (.iload_n 0, 1) := by decide +kernel
theorem dX0_isFit_10 : decode cX0_isFit 10 = .ok (.iaload, 1) := by decide +kernel
theorem dX0_isFit_11 : decode cX0_isFit 11 = .ok (.invokestatic 60, 3) := by decide +kernel
theorem dX0_isFit_14 : decode cX0_isFit 14 = .ok (.ireturn, 1) := by decide +kernel
theorem dX0_changeDemand_0 : decode cX0_changeDemand 0 = .ok (.aload_n 0, 1) := by decide +kernel
theorem dX0_changeDemand_1 : decode cX0_changeDemand 1 = .ok (.iload_n 1, 1) := by decide +kernel
theorem dX0_changeDemand_2 : decode cX0_changeDemand 2 = .ok (.invokevirtual 112, 3) := by decide +kernel
theorem dX0_changeDemand_5 : decode cX0_changeDemand 5 = .ok (.ifCond .eq 12, 3) := by decide +kernel
theorem dX0_changeDemand_8 : decode cX0_changeDemand 8 = .ok (.iload_n 2, 1) := by decide +kernel
theorem dX0_changeDemand_9 : decode cX0_changeDemand 9 = .ok (.iconst 0, 1) := by decide +kernel
theorem dX0_changeDemand_10 : decode cX0_changeDemand 10 = .ok (.iconst 2, 1) := by decide +kernel
theorem dX0_changeDemand_11 : decode cX0_changeDemand 11 = .ok (.invokestatic 60, 3) := by decide +kernel
theorem dX0_changeDemand_14 : decode cX0_changeDemand 14 = .ok (.ifCond .ne 5, 3) := by decide +kernel
theorem dX0_changeDemand_17 : decode cX0_changeDemand 17 = .ok (.iconst (-1), 1) := by decide +kernel
theorem dX0_changeDemand_18 : decode cX0_changeDemand 18 = .ok (.ireturn, 1) := by decide +kernel
theorem dX0_changeDemand_19 : decode cX0_changeDemand 19 = .ok (.iload_n 2, 1) := by decide +kernel
theorem dX0_changeDemand_20 : decode cX0_changeDemand 20 = .ok (.iload_n 3, 1) := by decide +kernel
theorem dX0_changeDemand_21 : decode cX0_changeDemand 21 = .ok (.invokestatic 81, 3) := by decide +kernel
theorem dX0_changeDemand_24 : decode cX0_changeDemand 24 = .ok (.ifCond .ne 6, 3) := by decide +kernel
theorem dX0_changeDemand_27 : decode cX0_changeDemand 27 = .ok (.bipush (-2), 2) := by decide +kernel
theorem dX0_changeDemand_29 : decode cX0_changeDemand 29 = .ok (.ireturn, 1) := by decide +kernel
theorem dX0_changeDemand_30 : decode cX0_changeDemand 30 = .ok (.aload_n 0, 1) := by decide +kernel
theorem dX0_changeDemand_31 : decode cX0_changeDemand 31 = .ok (.getfield 39, 3) := by decide +kernel
theorem dX0_changeDemand_34 : decode cX0_changeDemand 34 = .ok (.iload_n 1, 1) := by decide +kernel
theorem dX0_changeDemand_35 : decode cX0_changeDemand 35 = .ok (.aaload, 1) := by decide +kernel
theorem dX0_changeDemand_36 : decode cX0_changeDemand 36 = .ok (.astore 4, 2) := by decide +kernel
theorem dX0_changeDemand_38 : decode cX0_changeDemand 38 = .ok (.aload 4, 2) := by decide +kernel
theorem dX0_changeDemand_40 : decode cX0_changeDemand 40 = .ok (.iload_n 2, 1) := by decide +kernel
theorem dX0_changeDemand_41 : decode cX0_changeDemand 41 = .ok (.iconst 1, 1) := by decide +kernel
theorem dX0_changeDemand_42 : decode cX0_changeDemand 42 = .ok (.iadd, 1) := by decide +kernel
theorem dX0_changeDemand_43 : decode cX0_changeDemand 43 = .ok (.invokevirtual 115, 3) := by decide +kernel
theorem dX0_changeDemand_46 : decode cX0_changeDemand 46 = .ok (.istore 5, 2) := by decide +kernel
theorem dX0_changeDemand_48 : decode cX0_changeDemand 48 = .ok (.iload_n 2, 1) := by decide +kernel
theorem dX0_changeDemand_49 : decode cX0_changeDemand 49 = .ok (.lookupswitch 49 #[(0, 27), (1, 40)], 27) := by decide +kernel
theorem dX0_changeDemand_76 : decode cX0_changeDemand 76 = .ok (.aload 4, 2) := by decide +kernel
theorem dX0_changeDemand_78 : decode cX0_changeDemand 78 = .ok (.iload_n 3, 1) := by decide +kernel
theorem dX0_changeDemand_79 : decode cX0_changeDemand 79 = .ok (.putfield 88, 3) := by decide +kernel
theorem dX0_changeDemand_82 : decode cX0_changeDemand 82 = .ok (.aload_n 0, 1) := by decide +kernel
theorem dX0_changeDemand_83 : decode cX0_changeDemand 83 = .ok (.invokevirtual 103, 3) := by decide +kernel
theorem dX0_changeDemand_86 : decode cX0_changeDemand 86 = .ok (.goto 18, 3) := by decide +kernel
theorem dX0_changeDemand_89 : decode cX0_changeDemand 89 = .ok (.aload 4, 2) := by decide +kernel
theorem dX0_changeDemand_91 : decode cX0_changeDemand 91 = .ok (.iload_n 3, 1) := by decide +kernel
theorem dX0_changeDemand_92 : decode cX0_changeDemand 92 = .ok (.putfield 91, 3) := by decide +kernel
theorem dX0_changeDemand_95 : decode cX0_changeDemand 95 = .ok (.goto 9, 3) := by decide +kernel
theorem dX0_changeDemand_98 : decode cX0_changeDemand 98 = .ok (.aload 4, 2) := by decide +kernel
theorem dX0_changeDemand_100 : decode cX0_changeDemand 100 = .ok (.iload_n 3, 1) := by decide +kernel
theorem dX0_changeDemand_101 : decode cX0_changeDemand 101 = .ok (.putfield 94, 3) := by decide +kernel
theorem dX0_changeDemand_104 : decode cX0_changeDemand 104 = .ok (.iload 5, 2) := by decide +kernel
theorem dX0_changeDemand_106 : decode cX0_changeDemand 106 = .ok (.ireturn, 1) := by decide +kernel
theorem dX0_removeDemand_0 : decode cX0_removeDemand 0 = .ok (.aload_n 0, 1) := by decide +kernel
theorem dX0_removeDemand_1 : decode cX0_removeDemand 1 = .ok (.iload_n 1, 1) := by decide +kernel
theorem dX0_removeDemand_2 : decode cX0_removeDemand 2 = .ok (.invokevirtual 112, 3) := by decide +kernel
theorem dX0_removeDemand_5 : decode cX0_removeDemand 5 = .ok (.ifCond .ne 5, 3) := by decide +kernel
theorem dX0_removeDemand_8 : decode cX0_removeDemand 8 = .ok (.iconst (-1), 1) := by decide +kernel
theorem dX0_removeDemand_9 : decode cX0_removeDemand 9 = .ok (.ireturn, 1) := by decide +kernel
theorem dX0_removeDemand_10 : decode cX0_removeDemand 10 = .ok (.iload_n 1, 1) := by decide +kernel
theorem dX0_removeDemand_11 : decode cX0_removeDemand 11 = .ok (.istore_n 2, 1) := by decide +kernel
theorem dX0_removeDemand_12 : decode cX0_removeDemand 12 = .ok (.iload_n 2, 1) := by decide +kernel
theorem dX0_removeDemand_13 : decode cX0_removeDemand 13 = .ok (.aload_n 0, 1) := by decide +kernel
theorem dX0_removeDemand_14 : decode cX0_removeDemand 14 = .ok (.getfield 46, 3) := by decide +kernel
theorem dX0_removeDemand_17 : decode cX0_removeDemand 17 = .ok (.iconst 1, 1) := by decide +kernel
theorem dX0_removeDemand_18 : decode cX0_removeDemand 18 = .ok (.isub, 1) := by decide +kernel
theorem dX0_removeDemand_19 : decode cX0_removeDemand 19 = .ok (.if_icmp .ge 26, 3) := by decide +kernel
theorem dX0_removeDemand_22 : decode cX0_removeDemand 22 = .ok (.aload_n 0, 1) := by decide +kernel
theorem dX0_removeDemand_23 : decode cX0_removeDemand 23 = .ok (.getfield 39, 3) := by decide +kernel
theorem dX0_removeDemand_26 : decode cX0_removeDemand 26 = .ok (.iload_n 2, 1) := by decide +kernel
theorem dX0_removeDemand_27 : decode cX0_removeDemand 27 = .ok (.aaload, 1) := by decide +kernel
theorem dX0_removeDemand_28 : decode cX0_removeDemand 28 = .ok (.aload_n 0, 1) := by decide +kernel
theorem dX0_removeDemand_29 : decode cX0_removeDemand 29 = .ok (.getfield 39, 3) := by decide +kernel
theorem dX0_removeDemand_32 : decode cX0_removeDemand 32 = .ok (.iload_n 2, 1) := by decide +kernel
theorem dX0_removeDemand_33 : decode cX0_removeDemand 33 = .ok (.iconst 1, 1) := by decide +kernel
theorem dX0_removeDemand_34 : decode cX0_removeDemand 34 = .ok (.iadd, 1) := by decide +kernel
theorem dX0_removeDemand_35 : decode cX0_removeDemand 35 = .ok (.aaload, 1) := by decide +kernel
theorem dX0_removeDemand_36 : decode cX0_removeDemand 36 = .ok (.invokevirtual 56, 3) := by decide +kernel
theorem dX0_removeDemand_39 : decode cX0_removeDemand 39 = .ok (.iinc 2 1, 3) := by decide +kernel
theorem dX0_removeDemand_42 : decode cX0_removeDemand 42 = .ok (.goto (-30), 3) := by decide +kernel
theorem dX0_removeDemand_45 : decode cX0_removeDemand 45 = .ok (.aload_n 0, 1) := by decide +kernel
theorem dX0_removeDemand_46 : decode cX0_removeDemand 46 = .ok (.dup, 1) := by decide +kernel
theorem dX0_removeDemand_47 : decode cX0_removeDemand 47 = .ok (.getfield 46, 3) := by decide +kernel
theorem dX0_removeDemand_50 : decode cX0_removeDemand 50 = .ok (.iconst 1, 1) := by decide +kernel
theorem dX0_removeDemand_51 : decode cX0_removeDemand 51 = .ok (.isub, 1) := by decide +kernel
theorem dX0_removeDemand_52 : decode cX0_removeDemand 52 = .ok (.putfield 46, 3) := by decide +kernel
theorem dX0_removeDemand_55 : decode cX0_removeDemand 55 = .ok (.aload_n 0, 1) := by decide +kernel
theorem dX0_removeDemand_56 : decode cX0_removeDemand 56 = .ok (.invokevirtual 103, 3) := by decide +kernel
theorem dX0_removeDemand_59 : decode cX0_removeDemand 59 = .ok (.aload_n 0, 1) := by decide +kernel
theorem dX0_removeDemand_60 : decode cX0_removeDemand 60 = .ok (.getfield 46, 3) := by decide +kernel
theorem dX0_removeDemand_63 : decode cX0_removeDemand 63 = .ok (.ireturn, 1) := by decide +kernel
theorem dX0_silence_0 : decode cX0_silence 0 = .ok (.aload_n 0, 1) := by decide +kernel
theorem dX0_silence_1 : decode cX0_silence 1 = .ok (.iload_n 1, 1) := by decide +kernel
theorem dX0_silence_2 : decode cX0_silence 2 = .ok (.invokevirtual 112, 3) := by decide +kernel
theorem dX0_silence_5 : decode cX0_silence 5 = .ok (.ifCond .eq 13, 3) := by decide +kernel
theorem dX0_silence_8 : decode cX0_silence 8 = .ok (.aload_n 0, 1) := by decide +kernel
theorem dX0_silence_9 : decode cX0_silence 9 = .ok (.getfield 39, 3) := by decide +kernel
theorem dX0_silence_12 : decode cX0_silence 12 = .ok (.iload_n 1, 1) := by decide +kernel
theorem dX0_silence_13 : decode cX0_silence 13 = .ok (.aaload, 1) := by decide +kernel
theorem dX0_silence_14 : decode cX0_silence 14 = .ok (.iconst 0, 1) := by decide +kernel
theorem dX0_silence_15 : decode cX0_silence 15 = .ok (.putfield 91, 3) := by decide +kernel
theorem dX0_silence_18 : decode cX0_silence 18 = .ok (.return_, 1) := by decide +kernel
theorem dX0_goByPlan_0 : decode cX0_goByPlan 0 = .ok (.iload_n 1, 1) := by decide +kernel
theorem dX0_goByPlan_1 : decode cX0_goByPlan 1 = .ok (.tableswitch 67 0 2 #[27, 35, 59], 27) := by decide +kernel
theorem dX0_goByPlan_28 : decode cX0_goByPlan 28 = .ok (.aload_n 0, 1) := by decide +kernel
theorem dX0_goByPlan_29 : decode cX0_goByPlan 29 = .ok (.iload_n 2, 1) := by decide +kernel
theorem dX0_goByPlan_30 : decode cX0_goByPlan 30 = .ok (.putfield 9, 3) := by decide +kernel
theorem dX0_goByPlan_33 : decode cX0_goByPlan 33 = .ok (.goto 40, 3) := by decide +kernel
theorem dX0_goByPlan_36 : decode cX0_goByPlan 36 = .ok (.iconst 0, 1) := by decide +kernel
theorem dX0_goByPlan_37 : decode cX0_goByPlan 37 = .ok (.istore_n 3, 1) := by decide +kernel
theorem dX0_goByPlan_38 : decode cX0_goByPlan 38 = .ok (.iload_n 3, 1) := by decide +kernel
theorem dX0_goByPlan_39 : decode cX0_goByPlan 39 = .ok (.bipush 12, 2) := by decide +kernel
theorem dX0_goByPlan_41 : decode cX0_goByPlan 41 = .ok (.if_icmp .ge 16, 3) := by decide +kernel
theorem dX0_goByPlan_44 : decode cX0_goByPlan 44 = .ok (.aload_n 0, 1) := by decide +kernel
theorem dX0_goByPlan_45 : decode cX0_goByPlan 45 = .ok (.getfield 31, 3) := by decide +kernel
theorem dX0_goByPlan_48 : decode cX0_goByPlan 48 = .ok (.iload_n 3, 1) := by decide +kernel
theorem dX0_goByPlan_49 : decode cX0_goByPlan 49 = .ok (.iload_n 2, 1) := by decide +kernel
theorem dX0_goByPlan_50 : decode cX0_goByPlan 50 = .ok (.iastore, 1) := by decide +kernel
theorem dX0_goByPlan_51 : decode cX0_goByPlan 51 = .ok (.iinc 3 1, 3) := by decide +kernel
theorem dX0_goByPlan_54 : decode cX0_goByPlan 54 = .ok (.goto (-16), 3) := by decide +kernel
theorem dX0_goByPlan_57 : decode cX0_goByPlan 57 = .ok (.goto 16, 3) := by decide +kernel
theorem dX0_goByPlan_60 : decode cX0_goByPlan 60 = .ok (.aload_n 0, 1) := by decide +kernel
theorem dX0_goByPlan_61 : decode cX0_goByPlan 61 = .ok (.iload_n 2, 1) := by decide +kernel
theorem dX0_goByPlan_62 : decode cX0_goByPlan 62 = .ok (.putfield 18, 3) := by decide +kernel
theorem dX0_goByPlan_65 : decode cX0_goByPlan 65 = .ok (.goto 8, 3) := by decide +kernel
theorem dX0_goByPlan_68 : decode cX0_goByPlan 68 = .ok (.aload_n 0, 1) := by decide +kernel
theorem dX0_goByPlan_69 : decode cX0_goByPlan 69 = .ok (.iload_n 2, 1) := by decide +kernel
theorem dX0_goByPlan_70 : decode cX0_goByPlan 70 = .ok (.invokevirtual 118, 3) := by decide +kernel
theorem dX0_goByPlan_73 : decode cX0_goByPlan 73 = .ok (.return_, 1) := by decide +kernel
theorem dX0_learnParts_0 : decode cX0_learnParts 0 = .ok (.iconst 0, 1) := by decide +kernel
theorem dX0_learnParts_1 : decode cX0_learnParts 1 = .ok (.istore_n 2, 1) := by decide +kernel
theorem dX0_learnParts_2 : decode cX0_learnParts 2 = .ok (.iload_n 2, 1) := by decide +kernel
theorem dX0_learnParts_3 : decode cX0_learnParts 3 = .ok (.bipush 9, 2) := by decide +kernel
theorem dX0_learnParts_5 : decode cX0_learnParts 5 = .ok (.if_icmp .ge 16, 3) := by decide +kernel
theorem dX0_learnParts_8 : decode cX0_learnParts 8 = .ok (.aload_n 0, 1) := by decide +kernel
theorem dX0_learnParts_9 : decode cX0_learnParts 9 = .ok (.getfield 28, 3) := by decide +kernel
theorem dX0_learnParts_12 : decode cX0_learnParts 12 = .ok (.iload_n 2, 1) := by decide +kernel
theorem dX0_learnParts_13 : decode cX0_learnParts 13 = .ok (.iconst 1, 1) := by decide +kernel
theorem dX0_learnParts_14 : decode cX0_learnParts 14 = .ok (.iastore, 1) := by decide +kernel
theorem dX0_learnParts_15 : decode cX0_learnParts 15 = .ok (.iinc 2 1, 3) := by decide +kernel
theorem dX0_learnParts_18 : decode cX0_learnParts 18 = .ok (.goto (-16), 3) := by decide +kernel
theorem dX0_learnParts_21 : decode cX0_learnParts 21 = .ok (.iconst 0, 1) := by decide +kernel
theorem dX0_learnParts_22 : decode cX0_learnParts 22 = .ok (.istore_n 2, 1) := by decide +kernel
theorem dX0_learnParts_23 : decode cX0_learnParts 23 = .ok (.iload_n 2, 1) := by decide +kernel
theorem dX0_learnParts_24 : decode cX0_learnParts 24 = .ok (.aload_n 1, 1) := by decide +kernel
theorem dX0_learnParts_25 : decode cX0_learnParts 25 = .ok (.getfield 122, 3) := by decide +kernel
theorem dX0_learnParts_28 : decode cX0_learnParts 28 = .ok (.iconst 1, 1) := by decide +kernel
theorem dX0_learnParts_29 : decode cX0_learnParts 29 = .ok (.isub, 1) := by decide +kernel
theorem dX0_learnParts_30 : decode cX0_learnParts 30 = .ok (.if_icmp .ge 73, 3) := by decide +kernel
theorem dX0_learnParts_33 : decode cX0_learnParts 33 = .ok (.aload_n 0, 1) := by decide +kernel
theorem dX0_learnParts_34 : decode cX0_learnParts 34 = .ok (.iload_n 2, 1) := by decide +kernel
theorem dX0_learnParts_35 : decode cX0_learnParts 35 = .ok (.bipush 12, 2) := by decide +kernel
theorem dX0_learnParts_37 : decode cX0_learnParts 37 = .ok (.irem, 1) := by decide +kernel
theorem dX0_learnParts_38 : decode cX0_learnParts 38 = .ok (.aload_n 1, 1) := by decide +kernel
theorem dX0_learnParts_39 : decode cX0_learnParts 39 = .ok (.iload_n 2, 1) := by decide +kernel
theorem dX0_learnParts_40 : decode cX0_learnParts 40 = .ok (.iconst 0, 1) := by decide +kernel
theorem dX0_learnParts_41 : decode cX0_learnParts 41 = .ok (.invokevirtual 125, 3) := by decide +kernel
theorem dX0_learnParts_44 : decode cX0_learnParts 44 = .ok (.invokevirtual 129, 3) := by decide +kernel
theorem dX0_learnParts_47 : decode cX0_learnParts 47 = .ok (.istore_n 3, 1) := by decide +kernel
theorem dX0_learnParts_48 : decode cX0_learnParts 48 = .ok (.aload_n 0, 1) := by decide +kernel
theorem dX0_learnParts_49 : decode cX0_learnParts 49 = .ok (.iload_n 2, 1) := by decide +kernel
theorem dX0_learnParts_50 : decode cX0_learnParts 50 = .ok (.iconst 1, 1) := by decide +kernel
theorem dX0_learnParts_51 : decode cX0_learnParts 51 = .ok (.iadd, 1) := by decide +kernel
theorem dX0_learnParts_52 : decode cX0_learnParts 52 = .ok (.bipush 12, 2) := by decide +kernel
theorem dX0_learnParts_54 : decode cX0_learnParts 54 = .ok (.irem, 1) := by decide +kernel
theorem dX0_learnParts_55 : decode cX0_learnParts 55 = .ok (.aload_n 1, 1) := by decide +kernel
theorem dX0_learnParts_56 : decode cX0_learnParts 56 = .ok (.iload_n 2, 1) := by decide +kernel
theorem dX0_learnParts_57 : decode cX0_learnParts 57 = .ok (.iconst 1, 1) := by decide +kernel
theorem dX0_learnParts_58 : decode cX0_learnParts 58 = .ok (.iadd, 1) := by decide +kernel
theorem dX0_learnParts_59 : decode cX0_learnParts 59 = .ok (.iconst 0, 1) := by decide +kernel
theorem dX0_learnParts_60 : decode cX0_learnParts 60 = .ok (.invokevirtual 125, 3) := by decide +kernel
theorem dX0_learnParts_63 : decode cX0_learnParts 63 = .ok (.invokevirtual 129, 3) := by decide +kernel
theorem dX0_learnParts_66 : decode cX0_learnParts 66 = .ok (.istore 4, 2) := by decide +kernel
theorem dX0_learnParts_68 : decode cX0_learnParts 68 = .ok (.aload_n 0, 1) := by decide +kernel
theorem dX0_learnParts_69 : decode cX0_learnParts 69 = .ok (.getfield 28, 3) := by decide +kernel
theorem dX0_learnParts_72 : decode cX0_learnParts 72 = .ok (.iload_n 3, 1) := by decide +kernel
theorem dX0_learnParts_73 : decode cX0_learnParts 73 = .ok (.iconst 3, 1) := by decide +kernel
theorem dX0_learnParts_74 : decode cX0_learnParts 74 = .ok (.imul, 1) := by decide +kernel
theorem dX0_learnParts_75 : decode cX0_learnParts 75 = .ok (.iload 4, 2) := by decide +kernel
theorem dX0_learnParts_77 : decode cX0_learnParts 77 = .ok (.iadd, 1) := by decide +kernel
theorem dX0_learnParts_78 : decode cX0_learnParts 78 = .ok (.bipush 9, 2) := by decide +kernel
theorem dX0_learnParts_80 : decode cX0_learnParts 80 = .ok (.aload_n 0, 1) := by decide +kernel
theorem dX0_learnParts_81 : decode cX0_learnParts 81 = .ok (.getfield 28, 3) := by decide +kernel
theorem dX0_learnParts_84 : decode cX0_learnParts 84 = .ok (.iload_n 3, 1) := by decide +kernel
theorem dX0_learnParts_85 : decode cX0_learnParts 85 = .ok (.iconst 3, 1) := by decide +kernel
theorem dX0_learnParts_86 : decode cX0_learnParts 86 = .ok (.imul, 1) := by decide +kernel
theorem dX0_learnParts_87 : decode cX0_learnParts 87 = .ok (.iload 4, 2) := by decide +kernel
theorem dX0_learnParts_89 : decode cX0_learnParts 89 = .ok (.iadd, 1) := by decide +kernel
theorem dX0_learnParts_90 : decode cX0_learnParts 90 = .ok (.iaload, 1) := by decide +kernel
theorem dX0_learnParts_91 : decode cX0_learnParts 91 = .ok (.iconst 1, 1) := by decide +kernel
theorem dX0_learnParts_92 : decode cX0_learnParts 92 = .ok (.iadd, 1) := by decide +kernel
theorem dX0_learnParts_93 : decode cX0_learnParts 93 = .ok (.invokestatic 132, 3) := by decide +kernel
theorem dX0_learnParts_96 : decode cX0_learnParts 96 = .ok (.iastore, 1) := by decide +kernel
theorem dX0_learnParts_97 : decode cX0_learnParts 97 = .ok (.iinc 2 1, 3) := by decide +kernel
theorem dX0_learnParts_100 : decode cX0_learnParts 100 = .ok (.goto (-77), 3) := by decide +kernel
theorem dX0_learnParts_103 : decode cX0_learnParts 103 = .ok (.return_, 1) := by decide +kernel
theorem dX0_hasDemand_0 : decode cX0_hasDemand 0 = .ok (.iload_n 1, 1) := by decide +kernel
theorem dX0_hasDemand_1 : decode cX0_hasDemand 1 = .ok (.iconst 0, 1) := by decide +kernel
theorem dX0_hasDemand_2 : decode cX0_hasDemand 2 = .ok (.aload_n 0, 1) := by decide +kernel
theorem dX0_hasDemand_3 : decode cX0_hasDemand 3 = .ok (.getfield 46, 3) := by decide +kernel
theorem dX0_hasDemand_6 : decode cX0_hasDemand 6 = .ok (.iconst 1, 1) := by decide +kernel
theorem dX0_hasDemand_7 : decode cX0_hasDemand 7 = .ok (.isub, 1) := by decide +kernel
theorem dX0_hasDemand_8 : decode cX0_hasDemand 8 = .ok (.invokestatic 60, 3) := by decide +kernel
theorem dX0_hasDemand_11 : decode cX0_hasDemand 11 = .ok (.ireturn, 1) := by decide +kernel
theorem dX0_isAhead_0 : decode cX0_isAhead 0 = .ok (.iload_n 1, 1) := by decide +kernel
theorem dX0_isAhead_1 : decode cX0_isAhead 1 = .ok (.iconst 0, 1) := by decide +kernel
theorem dX0_isAhead_2 : decode cX0_isAhead 2 = .ok (.aload_n 0, 1) := by decide +kernel
theorem dX0_isAhead_3 : decode cX0_isAhead 3 = .ok (.getfield 15, 3) := by decide +kernel
theorem dX0_isAhead_6 : decode cX0_isAhead 6 = .ok (.iconst 1, 1) := by decide +kernel
theorem dX0_isAhead_7 : decode cX0_isAhead 7 = .ok (.isub, 1) := by decide +kernel
theorem dX0_isAhead_8 : decode cX0_isAhead 8 = .ok (.invokestatic 60, 3) := by decide +kernel
theorem dX0_isAhead_11 : decode cX0_isAhead 11 = .ok (.ifCond .eq 19, 3) := by decide +kernel
theorem dX0_isAhead_14 : decode cX0_isAhead 14 = .ok (.iload_n 2, 1) := by decide +kernel
theorem dX0_isAhead_15 : decode cX0_isAhead 15 = .ok (.iconst 0, 1) := by decide +kernel
theorem dX0_isAhead_16 : decode cX0_isAhead 16 = .ok (.aload_n 0, 1) := by decide +kernel
theorem dX0_isAhead_17 : decode cX0_isAhead 17 = .ok (.getfield 9, 3) := by decide +kernel
theorem dX0_isAhead_20 : decode cX0_isAhead 20 = .ok (.invokestatic 60, 3) := by decide +kernel
theorem dX0_isAhead_23 : decode cX0_isAhead 23 = .ok (.ifCond .eq 7, 3) := by decide +kernel
theorem dX0_isAhead_26 : decode cX0_isAhead 26 = .ok (.iconst 1, 1) := by decide +kernel
theorem dX0_isAhead_27 : decode cX0_isAhead 27 = .ok (.goto 4, 3) := by decide +kernel
theorem dX0_isAhead_30 : decode cX0_isAhead 30 = .ok (.iconst 0, 1) := by decide +kernel
theorem dX0_isAhead_31 : decode cX0_isAhead 31 = .ok (.ireturn, 1) := by decide +kernel
theorem dX0_inflowIn_0 : decode cX0_inflowIn 0 = .ok (.aload_n 0, 1) := by decide +kernel
theorem dX0_inflowIn_1 : decode cX0_inflowIn 1 = .ok (.getfield 24, 3) := by decide +kernel
theorem dX0_inflowIn_4 : decode cX0_inflowIn 4 = .ok (.iload_n 1, 1) := by decide +kernel
theorem dX0_inflowIn_5 : decode cX0_inflowIn 5 = .ok (.iconst 3, 1) := by decide +kernel
theorem dX0_inflowIn_6 : decode cX0_inflowIn 6 = .ok (.imul, 1) := by decide +kernel
theorem dX0_inflowIn_7 : decode cX0_inflowIn 7 = .ok (.iload_n 2, 1) := by decide +kernel
theorem dX0_inflowIn_8 : decode cX0_inflowIn 8 = .ok (.iadd, 1) := by decide +kernel
theorem dX0_inflowIn_9 : decode cX0_inflowIn 9 = .ok (.iaload, 1) := by decide +kernel
theorem dX0_inflowIn_10 : decode cX0_inflowIn 10 = .ok (.ireturn, 1) := by decide +kernel
theorem dX0_allPartsFrom_0 : decode cX0_allPartsFrom 0 = .ok (.aload_n 0, 1) := by decide +kernel
theorem dX0_allPartsFrom_1 : decode cX0_allPartsFrom 1 = .ok (.getfield 28, 3) := by decide +kernel
theorem dX0_allPartsFrom_4 : decode cX0_allPartsFrom 4 = .ok (.iload_n 1, 1) := by decide +kernel
theorem dX0_allPartsFrom_5 : decode cX0_allPartsFrom 5 = .ok (.iconst 3, 1) := by decide +kernel
theorem dX0_allPartsFrom_6 : decode cX0_allPartsFrom 6 = .ok (.imul, 1) := by decide +kernel
theorem dX0_allPartsFrom_7 : decode cX0_allPartsFrom 7 = .ok (.iaload, 1) := by decide +kernel
theorem dX0_allPartsFrom_8 : decode cX0_allPartsFrom 8 = .ok (.aload_n 0, 1) := by decide +kernel
theorem dX0_allPartsFrom_9 : decode cX0_allPartsFrom 9 = .ok (.getfield 28, 3) := by decide +kernel
theorem dX0_allPartsFrom_12 : decode cX0_allPartsFrom 12 = .ok (.iload_n 1, 1) := by decide +kernel
theorem dX0_allPartsFrom_13 : decode cX0_allPartsFrom 13 = .ok (.iconst 3, 1) := by decide +kernel
theorem dX0_allPartsFrom_14 : decode cX0_allPartsFrom 14 = .ok (.imul, 1) := by decide +kernel
theorem dX0_allPartsFrom_15 : decode cX0_allPartsFrom 15 = .ok (.iconst 1, 1) := by decide +kernel
theorem dX0_allPartsFrom_16 : decode cX0_allPartsFrom 16 = .ok (.iadd, 1) := by decide +kernel
theorem dX0_allPartsFrom_17 : decode cX0_allPartsFrom 17 = .ok (.iaload, 1) := by decide +kernel
theorem dX0_allPartsFrom_18 : decode cX0_allPartsFrom 18 = .ok (.iadd, 1) := by decide +kernel
theorem dX0_allPartsFrom_19 : decode cX0_allPartsFrom 19 = .ok (.aload_n 0, 1) := by decide +kernel
theorem dX0_allPartsFrom_20 : decode cX0_allPartsFrom 20 = .ok (.getfield 28, 3) := by decide +kernel
theorem dX0_allPartsFrom_23 : decode cX0_allPartsFrom 23 = .ok (.iload_n 1, 1) := by decide +kernel
theorem dX0_allPartsFrom_24 : decode cX0_allPartsFrom 24 = .ok (.iconst 3, 1) := by decide +kernel
theorem dX0_allPartsFrom_25 : decode cX0_allPartsFrom 25 = .ok (.imul, 1) := by decide +kernel
theorem dX0_allPartsFrom_26 : decode cX0_allPartsFrom 26 = .ok (.iconst 2, 1) := by decide +kernel
theorem dX0_allPartsFrom_27 : decode cX0_allPartsFrom 27 = .ok (.iadd, 1) := by decide +kernel
theorem dX0_allPartsFrom_28 : decode cX0_allPartsFrom 28 = .ok (.iaload, 1) := by decide +kernel
theorem dX0_allPartsFrom_29 : decode cX0_allPartsFrom 29 = .ok (.iadd, 1) := by decide +kernel
theorem dX0_allPartsFrom_30 : decode cX0_allPartsFrom 30 = .ok (.ireturn, 1) := by decide +kernel
theorem dX0_nearestState_0 : decode cX0_nearestState 0 = .ok (.iconst 0, 1) := by decide +kernel
theorem dX0_nearestState_1 : decode cX0_nearestState 1 = .ok (.istore_n 3, 1) := by decide +kernel
theorem dX0_nearestState_2 : decode cX0_nearestState 2 = .ok (.iconst 1, 1) := by decide +kernel
theorem dX0_nearestState_3 : decode cX0_nearestState 3 = .ok (.istore 4, 2) := by decide +kernel
theorem dX0_nearestState_5 : decode cX0_nearestState 5 = .ok (.iload 4, 2) := by decide +kernel
theorem dX0_nearestState_7 : decode cX0_nearestState 7 = .ok (.iconst 3, 1) := by decide +kernel
theorem dX0_nearestState_8 : decode cX0_nearestState 8 = .ok (.if_icmp .ge 38, 3) := by decide +kernel
theorem dX0_nearestState_11 : decode cX0_nearestState 11 = .ok (.aload_n 0, 1) := by decide +kernel
theorem dX0_nearestState_12 : decode cX0_nearestState 12 = .ok (.iload_n 1, 1) := by decide +kernel
theorem dX0_nearestState_13 : decode cX0_nearestState 13 = .ok (.iload 4, 2) := by decide +kernel
theorem dX0_nearestState_15 : decode cX0_nearestState 15 = .ok (.invokevirtual 137, 3) := by decide +kernel
theorem dX0_nearestState_18 : decode cX0_nearestState 18 = .ok (.iload_n 2, 1) := by decide +kernel
theorem dX0_nearestState_19 : decode cX0_nearestState 19 = .ok (.isub, 1) := by decide +kernel
theorem dX0_nearestState_20 : decode cX0_nearestState 20 = .ok (.invokestatic 140, 3) := by decide +kernel
theorem dX0_nearestState_23 : decode cX0_nearestState 23 = .ok (.aload_n 0, 1) := by decide +kernel
theorem dX0_nearestState_24 : decode cX0_nearestState 24 = .ok (.iload_n 1, 1) := by decide +kernel
theorem dX0_nearestState_25 : decode cX0_nearestState 25 = .ok (.iload_n 3, 1) := by decide +kernel
theorem dX0_nearestState_26 : decode cX0_nearestState 26 = .ok (.invokevirtual 137, 3) := by decide +kernel
theorem dX0_nearestState_29 : decode cX0_nearestState 29 = .ok (.iload_n 2, 1) := by decide +kernel
theorem dX0_nearestState_30 : decode cX0_nearestState 30 = .ok (.isub, 1) := by decide +kernel
theorem dX0_nearestState_31 : decode cX0_nearestState 31 = .ok (.invokestatic 140, 3) := by decide +kernel
theorem dX0_nearestState_34 : decode cX0_nearestState 34 = .ok (.if_icmp .ge 6, 3) := by decide +kernel
theorem dX0_nearestState_37 : decode cX0_nearestState 37 = .ok (.iload 4, 2) := by decide +kernel
theorem dX0_nearestState_39 : decode cX0_nearestState 39 = .ok (.istore_n 3, 1) := by decide +kernel
theorem dX0_nearestState_40 : decode cX0_nearestState 40 = .ok (.iinc 4 1, 3) := by decide +kernel
theorem dX0_nearestState_43 : decode cX0_nearestState 43 = .ok (.goto (-38), 3) := by decide +kernel
theorem dX0_nearestState_46 : decode cX0_nearestState 46 = .ok (.iload_n 3, 1) := by decide +kernel
theorem dX0_nearestState_47 : decode cX0_nearestState 47 = .ok (.ireturn, 1) := by decide +kernel
theorem dX0_topOf_0 : decode cX0_topOf 0 = .ok (.aload_n 0, 1) := by decide +kernel
theorem dX0_topOf_1 : decode cX0_topOf 1 = .ok (.getfield 9, 3) := by decide +kernel
theorem dX0_topOf_4 : decode cX0_topOf 4 = .ok (.aload_n 0, 1) := by decide +kernel
theorem dX0_topOf_5 : decode cX0_topOf 5 = .ok (.getfield 34, 3) := by decide +kernel
theorem dX0_topOf_8 : decode cX0_topOf 8 = .ok (.iload_n 1, 1) := by decide +kernel
theorem dX0_topOf_9 : decode cX0_topOf 9 = .ok (.iaload, 1) := by decide +kernel
theorem dX0_topOf_10 : decode cX0_topOf 10 = .ok (.if_icmp .le 17, 3) := by decide +kernel
theorem dX0_topOf_13 : decode cX0_topOf 13 = .ok (.aload_n 0, 1) := by decide +kernel
theorem dX0_topOf_14 : decode cX0_topOf 14 = .ok (.getfield 9, 3) := by decide +kernel
theorem dX0_topOf_17 : decode cX0_topOf 17 = .ok (.aload_n 0, 1) := by decide +kernel
theorem dX0_topOf_18 : decode cX0_topOf 18 = .ok (.getfield 34, 3) := by decide +kernel
theorem dX0_topOf_21 : decode cX0_topOf 21 = .ok (.iload_n 1, 1) := by decide +kernel
theorem dX0_topOf_22 : decode cX0_topOf 22 = .ok (.iaload, 1) := by decide +kernel
theorem dX0_topOf_23 : decode cX0_topOf 23 = .ok (.isub, 1) := by decide +kernel
theorem dX0_topOf_24 : decode cX0_topOf 24 = .ok (.goto 4, 3) := by decide +kernel
theorem dX0_topOf_27 : decode cX0_topOf 27 = .ok (.iconst 0, 1) := by decide +kernel
theorem dX0_topOf_28 : decode cX0_topOf 28 = .ok (.ireturn, 1) := by decide +kernel
theorem dX0_driedIn_0 : decode cX0_driedIn 0 = .ok (.iload_n 2, 1) := by decide +kernel
theorem dX0_driedIn_1 : decode cX0_driedIn 1 = .ok (.aload_n 0, 1) := by decide +kernel
theorem dX0_driedIn_2 : decode cX0_driedIn 2 = .ok (.getfield 31, 3) := by decide +kernel
theorem dX0_driedIn_5 : decode cX0_driedIn 5 = .ok (.iload_n 1, 1) := by decide +kernel
theorem dX0_driedIn_6 : decode cX0_driedIn 6 = .ok (.iaload, 1) := by decide +kernel
theorem dX0_driedIn_7 : decode cX0_driedIn 7 = .ok (.imul, 1) := by decide +kernel
theorem dX0_driedIn_8 : decode cX0_driedIn 8 = .ok (.bipush 10, 2) := by decide +kernel
theorem dX0_driedIn_10 : decode cX0_driedIn 10 = .ok (.idiv, 1) := by decide +kernel
theorem dX0_driedIn_11 : decode cX0_driedIn 11 = .ok (.ireturn, 1) := by decide +kernel
theorem dX0_placeByRank_0 : decode cX0_placeByRank 0 = .ok (.iconst 0, 1) := by decide +kernel
theorem dX0_placeByRank_1 : decode cX0_placeByRank 1 = .ok (.istore_n 2, 1) := by decide +kernel
theorem dX0_placeByRank_2 : decode cX0_placeByRank 2 = .ok (.iconst 0, 1) := by decide +kernel
theorem dX0_placeByRank_3 : decode cX0_placeByRank 3 = .ok (.istore_n 3, 1) := by decide +kernel
theorem dX0_placeByRank_4 : decode cX0_placeByRank 4 = .ok (.iload_n 3, 1) := by decide +kernel
theorem dX0_placeByRank_5 : decode cX0_placeByRank 5 = .ok (.aload_n 0, 1) := by decide +kernel
theorem dX0_placeByRank_6 : decode cX0_placeByRank 6 = .ok (.getfield 46, 3) := by decide +kernel
theorem dX0_placeByRank_9 : decode cX0_placeByRank 9 = .ok (.if_icmp .ge 59, 3) := by decide +kernel
theorem dX0_placeByRank_12 : decode cX0_placeByRank 12 = .ok (.aload_n 0, 1) := by decide +kernel
theorem dX0_placeByRank_13 : decode cX0_placeByRank 13 = .ok (.getfield 39, 3) := by decide +kernel
theorem dX0_placeByRank_16 : decode cX0_placeByRank 16 = .ok (.iload_n 3, 1) := by decide +kernel
theorem dX0_placeByRank_17 : decode cX0_placeByRank 17 = .ok (.aaload, 1) := by decide +kernel
theorem dX0_placeByRank_18 : decode cX0_placeByRank 18 = .ok (.getfield 88, 3) := by decide +kernel
theorem dX0_placeByRank_21 : decode cX0_placeByRank 21 = .ok (.aload_n 0, 1) := by decide +kernel
theorem dX0_placeByRank_22 : decode cX0_placeByRank 22 = .ok (.getfield 39, 3) := by decide +kernel
theorem dX0_placeByRank_25 : decode cX0_placeByRank 25 = .ok (.iload_n 1, 1) := by decide +kernel
theorem dX0_placeByRank_26 : decode cX0_placeByRank 26 = .ok (.aaload, 1) := by decide +kernel
theorem dX0_placeByRank_27 : decode cX0_placeByRank 27 = .ok (.getfield 88, 3) := by decide +kernel
theorem dX0_placeByRank_30 : decode cX0_placeByRank 30 = .ok (.if_icmp .lt 29, 3) := by decide +kernel
theorem dX0_placeByRank_33 : decode cX0_placeByRank 33 = .ok (.aload_n 0, 1) := by decide +kernel
theorem dX0_placeByRank_34 : decode cX0_placeByRank 34 = .ok (.getfield 39, 3) := by decide +kernel
theorem dX0_placeByRank_37 : decode cX0_placeByRank 37 = .ok (.iload_n 3, 1) := by decide +kernel
theorem dX0_placeByRank_38 : decode cX0_placeByRank 38 = .ok (.aaload, 1) := by decide +kernel
theorem dX0_placeByRank_39 : decode cX0_placeByRank 39 = .ok (.getfield 88, 3) := by decide +kernel
theorem dX0_placeByRank_42 : decode cX0_placeByRank 42 = .ok (.aload_n 0, 1) := by decide +kernel
theorem dX0_placeByRank_43 : decode cX0_placeByRank 43 = .ok (.getfield 39, 3) := by decide +kernel
theorem dX0_placeByRank_46 : decode cX0_placeByRank 46 = .ok (.iload_n 1, 1) := by decide +kernel
theorem dX0_placeByRank_47 : decode cX0_placeByRank 47 = .ok (.aaload, 1) := by decide +kernel
theorem dX0_placeByRank_48 : decode cX0_placeByRank 48 = .ok (.getfield 88, 3) := by decide +kernel
theorem dX0_placeByRank_51 : decode cX0_placeByRank 51 = .ok (.if_icmp .ne 11, 3) := by decide +kernel
theorem dX0_placeByRank_54 : decode cX0_placeByRank 54 = .ok (.iload_n 3, 1) := by decide +kernel
theorem dX0_placeByRank_55 : decode cX0_placeByRank 55 = .ok (.iload_n 1, 1) := by decide +kernel
theorem dX0_placeByRank_56 : decode cX0_placeByRank 56 = .ok (.if_icmp .ge 6, 3) := by decide +kernel
theorem dX0_placeByRank_59 : decode cX0_placeByRank 59 = .ok (.iinc 2 1, 3) := by decide +kernel
theorem dX0_placeByRank_62 : decode cX0_placeByRank 62 = .ok (.iinc 3 1, 3) := by decide +kernel
theorem dX0_placeByRank_65 : decode cX0_placeByRank 65 = .ok (.goto (-61), 3) := by decide +kernel
theorem dX0_placeByRank_68 : decode cX0_placeByRank 68 = .ok (.iload_n 2, 1) := by decide +kernel
theorem dX0_placeByRank_69 : decode cX0_placeByRank 69 = .ok (.ireturn, 1) := by decide +kernel
theorem dX0_sortByRank_0 : decode cX0_sortByRank 0 = .ok (.iconst 0, 1) := by decide +kernel
theorem dX0_sortByRank_1 : decode cX0_sortByRank 1 = .ok (.istore_n 1, 1) := by decide +kernel
theorem dX0_sortByRank_2 : decode cX0_sortByRank 2 = .ok (.iload_n 1, 1) := by decide +kernel
theorem dX0_sortByRank_3 : decode cX0_sortByRank 3 = .ok (.aload_n 0, 1) := by decide +kernel
theorem dX0_sortByRank_4 : decode cX0_sortByRank 4 = .ok (.getfield 46, 3) := by decide +kernel
theorem dX0_sortByRank_7 : decode cX0_sortByRank 7 = .ok (.if_icmp .ge 20, 3) := by decide +kernel
theorem dX0_sortByRank_10 : decode cX0_sortByRank 10 = .ok (.aload_n 0, 1) := by decide +kernel
theorem dX0_sortByRank_11 : decode cX0_sortByRank 11 = .ok (.getfield 43, 3) := by decide +kernel
theorem dX0_sortByRank_14 : decode cX0_sortByRank 14 = .ok (.aload_n 0, 1) := by decide +kernel
theorem dX0_sortByRank_15 : decode cX0_sortByRank 15 = .ok (.iload_n 1, 1) := by decide +kernel
theorem dX0_sortByRank_16 : decode cX0_sortByRank 16 = .ok (.invokevirtual 143, 3) := by decide +kernel
theorem dX0_sortByRank_19 : decode cX0_sortByRank 19 = .ok (.iload_n 1, 1) := by decide +kernel
theorem dX0_sortByRank_20 : decode cX0_sortByRank 20 = .ok (.iastore, 1) := by decide +kernel
theorem dX0_sortByRank_21 : decode cX0_sortByRank 21 = .ok (.iinc 1 1, 3) := by decide +kernel
theorem dX0_sortByRank_24 : decode cX0_sortByRank 24 = .ok (.goto (-22), 3) := by decide +kernel
theorem dX0_sortByRank_27 : decode cX0_sortByRank 27 = .ok (.return_, 1) := by decide +kernel
theorem dX0_gotBy_0 : decode cX0_gotBy 0 = .ok (.iload_n 3, 1) := by decide +kernel
theorem dX0_gotBy_1 : decode cX0_gotBy 1 = .ok (.istore 4, 2) := by decide +kernel
theorem dX0_gotBy_3 : decode cX0_gotBy 3 = .ok (.iconst 0, 1) := by decide +kernel
theorem dX0_gotBy_4 : decode cX0_gotBy 4 = .ok (.istore 5, 2) := by decide +kernel
theorem dX0_gotBy_6 : decode cX0_gotBy 6 = .ok (.iload 5, 2) := by decide +kernel
theorem dX0_gotBy_8 : decode cX0_gotBy 8 = .ok (.aload_n 0, 1) := by decide +kernel
theorem dX0_gotBy_9 : decode cX0_gotBy 9 = .ok (.getfield 46, 3) := by decide +kernel
theorem dX0_gotBy_12 : decode cX0_gotBy 12 = .ok (.if_icmp .ge 53, 3) := by decide +kernel
theorem dX0_gotBy_15 : decode cX0_gotBy 15 = .ok (.aload_n 0, 1) := by decide +kernel
theorem dX0_gotBy_16 : decode cX0_gotBy 16 = .ok (.getfield 39, 3) := by decide +kernel
theorem dX0_gotBy_19 : decode cX0_gotBy 19 = .ok (.aload_n 0, 1) := by decide +kernel
theorem dX0_gotBy_20 : decode cX0_gotBy 20 = .ok (.getfield 43, 3) := by decide +kernel
theorem dX0_gotBy_23 : decode cX0_gotBy 23 = .ok (.iload 5, 2) := by decide +kernel
theorem dX0_gotBy_25 : decode cX0_gotBy 25 = .ok (.iaload, 1) := by decide +kernel
theorem dX0_gotBy_26 : decode cX0_gotBy 26 = .ok (.aaload, 1) := by decide +kernel
theorem dX0_gotBy_27 : decode cX0_gotBy 27 = .ok (.iload_n 2, 1) := by decide +kernel
theorem dX0_gotBy_28 : decode cX0_gotBy 28 = .ok (.invokevirtual 146, 3) := by decide +kernel
theorem dX0_gotBy_31 : decode cX0_gotBy 31 = .ok (.iload 4, 2) := by decide +kernel
theorem dX0_gotBy_33 : decode cX0_gotBy 33 = .ok (.invokestatic 132, 3) := by decide +kernel
theorem dX0_gotBy_36 : decode cX0_gotBy 36 = .ok (.istore 6, 2) := by decide +kernel
theorem dX0_gotBy_38 : decode cX0_gotBy 38 = .ok (.aload_n 0, 1) := by decide +kernel
theorem dX0_gotBy_39 : decode cX0_gotBy 39 = .ok (.getfield 43, 3) := by decide +kernel
theorem dX0_gotBy_42 : decode cX0_gotBy 42 = .ok (.iload 5, 2) := by decide +kernel
theorem dX0_gotBy_44 : decode cX0_gotBy 44 = .ok (.iaload, 1) := by decide +kernel
theorem dX0_gotBy_45 : decode cX0_gotBy 45 = .ok (.iload_n 1, 1) := by decide +kernel
theorem dX0_gotBy_46 : decode cX0_gotBy 46 = .ok (.if_icmp .ne 6, 3) := by decide +kernel
theorem dX0_gotBy_49 : decode cX0_gotBy 49 = .ok (.iload 6, 2) := by decide +kernel
theorem dX0_gotBy_51 : decode cX0_gotBy 51 = .ok (.ireturn, 1) := by decide +kernel
theorem dX0_gotBy_52 : decode cX0_gotBy 52 = .ok (.iload 4, 2) := by decide +kernel
theorem dX0_gotBy_54 : decode cX0_gotBy 54 = .ok (.iload 6, 2) := by decide +kernel
theorem dX0_gotBy_56 : decode cX0_gotBy 56 = .ok (.isub, 1) := by decide +kernel
theorem dX0_gotBy_57 : decode cX0_gotBy 57 = .ok (.istore 4, 2) := by decide +kernel
theorem dX0_gotBy_59 : decode cX0_gotBy 59 = .ok (.iinc 5 1, 3) := by decide +kernel
theorem dX0_gotBy_62 : decode cX0_gotBy 62 = .ok (.goto (-56), 3) := by decide +kernel
theorem dX0_gotBy_65 : decode cX0_gotBy 65 = .ok (.iconst 0, 1) := by decide +kernel
theorem dX0_gotBy_66 : decode cX0_gotBy 66 = .ok (.ireturn, 1) := by decide +kernel
theorem dX0_gainsOf_0 : decode cX0_gainsOf 0 = .ok (.iload_n 2, 1) := by decide +kernel
theorem dX0_gainsOf_1 : decode cX0_gainsOf 1 = .ok (.istore_n 3, 1) := by decide +kernel
theorem dX0_gainsOf_2 : decode cX0_gainsOf 2 = .ok (.iconst 0, 1) := by decide +kernel
theorem dX0_gainsOf_3 : decode cX0_gainsOf 3 = .ok (.istore 4, 2) := by decide +kernel
theorem dX0_gainsOf_5 : decode cX0_gainsOf 5 = .ok (.iconst 0, 1) := by decide +kernel
theorem dX0_gainsOf_6 : decode cX0_gainsOf 6 = .ok (.istore 5, 2) := by decide +kernel
theorem dX0_gainsOf_8 : decode cX0_gainsOf 8 = .ok (.iload 5, 2) := by decide +kernel
theorem dX0_gainsOf_10 : decode cX0_gainsOf 10 = .ok (.aload_n 0, 1) := by decide +kernel
theorem dX0_gainsOf_11 : decode cX0_gainsOf 11 = .ok (.getfield 46, 3) := by decide +kernel
theorem dX0_gainsOf_14 : decode cX0_gainsOf 14 = .ok (.if_icmp .ge 58, 3) := by decide +kernel
theorem dX0_gainsOf_17 : decode cX0_gainsOf 17 = .ok (.aload_n 0, 1) := by decide +kernel
theorem dX0_gainsOf_18 : decode cX0_gainsOf 18 = .ok (.getfield 39, 3) := by decide +kernel
theorem dX0_gainsOf_21 : decode cX0_gainsOf 21 = .ok (.aload_n 0, 1) := by decide +kernel
theorem dX0_gainsOf_22 : decode cX0_gainsOf 22 = .ok (.getfield 43, 3) := by decide +kernel
theorem dX0_gainsOf_25 : decode cX0_gainsOf 25 = .ok (.iload 5, 2) := by decide +kernel
theorem dX0_gainsOf_27 : decode cX0_gainsOf 27 = .ok (.iaload, 1) := by decide +kernel
theorem dX0_gainsOf_28 : decode cX0_gainsOf 28 = .ok (.aaload, 1) := by decide +kernel
theorem dX0_gainsOf_29 : decode cX0_gainsOf 29 = .ok (.astore 6, 2) := by decide +kernel
theorem dX0_gainsOf_31 : decode cX0_gainsOf 31 = .ok (.aload 6, 2) := by decide +kernel
theorem dX0_gainsOf_33 : decode cX0_gainsOf 33 = .ok (.iload_n 1, 1) := by decide +kernel
theorem dX0_gainsOf_34 : decode cX0_gainsOf 34 = .ok (.invokevirtual 146, 3) := by decide +kernel
theorem dX0_gainsOf_37 : decode cX0_gainsOf 37 = .ok (.istore 7, 2) := by decide +kernel
theorem dX0_gainsOf_39 : decode cX0_gainsOf 39 = .ok (.iload 7, 2) := by decide +kernel
theorem dX0_gainsOf_41 : decode cX0_gainsOf 41 = .ok (.iload_n 3, 1) := by decide +kernel
theorem dX0_gainsOf_42 : decode cX0_gainsOf 42 = .ok (.invokestatic 132, 3) := by decide +kernel
theorem dX0_gainsOf_45 : decode cX0_gainsOf 45 = .ok (.istore 8, 2) := by decide +kernel
theorem dX0_gainsOf_47 : decode cX0_gainsOf 47 = .ok (.iload 4, 2) := by decide +kernel
theorem dX0_gainsOf_49 : decode cX0_gainsOf 49 = .ok (.aload 6, 2) := by decide +kernel
theorem dX0_gainsOf_51 : decode cX0_gainsOf 51 = .ok (.iload 8, 2) := by decide +kernel
theorem dX0_gainsOf_53 : decode cX0_gainsOf 53 = .ok (.iload 7, 2) := by decide +kernel
theorem dX0_gainsOf_55 : decode cX0_gainsOf 55 = .ok (.invokevirtual 149, 3) := by decide +kernel
theorem dX0_gainsOf_58 : decode cX0_gainsOf 58 = .ok (.iadd, 1) := by decide +kernel
theorem dX0_gainsOf_59 : decode cX0_gainsOf 59 = .ok (.istore 4, 2) := by decide +kernel
theorem dX0_gainsOf_61 : decode cX0_gainsOf 61 = .ok (.iload_n 3, 1) := by decide +kernel
theorem dX0_gainsOf_62 : decode cX0_gainsOf 62 = .ok (.iload 8, 2) := by decide +kernel
theorem dX0_gainsOf_64 : decode cX0_gainsOf 64 = .ok (.isub, 1) := by decide +kernel
theorem dX0_gainsOf_65 : decode cX0_gainsOf 65 = .ok (.istore_n 3, 1) := by decide +kernel
theorem dX0_gainsOf_66 : decode cX0_gainsOf 66 = .ok (.iinc 5 1, 3) := by decide +kernel
theorem dX0_gainsOf_69 : decode cX0_gainsOf 69 = .ok (.goto (-61), 3) := by decide +kernel
theorem dX0_gainsOf_72 : decode cX0_gainsOf 72 = .ok (.iload 4, 2) := by decide +kernel
theorem dX0_gainsOf_74 : decode cX0_gainsOf 74 = .ok (.ireturn, 1) := by decide +kernel
theorem dX1_init_0 : decode cX1_init 0 = .ok (.aload_n 0, 1) := by decide +kernel
theorem dX1_init_1 : decode cX1_init 1 = .ok (.invokespecial 3, 3) := by decide +kernel
theorem dX1_init_4 : decode cX1_init 4 = .ok (.aload_n 0, 1) := by decide +kernel
theorem dX1_init_5 : decode cX1_init 5 = .ok (.sipush 546, 3) := by decide +kernel
theorem dX1_init_8 : decode cX1_init 8 = .ok (.newarray .float, 2) := by decide +kernel
theorem dX1_init_10 : decode cX1_init 10 = .ok (.putfield 9, 3) := by decide +kernel
theorem dX1_init_13 : decode cX1_init 13 = .ok (.aload_n 0, 1) := by decide +kernel
theorem dX1_init_14 : decode cX1_init 14 = .ok (.sipush 546, 3) := by decide +kernel
theorem dX1_init_17 : decode cX1_init 17 = .ok (.newarray .float, 2) := by decide +kernel
theorem dX1_init_19 : decode cX1_init 19 = .ok (.putfield 15, 3) := by decide +kernel
theorem dX1_init_22 : decode cX1_init 22 = .ok (.aload_n 0, 1) := by decide +kernel
theorem dX1_init_23 : decode cX1_init 23 = .ok (.sipush 504, 3) := by decide +kernel
theorem dX1_init_26 : decode cX1_init 26 = .ok (.newarray .int, 2) := by decide +kernel
theorem dX1_init_28 : decode cX1_init 28 = .ok (.putfield 18, 3) := by decide +kernel
theorem dX1_init_31 : decode cX1_init 31 = .ok (.aload_n 0, 1) := by decide +kernel
theorem dX1_init_32 : decode cX1_init 32 = .ok (.sipush 252, 3) := by decide +kernel
theorem dX1_init_35 : decode cX1_init 35 = .ok (.newarray .int, 2) := by decide +kernel
theorem dX1_init_37 : decode cX1_init 37 = .ok (.putfield 22, 3) := by decide +kernel
theorem dX1_init_40 : decode cX1_init 40 = .ok (.return_, 1) := by decide +kernel
theorem dX1_spot_0 : decode cX1_spot 0 = .ok (.iload_n 0, 1) := by decide +kernel
theorem dX1_spot_1 : decode cX1_spot 1 = .ok (.bipush 14, 2) := by decide +kernel
theorem dX1_spot_3 : decode cX1_spot 3 = .ok (.imul, 1) := by decide +kernel
theorem dX1_spot_4 : decode cX1_spot 4 = .ok (.iload_n 1, 1) := by decide +kernel
theorem dX1_spot_5 : decode cX1_spot 5 = .ok (.iadd, 1) := by decide +kernel
theorem dX1_spot_6 : decode cX1_spot 6 = .ok (.iconst 3, 1) := by decide +kernel
theorem dX1_spot_7 : decode cX1_spot 7 = .ok (.imul, 1) := by decide +kernel
theorem dX1_spot_8 : decode cX1_spot 8 = .ok (.iload_n 2, 1) := by decide +kernel
theorem dX1_spot_9 : decode cX1_spot 9 = .ok (.iadd, 1) := by decide +kernel
theorem dX1_spot_10 : decode cX1_spot 10 = .ok (.ireturn, 1) := by decide +kernel
theorem dX1_bestAt_0 : decode cX1_bestAt 0 = .ok (.aload_n 0, 1) := by decide +kernel
theorem dX1_bestAt_1 : decode cX1_bestAt 1 = .ok (.getfield 9, 3) := by decide +kernel
theorem dX1_bestAt_4 : decode cX1_bestAt 4 = .ok (.iload_n 1, 1) := by decide +kernel
theorem dX1_bestAt_5 : decode cX1_bestAt 5 = .ok (.iload_n 2, 1) := by decide +kernel
theorem dX1_bestAt_6 : decode cX1_bestAt 6 = .ok (.iload_n 3, 1) := by decide +kernel
theorem dX1_bestAt_7 : decode cX1_bestAt 7 = .ok (.invokestatic 25, 3) := by decide +kernel
theorem dX1_bestAt_10 : decode cX1_bestAt 10 = .ok (.faload, 1) := by decide +kernel
theorem dX1_bestAt_11 : decode cX1_bestAt 11 = .ok (.freturn, 1) := by decide +kernel
theorem dX1_releaseAt_0 : decode cX1_releaseAt 0 = .ok (.aload_n 0, 1) := by decide +kernel
theorem dX1_releaseAt_1 : decode cX1_releaseAt 1 = .ok (.getfield 18, 3) := by decide +kernel
theorem dX1_releaseAt_4 : decode cX1_releaseAt 4 = .ok (.iload_n 1, 1) := by decide +kernel
theorem dX1_releaseAt_5 : decode cX1_releaseAt 5 = .ok (.iload_n 2, 1) := by decide +kernel
theorem dX1_releaseAt_6 : decode cX1_releaseAt 6 = .ok (.iload_n 3, 1) := by decide +kernel
theorem dX1_releaseAt_7 : decode cX1_releaseAt 7 = .ok (.invokestatic 25, 3) := by decide +kernel
theorem dX1_releaseAt_10 : decode cX1_releaseAt 10 = .ok (.iaload, 1) := by decide +kernel
theorem dX1_releaseAt_11 : decode cX1_releaseAt 11 = .ok (.ireturn, 1) := by decide +kernel
theorem dX1_comesTo_0 : decode cX1_comesTo 0 = .ok (.iload_n 3, 1) := by decide +kernel
theorem dX1_comesTo_1 : decode cX1_comesTo 1 = .ok (.aload_n 1, 1) := by decide +kernel
theorem dX1_comesTo_2 : decode cX1_comesTo 2 = .ok (.iload_n 2, 1) := by decide +kernel
theorem dX1_comesTo_3 : decode cX1_comesTo 3 = .ok (.iload_n 3, 1) := by decide +kernel
theorem dX1_comesTo_4 : decode cX1_comesTo 4 = .ok (.invokevirtual 29, 3) := by decide +kernel
theorem dX1_comesTo_7 : decode cX1_comesTo 7 = .ok (.isub, 1) := by decide +kernel
theorem dX1_comesTo_8 : decode cX1_comesTo 8 = .ok (.aload_n 1, 1) := by decide +kernel
theorem dX1_comesTo_9 : decode cX1_comesTo 9 = .ok (.iload_n 2, 1) := by decide +kernel
theorem dX1_comesTo_10 : decode cX1_comesTo 10 = .ok (.iload 4, 2) := by decide +kernel
theorem dX1_comesTo_12 : decode cX1_comesTo 12 = .ok (.invokevirtual 35, 3) := by decide +kernel
theorem dX1_comesTo_15 : decode cX1_comesTo 15 = .ok (.iadd, 1) := by decide +kernel
theorem dX1_comesTo_16 : decode cX1_comesTo 16 = .ok (.istore 6, 2) := by decide +kernel
theorem dX1_comesTo_18 : decode cX1_comesTo 18 = .ok (.aload_n 0, 1) := by decide +kernel
theorem dX1_comesTo_19 : decode cX1_comesTo 19 = .ok (.aload_n 1, 1) := by decide +kernel
theorem dX1_comesTo_20 : decode cX1_comesTo 20 = .ok (.iload_n 2, 1) := by decide +kernel
theorem dX1_comesTo_21 : decode cX1_comesTo 21 = .ok (.iload 4, 2) := by decide +kernel
theorem dX1_comesTo_23 : decode cX1_comesTo 23 = .ok (.iload 6, 2) := by decide +kernel
theorem dX1_comesTo_25 : decode cX1_comesTo 25 = .ok (.iload 5, 2) := by decide +kernel
theorem dX1_comesTo_27 : decode cX1_comesTo 27 = .ok (.iload 6, 2) := by decide +kernel
theorem dX1_comesTo_29 : decode cX1_comesTo 29 = .ok (.invokestatic 38, 3) := by decide +kernel
theorem dX1_comesTo_32 : decode cX1_comesTo 32 = .ok (.isub, 1) := by decide +kernel
theorem dX1_comesTo_33 : decode cX1_comesTo 33 = .ok (.iload 5, 2) := by decide +kernel
theorem dX1_comesTo_35 : decode cX1_comesTo 35 = .ok (.iload 6, 2) := by decide +kernel
theorem dX1_comesTo_37 : decode cX1_comesTo 37 = .ok (.invokestatic 38, 3) := by decide +kernel
theorem dX1_comesTo_40 : decode cX1_comesTo 40 = .ok (.invokevirtual 43, 3) := by decide +kernel
theorem dX1_comesTo_43 : decode cX1_comesTo 43 = .ok (.freturn, 1) := by decide +kernel
theorem dX1_fillGains_0 : decode cX1_fillGains 0 = .ok (.iload_n 2, 1) := by decide +kernel
theorem dX1_fillGains_1 : decode cX1_fillGains 1 = .ok (.istore_n 3, 1) := by decide +kernel
theorem dX1_fillGains_2 : decode cX1_fillGains 2 = .ok (.iload_n 3, 1) := by decide +kernel
theorem dX1_fillGains_3 : decode cX1_fillGains 3 = .ok (.aload_n 1, 1) := by decide +kernel
theorem dX1_fillGains_4 : decode cX1_fillGains 4 = .ok (.getfield 47, 3) := by decide +kernel
theorem dX1_fillGains_7 : decode cX1_fillGains 7 = .ok (.if_icmp .ge 44, 3) := by decide +kernel
theorem dX1_fillGains_10 : decode cX1_fillGains 10 = .ok (.iconst 0, 1) := by decide +kernel
theorem dX1_fillGains_11 : decode cX1_fillGains 11 = .ok (.istore 4, 2) := by decide +kernel
theorem dX1_fillGains_13 : decode cX1_fillGains 13 = .ok (.iload 4, 2) := by decide +kernel
theorem dX1_fillGains_15 : decode cX1_fillGains 15 = .ok (.bipush 21, 2) := by decide +kernel
theorem dX1_fillGains_17 : decode cX1_fillGains 17 = .ok (.if_icmp .ge 28, 3) := by decide +kernel
theorem dX1_fillGains_20 : decode cX1_fillGains 20 = .ok (.aload_n 0, 1) := by decide +kernel
theorem dX1_fillGains_21 : decode cX1_fillGains 21 = .ok (.getfield 22, 3) := by decide +kernel
theorem dX1_fillGains_24 : decode cX1_fillGains 24 = .ok (.iload_n 3, 1) := by decide +kernel
theorem dX1_fillGains_25 : decode cX1_fillGains 25 = .ok (.bipush 21, 2) := by decide +kernel
theorem dX1_fillGains_27 : decode cX1_fillGains 27 = .ok (.imul, 1) := by decide +kernel
theorem dX1_fillGains_28 : decode cX1_fillGains 28 = .ok (.iload 4, 2) := by decide +kernel
theorem dX1_fillGains_30 : decode cX1_fillGains 30 = .ok (.iadd, 1) := by decide +kernel
theorem dX1_fillGains_31 : decode cX1_fillGains 31 = .ok (.aload_n 1, 1) := by decide +kernel
theorem dX1_fillGains_32 : decode cX1_fillGains 32 = .ok (.iload_n 3, 1) := by decide +kernel
theorem dX1_fillGains_33 : decode cX1_fillGains 33 = .ok (.iload 4, 2) := by decide +kernel
theorem dX1_fillGains_35 : decode cX1_fillGains 35 = .ok (.invokevirtual 51, 3) := by decide +kernel
theorem dX1_fillGains_38 : decode cX1_fillGains 38 = .ok (.iastore, 1) := by decide +kernel
theorem dX1_fillGains_39 : decode cX1_fillGains 39 = .ok (.iinc 4 1, 3) := by decide +kernel
theorem dX1_fillGains_42 : decode cX1_fillGains 42 = .ok (.goto (-29), 3) := by decide +kernel
theorem dX1_fillGains_45 : decode cX1_fillGains 45 = .ok (.iinc 3 1, 3) := by decide +kernel
theorem dX1_fillGains_48 : decode cX1_fillGains 48 = .ok (.goto (-46), 3) := by decide +kernel
theorem dX1_fillGains_51 : decode cX1_fillGains 51 = .ok (.return_, 1) := by decide +kernel
theorem dX1_sweep_0 : decode cX1_sweep 0 = .ok (.iconst 0, 1) := by decide +kernel
theorem dX1_sweep_1 : decode cX1_sweep 1 = .ok (.istore_n 3, 1) := by decide +kernel
theorem dX1_sweep_2 : decode cX1_sweep 2 = .ok (.iload_n 3, 1) := by decide +kernel
theorem dX1_sweep_3 : decode cX1_sweep 3 = .ok (.aload_n 1, 1) := by decide +kernel
theorem dX1_sweep_4 : decode cX1_sweep 4 = .ok (.getfield 54, 3) := by decide +kernel
theorem dX1_sweep_7 : decode cX1_sweep 7 = .ok (.if_icmp .gt 47, 3) := by decide +kernel
theorem dX1_sweep_10 : decode cX1_sweep 10 = .ok (.iconst 0, 1) := by decide +kernel
theorem dX1_sweep_11 : decode cX1_sweep 11 = .ok (.istore 4, 2) := by decide +kernel
theorem dX1_sweep_13 : decode cX1_sweep 13 = .ok (.iload 4, 2) := by decide +kernel
theorem dX1_sweep_15 : decode cX1_sweep 15 = .ok (.iconst 3, 1) := by decide +kernel
theorem dX1_sweep_16 : decode cX1_sweep 16 = .ok (.if_icmp .ge 32, 3) := by decide +kernel
theorem dX1_sweep_19 : decode cX1_sweep 19 = .ok (.aload_n 0, 1) := by decide +kernel
theorem dX1_sweep_20 : decode cX1_sweep 20 = .ok (.getfield 9, 3) := by decide +kernel
theorem dX1_sweep_23 : decode cX1_sweep 23 = .ok (.aload_n 1, 1) := by decide +kernel
theorem dX1_sweep_24 : decode cX1_sweep 24 = .ok (.getfield 47, 3) := by decide +kernel
theorem dX1_sweep_27 : decode cX1_sweep 27 = .ok (.iload_n 3, 1) := by decide +kernel
theorem dX1_sweep_28 : decode cX1_sweep 28 = .ok (.iload 4, 2) := by decide +kernel
theorem dX1_sweep_30 : decode cX1_sweep 30 = .ok (.invokestatic 25, 3) := by decide +kernel
theorem dX1_sweep_33 : decode cX1_sweep 33 = .ok (.aload_n 1, 1) := by decide +kernel
theorem dX1_sweep_34 : decode cX1_sweep 34 = .ok (.getfield 57, 3) := by decide +kernel
theorem dX1_sweep_37 : decode cX1_sweep 37 = .ok (.i2f, 1) := by decide +kernel
theorem dX1_sweep_38 : decode cX1_sweep 38 = .ok (.iload_n 3, 1) := by decide +kernel
theorem dX1_sweep_39 : decode cX1_sweep 39 = .ok (.i2f, 1) := by decide +kernel
theorem dX1_sweep_40 : decode cX1_sweep 40 = .ok (.fmul, 1) := by decide +kernel
theorem dX1_sweep_41 : decode cX1_sweep 41 = .ok (.fastore, 1) := by decide +kernel
theorem dX1_sweep_42 : decode cX1_sweep 42 = .ok (.iinc 4 1, 3) := by decide +kernel
theorem dX1_sweep_45 : decode cX1_sweep 45 = .ok (.goto (-32), 3) := by decide +kernel
theorem dX1_sweep_48 : decode cX1_sweep 48 = .ok (.iinc 3 1, 3) := by decide +kernel
theorem dX1_sweep_51 : decode cX1_sweep 51 = .ok (.goto (-49), 3) := by decide +kernel
theorem dX1_sweep_54 : decode cX1_sweep 54 = .ok (.aload_n 1, 1) := by decide +kernel
theorem dX1_sweep_55 : decode cX1_sweep 55 = .ok (.getfield 47, 3) := by decide +kernel
theorem dX1_sweep_58 : decode cX1_sweep 58 = .ok (.iconst 1, 1) := by decide +kernel
theorem dX1_sweep_59 : decode cX1_sweep 59 = .ok (.isub, 1) := by decide +kernel
theorem dX1_sweep_60 : decode cX1_sweep 60 = .ok (.istore_n 3, 1) := by decide +kernel
theorem dX1_sweep_61 : decode cX1_sweep 61 = .ok (.iload_n 3, 1) := by decide +kernel
theorem dX1_sweep_62 : decode cX1_sweep 62 = .ok (.iload_n 2, 1) := by decide +kernel
theorem dX1_sweep_63 : decode cX1_sweep 63 = .ok (.if_icmp .lt 60, 3) := by decide +kernel
theorem dX1_sweep_66 : decode cX1_sweep 66 = .ok (.aload_n 0, 1) := by decide +kernel
theorem dX1_sweep_67 : decode cX1_sweep 67 = .ok (.aload_n 1, 1) := by decide +kernel
theorem dX1_sweep_68 : decode cX1_sweep 68 = .ok (.iload_n 3, 1) := by decide +kernel
theorem dX1_sweep_69 : decode cX1_sweep 69 = .ok (.iconst 1, 1) := by decide +kernel
theorem dX1_sweep_70 : decode cX1_sweep 70 = .ok (.iadd, 1) := by decide +kernel
theorem dX1_sweep_71 : decode cX1_sweep 71 = .ok (.invokevirtual 60, 3) := by decide +kernel
theorem dX1_sweep_74 : decode cX1_sweep 74 = .ok (.iconst 0, 1) := by decide +kernel
theorem dX1_sweep_75 : decode cX1_sweep 75 = .ok (.istore 4, 2) := by decide +kernel
theorem dX1_sweep_77 : decode cX1_sweep 77 = .ok (.iload 4, 2) := by decide +kernel
theorem dX1_sweep_79 : decode cX1_sweep 79 = .ok (.aload_n 1, 1) := by decide +kernel
theorem dX1_sweep_80 : decode cX1_sweep 80 = .ok (.getfield 54, 3) := by decide +kernel
theorem dX1_sweep_83 : decode cX1_sweep 83 = .ok (.if_icmp .gt 34, 3) := by decide +kernel
theorem dX1_sweep_86 : decode cX1_sweep 86 = .ok (.iconst 0, 1) := by decide +kernel
theorem dX1_sweep_87 : decode cX1_sweep 87 = .ok (.istore 5, 2) := by decide +kernel
theorem dX1_sweep_89 : decode cX1_sweep 89 = .ok (.iload 5, 2) := by decide +kernel
theorem dX1_sweep_91 : decode cX1_sweep 91 = .ok (.iconst 3, 1) := by decide +kernel
theorem dX1_sweep_92 : decode cX1_sweep 92 = .ok (.if_icmp .ge 19, 3) := by decide +kernel
theorem dX1_sweep_95 : decode cX1_sweep 95 = .ok (.aload_n 0, 1) := by decide +kernel
theorem dX1_sweep_96 : decode cX1_sweep 96 = .ok (.aload_n 1, 1) := by decide +kernel
theorem dX1_sweep_97 : decode cX1_sweep 97 = .ok (.iload_n 3, 1) := by decide +kernel
theorem dX1_sweep_98 : decode cX1_sweep 98 = .ok (.iload 4, 2) := by decide +kernel
theorem dX1_sweep_100 : decode cX1_sweep 100 = .ok (.iload 5, 2) := by decide +kernel
theorem dX1_sweep_102 : decode cX1_sweep 102 = .ok (.invokevirtual 64, 3) := by decide +kernel
theorem dX1_sweep_105 : decode cX1_sweep 105 = .ok (.iinc 5 1, 3) := by decide +kernel
theorem dX1_sweep_108 : decode cX1_sweep 108 = .ok (.goto (-19), 3) := by decide +kernel
theorem dX1_sweep_111 : decode cX1_sweep 111 = .ok (.iinc 4 1, 3) := by decide +kernel
theorem dX1_sweep_114 : decode cX1_sweep 114 = .ok (.goto (-37), 3) := by decide +kernel
theorem dX1_sweep_117 : decode cX1_sweep 117 = .ok (.iinc 3 (-1), 3) := by decide +kernel
theorem dX1_sweep_120 : decode cX1_sweep 120 = .ok (.goto (-59), 3) := by decide +kernel
theorem dX1_sweep_123 : decode cX1_sweep 123 = .ok (.return_, 1) := by decide +kernel
theorem dX1_fillMeans_0 : decode cX1_fillMeans 0 = .ok (.iconst 0, 1) := by decide +kernel
theorem dX1_fillMeans_1 : decode cX1_fillMeans 1 = .ok (.istore_n 3, 1) := by decide +kernel
theorem dX1_fillMeans_2 : decode cX1_fillMeans 2 = .ok (.iload_n 3, 1) := by decide +kernel
theorem dX1_fillMeans_3 : decode cX1_fillMeans 3 = .ok (.iconst 3, 1) := by decide +kernel
theorem dX1_fillMeans_4 : decode cX1_fillMeans 4 = .ok (.if_icmp .ge 101, 3) := by decide +kernel
theorem dX1_fillMeans_7 : decode cX1_fillMeans 7 = .ok (.aload_n 1, 1) := by decide +kernel
theorem dX1_fillMeans_8 : decode cX1_fillMeans 8 = .ok (.iload_n 3, 1) := by decide +kernel
theorem dX1_fillMeans_9 : decode cX1_fillMeans 9 = .ok (.invokevirtual 68, 3) := by decide +kernel
theorem dX1_fillMeans_12 : decode cX1_fillMeans 12 = .ok (.i2f, 1) := by decide +kernel
theorem dX1_fillMeans_13 : decode cX1_fillMeans 13 = .ok (.fstore 4, 2) := by decide +kernel
theorem dX1_fillMeans_15 : decode cX1_fillMeans 15 = .ok (.iconst 0, 1) := by decide +kernel
theorem dX1_fillMeans_16 : decode cX1_fillMeans 16 = .ok (.istore 5, 2) := by decide +kernel
theorem dX1_fillMeans_18 : decode cX1_fillMeans 18 = .ok (.iload 5, 2) := by decide +kernel
theorem dX1_fillMeans_20 : decode cX1_fillMeans 20 = .ok (.aload_n 1, 1) := by decide +kernel
theorem dX1_fillMeans_21 : decode cX1_fillMeans 21 = .ok (.getfield 54, 3) := by decide +kernel
theorem dX1_fillMeans_24 : decode cX1_fillMeans 24 = .ok (.if_icmp .gt 75, 3) := by decide +kernel
theorem dX1_fillMeans_27 : decode cX1_fillMeans 27 = .ok (.fconst 0, 1) := by decide +kernel
theorem dX1_fillMeans_28 : decode cX1_fillMeans 28 = .ok (.fstore 6, 2) := by decide +kernel
theorem dX1_fillMeans_30 : decode cX1_fillMeans 30 = .ok (.iconst 0, 1) := by decide +kernel
theorem dX1_fillMeans_31 : decode cX1_fillMeans 31 = .ok (.istore 7, 2) := by decide +kernel
theorem dX1_fillMeans_33 : decode cX1_fillMeans 33 = .ok (.iload 7, 2) := by decide +kernel
theorem dX1_fillMeans_35 : decode cX1_fillMeans 35 = .ok (.iconst 3, 1) := by decide +kernel
theorem dX1_fillMeans_36 : decode cX1_fillMeans 36 = .ok (.if_icmp .ge 40, 3) := by decide +kernel
theorem dX1_fillMeans_39 : decode cX1_fillMeans 39 = .ok (.fload 6, 2) := by decide +kernel
theorem dX1_fillMeans_41 : decode cX1_fillMeans 41 = .ok (.aload_n 1, 1) := by decide +kernel
theorem dX1_fillMeans_42 : decode cX1_fillMeans 42 = .ok (.getfield 72, 3) := by decide +kernel
theorem dX1_fillMeans_45 : decode cX1_fillMeans 45 = .ok (.iload_n 3, 1) := by decide +kernel
theorem dX1_fillMeans_46 : decode cX1_fillMeans 46 = .ok (.iconst 3, 1) := by decide +kernel
theorem dX1_fillMeans_47 : decode cX1_fillMeans 47 = .ok (.imul, 1) := by decide +kernel
theorem dX1_fillMeans_48 : decode cX1_fillMeans 48 = .ok (.iload 7, 2) := by decide +kernel
theorem dX1_fillMeans_50 : decode cX1_fillMeans 50 = .ok (.iadd, 1) := by decide +kernel
theorem dX1_fillMeans_51 : decode cX1_fillMeans 51 = .ok (.iaload, 1) := by decide +kernel
theorem dX1_fillMeans_52 : decode cX1_fillMeans 52 = .ok (.i2f, 1) := by decide +kernel
theorem dX1_fillMeans_53 : decode cX1_fillMeans 53 = .ok (.aload_n 0, 1) := by decide +kernel
theorem dX1_fillMeans_54 : decode cX1_fillMeans 54 = .ok (.getfield 9, 3) := by decide +kernel
theorem dX1_fillMeans_57 : decode cX1_fillMeans 57 = .ok (.iload_n 2, 1) := by decide +kernel
theorem dX1_fillMeans_58 : decode cX1_fillMeans 58 = .ok (.iload 5, 2) := by decide +kernel
theorem dX1_fillMeans_60 : decode cX1_fillMeans 60 = .ok (.iload 7, 2) := by decide +kernel
theorem dX1_fillMeans_62 : decode cX1_fillMeans 62 = .ok (.invokestatic 25, 3) := by decide +kernel
theorem dX1_fillMeans_65 : decode cX1_fillMeans 65 = .ok (.faload, 1) := by decide +kernel
theorem dX1_fillMeans_66 : decode cX1_fillMeans 66 = .ok (.fmul, 1) := by decide +kernel
theorem dX1_fillMeans_67 : decode cX1_fillMeans 67 = .ok (.fadd, 1) := by decide +kernel
theorem dX1_fillMeans_68 : decode cX1_fillMeans 68 = .ok (.fstore 6, 2) := by decide +kernel
theorem dX1_fillMeans_70 : decode cX1_fillMeans 70 = .ok (.iinc 7 1, 3) := by decide +kernel
theorem dX1_fillMeans_73 : decode cX1_fillMeans 73 = .ok (.goto (-40), 3) := by decide +kernel
theorem dX1_fillMeans_76 : decode cX1_fillMeans 76 = .ok (.aload_n 0, 1) := by decide +kernel
theorem dX1_fillMeans_77 : decode cX1_fillMeans 77 = .ok (.getfield 15, 3) := by decide +kernel
theorem dX1_fillMeans_80 : decode cX1_fillMeans 80 = .ok (.iload_n 2, 1) := by decide +kernel
theorem dX1_fillMeans_81 : decode cX1_fillMeans 81 = .ok (.iload 5, 2) := by decide +kernel
theorem dX1_fillMeans_83 : decode cX1_fillMeans 83 = .ok (.iload_n 3, 1) := by decide +kernel
theorem dX1_fillMeans_84 : decode cX1_fillMeans 84 = .ok (.invokestatic 25, 3) := by decide +kernel
theorem dX1_fillMeans_87 : decode cX1_fillMeans 87 = .ok (.fload 6, 2) := by decide +kernel
theorem dX1_fillMeans_89 : decode cX1_fillMeans 89 = .ok (.fload 4, 2) := by decide +kernel
theorem dX1_fillMeans_91 : decode cX1_fillMeans 91 = .ok (.fdiv, 1) := by decide +kernel
theorem dX1_fillMeans_92 : decode cX1_fillMeans 92 = .ok (.fastore, 1) := by decide +kernel
theorem dX1_fillMeans_93 : decode cX1_fillMeans 93 = .ok (.iinc 5 1, 3) := by decide +kernel
theorem dX1_fillMeans_96 : decode cX1_fillMeans 96 = .ok (.goto (-78), 3) := by decide +kernel
theorem dX1_fillMeans_99 : decode cX1_fillMeans 99 = .ok (.iinc 3 1, 3) := by decide +kernel
theorem dX1_fillMeans_102 : decode cX1_fillMeans 102 = .ok (.goto (-100), 3) := by decide +kernel
theorem dX1_fillMeans_105 : decode cX1_fillMeans 105 = .ok (.return_, 1) := by decide +kernel
theorem dX1_choose_0 : decode cX1_choose 0 = .ok (.iload_n 3, 1) := by decide +kernel
theorem dX1_choose_1 : decode cX1_choose 1 = .ok (.aload_n 1, 1) := by decide +kernel
theorem dX1_choose_2 : decode cX1_choose 2 = .ok (.iload_n 2, 1) := by decide +kernel
theorem dX1_choose_3 : decode cX1_choose 3 = .ok (.iload_n 3, 1) := by decide +kernel
theorem dX1_choose_4 : decode cX1_choose 4 = .ok (.invokevirtual 29, 3) := by decide +kernel
theorem dX1_choose_7 : decode cX1_choose 7 = .ok (.isub, 1) := by decide +kernel
theorem dX1_choose_8 : decode cX1_choose 8 = .ok (.aload_n 1, 1) := by decide +kernel
theorem dX1_choose_9 : decode cX1_choose 9 = .ok (.iload_n 2, 1) := by decide +kernel
theorem dX1_choose_10 : decode cX1_choose 10 = .ok (.iload 4, 2) := by decide +kernel
theorem dX1_choose_12 : decode cX1_choose 12 = .ok (.invokevirtual 35, 3) := by decide +kernel
theorem dX1_choose_15 : decode cX1_choose 15 = .ok (.iadd, 1) := by decide +kernel
theorem dX1_choose_16 : decode cX1_choose 16 = .ok (.istore 5, 2) := by decide +kernel
theorem dX1_choose_18 : decode cX1_choose 18 = .ok (.bipush 20, 2) := by decide +kernel
theorem dX1_choose_20 : decode cX1_choose 20 = .ok (.iload 5, 2) := by decide +kernel
theorem dX1_choose_22 : decode cX1_choose 22 = .ok (.invokestatic 38, 3) := by decide +kernel
theorem dX1_choose_25 : decode cX1_choose 25 = .ok (.istore 6, 2) := by decide +kernel
theorem dX1_choose_27 : decode cX1_choose 27 = .ok (.aload_n 0, 1) := by decide +kernel
theorem dX1_choose_28 : decode cX1_choose 28 = .ok (.aload_n 1, 1) := by decide +kernel
theorem dX1_choose_29 : decode cX1_choose 29 = .ok (.iload_n 2, 1) := by decide +kernel
theorem dX1_choose_30 : decode cX1_choose 30 = .ok (.iload 4, 2) := by decide +kernel
theorem dX1_choose_32 : decode cX1_choose 32 = .ok (.iload 5, 2) := by decide +kernel
theorem dX1_choose_34 : decode cX1_choose 34 = .ok (.iconst 0, 1) := by decide +kernel
theorem dX1_choose_35 : decode cX1_choose 35 = .ok (.invokevirtual 43, 3) := by decide +kernel
theorem dX1_choose_38 : decode cX1_choose 38 = .ok (.fstore 7, 2) := by decide +kernel
theorem dX1_choose_40 : decode cX1_choose 40 = .ok (.iconst 0, 1) := by decide +kernel
theorem dX1_choose_41 : decode cX1_choose 41 = .ok (.istore 8, 2) := by decide +kernel
theorem dX1_choose_43 : decode cX1_choose 43 = .ok (.iconst 1, 1) := by decide +kernel
theorem dX1_choose_44 : decode cX1_choose 44 = .ok (.istore 9, 2) := by decide +kernel
theorem dX1_choose_46 : decode cX1_choose 46 = .ok (.iload 9, 2) := by decide +kernel
theorem dX1_choose_48 : decode cX1_choose 48 = .ok (.iload 6, 2) := by decide +kernel
theorem dX1_choose_50 : decode cX1_choose 50 = .ok (.if_icmp .gt 42, 3) := by decide +kernel
theorem dX1_choose_53 : decode cX1_choose 53 = .ok (.aload_n 0, 1) := by decide +kernel
theorem dX1_choose_54 : decode cX1_choose 54 = .ok (.aload_n 1, 1) := by decide +kernel
theorem dX1_choose_55 : decode cX1_choose 55 = .ok (.iload_n 2, 1) := by decide +kernel
theorem dX1_choose_56 : decode cX1_choose 56 = .ok (.iload 4, 2) := by decide +kernel
theorem dX1_choose_58 : decode cX1_choose 58 = .ok (.iload 5, 2) := by decide +kernel
theorem dX1_choose_60 : decode cX1_choose 60 = .ok (.iload 9, 2) := by decide +kernel
theorem dX1_choose_62 : decode cX1_choose 62 = .ok (.isub, 1) := by decide +kernel
theorem dX1_choose_63 : decode cX1_choose 63 = .ok (.iload 9, 2) := by decide +kernel
theorem dX1_choose_65 : decode cX1_choose 65 = .ok (.invokevirtual 43, 3) := by decide +kernel
theorem dX1_choose_68 : decode cX1_choose 68 = .ok (.fstore 10, 2) := by decide +kernel
theorem dX1_choose_70 : decode cX1_choose 70 = .ok (.fload 10, 2) := by decide +kernel
theorem dX1_choose_72 : decode cX1_choose 72 = .ok (.fload 7, 2) := by decide +kernel
theorem dX1_choose_74 : decode cX1_choose 74 = .ok (.fcmp .l, 1) := by decide +kernel
theorem dX1_choose_75 : decode cX1_choose 75 = .ok (.ifCond .le 11, 3) := by decide +kernel
theorem dX1_choose_78 : decode cX1_choose 78 = .ok (.fload 10, 2) := by decide +kernel
theorem dX1_choose_80 : decode cX1_choose 80 = .ok (.fstore 7, 2) := by decide +kernel
theorem dX1_choose_82 : decode cX1_choose 82 = .ok (.iload 9, 2) := by decide +kernel
theorem dX1_choose_84 : decode cX1_choose 84 = .ok (.istore 8, 2) := by decide +kernel
theorem dX1_choose_86 : decode cX1_choose 86 = .ok (.iinc 9 1, 3) := by decide +kernel
theorem dX1_choose_89 : decode cX1_choose 89 = .ok (.goto (-43), 3) := by decide +kernel
theorem dX1_choose_92 : decode cX1_choose 92 = .ok (.aload_n 0, 1) := by decide +kernel
theorem dX1_choose_93 : decode cX1_choose 93 = .ok (.getfield 9, 3) := by decide +kernel
theorem dX1_choose_96 : decode cX1_choose 96 = .ok (.iload_n 2, 1) := by decide +kernel
theorem dX1_choose_97 : decode cX1_choose 97 = .ok (.iload_n 3, 1) := by decide +kernel
theorem dX1_choose_98 : decode cX1_choose 98 = .ok (.iload 4, 2) := by decide +kernel
theorem dX1_choose_100 : decode cX1_choose 100 = .ok (.invokestatic 25, 3) := by decide +kernel
theorem dX1_choose_103 : decode cX1_choose 103 = .ok (.fload 7, 2) := by decide +kernel
theorem dX1_choose_105 : decode cX1_choose 105 = .ok (.fastore, 1) := by decide +kernel
theorem dX1_choose_106 : decode cX1_choose 106 = .ok (.aload_n 0, 1) := by decide +kernel
theorem dX1_choose_107 : decode cX1_choose 107 = .ok (.getfield 18, 3) := by decide +kernel
theorem dX1_choose_110 : decode cX1_choose 110 = .ok (.iload_n 2, 1) := by decide +kernel
theorem dX1_choose_111 : decode cX1_choose 111 = .ok (.iload_n 3, 1) := by decide +kernel
theorem dX1_choose_112 : decode cX1_choose 112 = .ok (.iload 4, 2) := by decide +kernel
theorem dX1_choose_114 : decode cX1_choose 114 = .ok (.invokestatic 25, 3) := by decide +kernel
theorem dX1_choose_117 : decode cX1_choose 117 = .ok (.iload 8, 2) := by decide +kernel
theorem dX1_choose_119 : decode cX1_choose 119 = .ok (.iastore, 1) := by decide +kernel
theorem dX1_choose_120 : decode cX1_choose 120 = .ok (.return_, 1) := by decide +kernel
theorem dX1_valueOf_0 : decode cX1_valueOf 0 = .ok (.iload 4, 2) := by decide +kernel
theorem dX1_valueOf_2 : decode cX1_valueOf 2 = .ok (.aload_n 1, 1) := by decide +kernel
theorem dX1_valueOf_3 : decode cX1_valueOf 3 = .ok (.iload_n 2, 1) := by decide +kernel
theorem dX1_valueOf_4 : decode cX1_valueOf 4 = .ok (.invokevirtual 75, 3) := by decide +kernel
theorem dX1_valueOf_7 : decode cX1_valueOf 7 = .ok (.invokestatic 38, 3) := by decide +kernel
theorem dX1_valueOf_10 : decode cX1_valueOf 10 = .ok (.istore 6, 2) := by decide +kernel
theorem dX1_valueOf_12 : decode cX1_valueOf 12 = .ok (.aload_n 0, 1) := by decide +kernel
theorem dX1_valueOf_13 : decode cX1_valueOf 13 = .ok (.getfield 22, 3) := by decide +kernel
theorem dX1_valueOf_16 : decode cX1_valueOf 16 = .ok (.iload_n 2, 1) := by decide +kernel
theorem dX1_valueOf_17 : decode cX1_valueOf 17 = .ok (.bipush 21, 2) := by decide +kernel
theorem dX1_valueOf_19 : decode cX1_valueOf 19 = .ok (.imul, 1) := by decide +kernel
theorem dX1_valueOf_20 : decode cX1_valueOf 20 = .ok (.iload 5, 2) := by decide +kernel
theorem dX1_valueOf_22 : decode cX1_valueOf 22 = .ok (.iadd, 1) := by decide +kernel
theorem dX1_valueOf_23 : decode cX1_valueOf 23 = .ok (.iaload, 1) := by decide +kernel
theorem dX1_valueOf_24 : decode cX1_valueOf 24 = .ok (.aload_n 1, 1) := by decide +kernel
theorem dX1_valueOf_25 : decode cX1_valueOf 25 = .ok (.getfield 78, 3) := by decide +kernel
theorem dX1_valueOf_28 : decode cX1_valueOf 28 = .ok (.iload 4, 2) := by decide +kernel
theorem dX1_valueOf_30 : decode cX1_valueOf 30 = .ok (.iload 6, 2) := by decide +kernel
theorem dX1_valueOf_32 : decode cX1_valueOf 32 = .ok (.isub, 1) := by decide +kernel
theorem dX1_valueOf_33 : decode cX1_valueOf 33 = .ok (.imul, 1) := by decide +kernel
theorem dX1_valueOf_34 : decode cX1_valueOf 34 = .ok (.isub, 1) := by decide +kernel
theorem dX1_valueOf_35 : decode cX1_valueOf 35 = .ok (.istore 7, 2) := by decide +kernel
theorem dX1_valueOf_37 : decode cX1_valueOf 37 = .ok (.iload 7, 2) := by decide +kernel
theorem dX1_valueOf_39 : decode cX1_valueOf 39 = .ok (.i2f, 1) := by decide +kernel
theorem dX1_valueOf_40 : decode cX1_valueOf 40 = .ok (.aload_n 0, 1) := by decide +kernel
theorem dX1_valueOf_41 : decode cX1_valueOf 41 = .ok (.getfield 15, 3) := by decide +kernel
theorem dX1_valueOf_44 : decode cX1_valueOf 44 = .ok (.iload_n 2, 1) := by decide +kernel
theorem dX1_valueOf_45 : decode cX1_valueOf 45 = .ok (.iconst 1, 1) := by decide +kernel
theorem dX1_valueOf_46 : decode cX1_valueOf 46 = .ok (.iadd, 1) := by decide +kernel
theorem dX1_valueOf_47 : decode cX1_valueOf 47 = .ok (.iload 6, 2) := by decide +kernel
theorem dX1_valueOf_49 : decode cX1_valueOf 49 = .ok (.iload_n 3, 1) := by decide +kernel
theorem dX1_valueOf_50 : decode cX1_valueOf 50 = .ok (.invokestatic 25, 3) := by decide +kernel
theorem dX1_valueOf_53 : decode cX1_valueOf 53 = .ok (.faload, 1) := by decide +kernel
theorem dX1_valueOf_54 : decode cX1_valueOf 54 = .ok (.fadd, 1) := by decide +kernel
theorem dX1_valueOf_55 : decode cX1_valueOf 55 = .ok (.freturn, 1) := by decide +kernel
theorem dX2_init_0 : decode cX2_init 0 = .ok (.aload_n 0, 1) := by decide +kernel
theorem dX2_init_1 : decode cX2_init 1 = .ok (.invokespecial 3, 3) := by decide +kernel
theorem dX2_init_4 : decode cX2_init 4 = .ok (.aload_n 0, 1) := by decide +kernel
theorem dX2_init_5 : decode cX2_init 5 = .ok (.bipush 9, 2) := by decide +kernel
theorem dX2_init_7 : decode cX2_init 7 = .ok (.newarray .float, 2) := by decide +kernel
theorem dX2_init_9 : decode cX2_init 9 = .ok (.putfield 9, 3) := by decide +kernel
theorem dX2_init_12 : decode cX2_init 12 = .ok (.aload_n 0, 1) := by decide +kernel
theorem dX2_init_13 : decode cX2_init 13 = .ok (.iconst 3, 1) := by decide +kernel
theorem dX2_init_14 : decode cX2_init 14 = .ok (.newarray .float, 2) := by decide +kernel
theorem dX2_init_16 : decode cX2_init 16 = .ok (.putfield 15, 3) := by decide +kernel
theorem dX2_init_19 : decode cX2_init 19 = .ok (.aload_n 0, 1) := by decide +kernel
theorem dX2_init_20 : decode cX2_init 20 = .ok (.iconst 3, 1) := by decide +kernel
theorem dX2_init_21 : decode cX2_init 21 = .ok (.newarray .float, 2) := by decide +kernel
theorem dX2_init_23 : decode cX2_init 23 = .ok (.putfield 18, 3) := by decide +kernel
theorem dX2_init_26 : decode cX2_init 26 = .ok (.aload_n 0, 1) := by decide +kernel
theorem dX2_init_27 : decode cX2_init 27 = .ok (.bipush 9, 2) := by decide +kernel
theorem dX2_init_29 : decode cX2_init 29 = .ok (.newarray .int, 2) := by decide +kernel
theorem dX2_init_31 : decode cX2_init 31 = .ok (.putfield 21, 3) := by decide +kernel
theorem dX2_init_34 : decode cX2_init 34 = .ok (.aload_n 0, 1) := by decide +kernel
theorem dX2_init_35 : decode cX2_init 35 = .ok (.bipush 9, 2) := by decide +kernel
theorem dX2_init_37 : decode cX2_init 37 = .ok (.newarray .float, 2) := by decide +kernel
theorem dX2_init_39 : decode cX2_init 39 = .ok (.putfield 25, 3) := by decide +kernel
theorem dX2_init_42 : decode cX2_init 42 = .ok (.aload_n 0, 1) := by decide +kernel
theorem dX2_init_43 : decode cX2_init 43 = .ok (.bipush 8, 2) := by decide +kernel
theorem dX2_init_45 : decode cX2_init 45 = .ok (.newarray .int, 2) := by decide +kernel
theorem dX2_init_47 : decode cX2_init 47 = .ok (.putfield 28, 3) := by decide +kernel
theorem dX2_init_50 : decode cX2_init 50 = .ok (.aload_n 0, 1) := by decide +kernel
theorem dX2_init_51 : decode cX2_init 51 = .ok (.fconst 0, 1) := by decide +kernel
theorem dX2_init_52 : decode cX2_init 52 = .ok (.putfield 31, 3) := by decide +kernel
theorem dX2_init_55 : decode cX2_init 55 = .ok (.return_, 1) := by decide +kernel
theorem dX2_load_0 : decode cX2_load 0 = .ok (.iconst 0, 1) := by decide +kernel
theorem dX2_load_1 : decode cX2_load 1 = .ok (.istore_n 2, 1) := by decide +kernel
theorem dX2_load_2 : decode cX2_load 2 = .ok (.iload_n 2, 1) := by decide +kernel
theorem dX2_load_3 : decode cX2_load 3 = .ok (.iconst 3, 1) := by decide +kernel
theorem dX2_load_4 : decode cX2_load 4 = .ok (.if_icmp .ge 56, 3) := by decide +kernel
theorem dX2_load_7 : decode cX2_load 7 = .ok (.aload_n 1, 1) := by decide +kernel
theorem dX2_load_8 : decode cX2_load 8 = .ok (.iload_n 2, 1) := by decide +kernel
theorem dX2_load_9 : decode cX2_load 9 = .ok (.invokevirtual 35, 3) := by decide +kernel
theorem dX2_load_12 : decode cX2_load 12 = .ok (.i2f, 1) := by decide +kernel
theorem dX2_load_13 : decode cX2_load 13 = .ok (.fstore_n 3, 1) := by decide +kernel
theorem dX2_load_14 : decode cX2_load 14 = .ok (.iconst 0, 1) := by decide +kernel
theorem dX2_load_15 : decode cX2_load 15 = .ok (.istore 4, 2) := by decide +kernel
theorem dX2_load_17 : decode cX2_load 17 = .ok (.iload 4, 2) := by decide +kernel
theorem dX2_load_19 : decode cX2_load 19 = .ok (.iconst 3, 1) := by decide +kernel
theorem dX2_load_20 : decode cX2_load 20 = .ok (.if_icmp .ge 34, 3) := by decide +kernel
theorem dX2_load_23 : decode cX2_load 23 = .ok (.aload_n 0, 1) := by decide +kernel
theorem dX2_load_24 : decode cX2_load 24 = .ok (.getfield 9, 3) := by decide +kernel
theorem dX2_load_27 : decode cX2_load 27 = .ok (.iload_n 2, 1) := by decide +kernel
theorem dX2_load_28 : decode cX2_load 28 = .ok (.iconst 3, 1) := by decide +kernel
theorem dX2_load_29 : decode cX2_load 29 = .ok (.imul, 1) := by decide +kernel
theorem dX2_load_30 : decode cX2_load 30 = .ok (.iload 4, 2) := by decide +kernel
theorem dX2_load_32 : decode cX2_load 32 = .ok (.iadd, 1) := by decide +kernel
theorem dX2_load_33 : decode cX2_load 33 = .ok (.aload_n 1, 1) := by decide +kernel
theorem dX2_load_34 : decode cX2_load 34 = .ok (.getfield 41, 3) := by decide +kernel
theorem dX2_load_37 : decode cX2_load 37 = .ok (.iload_n 2, 1) := by decide +kernel
theorem dX2_load_38 : decode cX2_load 38 = .ok (.iconst 3, 1) := by decide +kernel
theorem dX2_load_39 : decode cX2_load 39 = .ok (.imul, 1) := by decide +kernel
theorem dX2_load_40 : decode cX2_load 40 = .ok (.iload 4, 2) := by decide +kernel
theorem dX2_load_42 : decode cX2_load 42 = .ok (.iadd, 1) := by decide +kernel
theorem dX2_load_43 : decode cX2_load 43 = .ok (.iaload, 1) := by decide +kernel
theorem dX2_load_44 : decode cX2_load 44 = .ok (.i2f, 1) := by decide +kernel
theorem dX2_load_45 : decode cX2_load 45 = .ok (.fload_n 3, 1) := by decide +kernel
theorem dX2_load_46 : decode cX2_load 46 = .ok (.fdiv, 1) := by decide +kernel
theorem dX2_load_47 : decode cX2_load 47 = .ok (.fastore, 1) := by decide +kernel
theorem dX2_load_48 : decode cX2_load 48 = .ok (.iinc 4 1, 3) := by decide +kernel
theorem dX2_load_51 : decode cX2_load 51 = .ok (.goto (-34), 3) := by decide +kernel
theorem dX2_load_54 : decode cX2_load 54 = .ok (.iinc 2 1, 3) := by decide +kernel
theorem dX2_load_57 : decode cX2_load 57 = .ok (.goto (-55), 3) := by decide +kernel
theorem dX2_load_60 : decode cX2_load 60 = .ok (.return_, 1) := by decide +kernel
theorem dX2_oddsAfter_0 : decode cX2_oddsAfter 0 = .ok (.iconst 0, 1) := by decide +kernel
theorem dX2_oddsAfter_1 : decode cX2_oddsAfter 1 = .ok (.istore 4, 2) := by decide +kernel
theorem dX2_oddsAfter_3 : decode cX2_oddsAfter 3 = .ok (.iload 4, 2) := by decide +kernel
theorem dX2_oddsAfter_5 : decode cX2_oddsAfter 5 = .ok (.iconst 3, 1) := by decide +kernel
theorem dX2_oddsAfter_6 : decode cX2_oddsAfter 6 = .ok (.if_icmp .ge 27, 3) := by decide +kernel
theorem dX2_oddsAfter_9 : decode cX2_oddsAfter 9 = .ok (.aload_n 0, 1) := by decide +kernel
theorem dX2_oddsAfter_10 : decode cX2_oddsAfter 10 = .ok (.getfield 15, 3) := by decide +kernel
theorem dX2_oddsAfter_13 : decode cX2_oddsAfter 13 = .ok (.iload 4, 2) := by decide +kernel
theorem dX2_oddsAfter_15 : decode cX2_oddsAfter 15 = .ok (.iload 4, 2) := by decide +kernel
theorem dX2_oddsAfter_17 : decode cX2_oddsAfter 17 = .ok (.iload_n 2, 1) := by decide +kernel
theorem dX2_oddsAfter_18 : decode cX2_oddsAfter 18 = .ok (.if_icmp .ne 7, 3) := by decide +kernel
theorem dX2_oddsAfter_21 : decode cX2_oddsAfter 21 = .ok (.fconst 1, 1) := by decide +kernel
theorem dX2_oddsAfter_22 : decode cX2_oddsAfter 22 = .ok (.goto 4, 3) := by decide +kernel
theorem dX2_oddsAfter_25 : decode cX2_oddsAfter 25 = .ok (.fconst 0, 1) := by decide +kernel
theorem dX2_oddsAfter_26 : decode cX2_oddsAfter 26 = .ok (.fastore, 1) := by decide +kernel
theorem dX2_oddsAfter_27 : decode cX2_oddsAfter 27 = .ok (.iinc 4 1, 3) := by decide +kernel
theorem dX2_oddsAfter_30 : decode cX2_oddsAfter 30 = .ok (.goto (-27), 3) := by decide +kernel
theorem dX2_oddsAfter_33 : decode cX2_oddsAfter 33 = .ok (.iconst 0, 1) := by decide +kernel
theorem dX2_oddsAfter_34 : decode cX2_oddsAfter 34 = .ok (.istore 4, 2) := by decide +kernel
theorem dX2_oddsAfter_36 : decode cX2_oddsAfter 36 = .ok (.iload 4, 2) := by decide +kernel
theorem dX2_oddsAfter_38 : decode cX2_oddsAfter 38 = .ok (.iload_n 1, 1) := by decide +kernel
theorem dX2_oddsAfter_39 : decode cX2_oddsAfter 39 = .ok (.if_icmp .ge 96, 3) := by decide +kernel
theorem dX2_oddsAfter_42 : decode cX2_oddsAfter 42 = .ok (.iconst 0, 1) := by decide +kernel
theorem dX2_oddsAfter_43 : decode cX2_oddsAfter 43 = .ok (.istore 5, 2) := by decide +kernel
theorem dX2_oddsAfter_45 : decode cX2_oddsAfter 45 = .ok (.iload 5, 2) := by decide +kernel
theorem dX2_oddsAfter_47 : decode cX2_oddsAfter 47 = .ok (.iconst 3, 1) := by decide +kernel
theorem dX2_oddsAfter_48 : decode cX2_oddsAfter 48 = .ok (.if_icmp .ge 61, 3) := by decide +kernel
theorem dX2_oddsAfter_51 : decode cX2_oddsAfter 51 = .ok (.fconst 0, 1) := by decide +kernel
theorem dX2_oddsAfter_52 : decode cX2_oddsAfter 52 = .ok (.fstore 6, 2) := by decide +kernel
theorem dX2_oddsAfter_54 : decode cX2_oddsAfter 54 = .ok (.iconst 0, 1) := by decide +kernel
theorem dX2_oddsAfter_55 : decode cX2_oddsAfter 55 = .ok (.istore 7, 2) := by decide +kernel
theorem dX2_oddsAfter_57 : decode cX2_oddsAfter 57 = .ok (.iload 7, 2) := by decide +kernel
theorem dX2_oddsAfter_59 : decode cX2_oddsAfter 59 = .ok (.iconst 3, 1) := by decide +kernel
theorem dX2_oddsAfter_60 : decode cX2_oddsAfter 60 = .ok (.if_icmp .ge 34, 3) := by decide +kernel
theorem dX2_oddsAfter_63 : decode cX2_oddsAfter 63 = .ok (.fload 6, 2) := by decide +kernel
theorem dX2_oddsAfter_65 : decode cX2_oddsAfter 65 = .ok (.aload_n 0, 1) := by decide +kernel
theorem dX2_oddsAfter_66 : decode cX2_oddsAfter 66 = .ok (.getfield 15, 3) := by decide +kernel
theorem dX2_oddsAfter_69 : decode cX2_oddsAfter 69 = .ok (.iload 7, 2) := by decide +kernel
theorem dX2_oddsAfter_71 : decode cX2_oddsAfter 71 = .ok (.faload, 1) := by decide +kernel
theorem dX2_oddsAfter_72 : decode cX2_oddsAfter 72 = .ok (.aload_n 0, 1) := by decide +kernel
theorem dX2_oddsAfter_73 : decode cX2_oddsAfter 73 = .ok (.getfield 9, 3) := by decide +kernel
theorem dX2_oddsAfter_76 : decode cX2_oddsAfter 76 = .ok (.iload 7, 2) := by decide +kernel
theorem dX2_oddsAfter_78 : decode cX2_oddsAfter 78 = .ok (.iconst 3, 1) := by decide +kernel
theorem dX2_oddsAfter_79 : decode cX2_oddsAfter 79 = .ok (.imul, 1) := by decide +kernel
theorem dX2_oddsAfter_80 : decode cX2_oddsAfter 80 = .ok (.iload 5, 2) := by decide +kernel
theorem dX2_oddsAfter_82 : decode cX2_oddsAfter 82 = .ok (.iadd, 1) := by decide +kernel
theorem dX2_oddsAfter_83 : decode cX2_oddsAfter 83 = .ok (.faload, 1) := by decide +kernel
theorem dX2_oddsAfter_84 : decode cX2_oddsAfter 84 = .ok (.fmul, 1) := by decide +kernel
theorem dX2_oddsAfter_85 : decode cX2_oddsAfter 85 = .ok (.fadd, 1) := by decide +kernel
theorem dX2_oddsAfter_86 : decode cX2_oddsAfter 86 = .ok (.fstore 6, 2) := by decide +kernel
theorem dX2_oddsAfter_88 : decode cX2_oddsAfter 88 = .ok (.iinc 7 1, 3) := by decide +kernel
theorem dX2_oddsAfter_91 : decode cX2_oddsAfter 91 = .ok (.goto (-34), 3) := by decide +kernel
theorem dX2_oddsAfter_94 : decode cX2_oddsAfter 94 = .ok (.aload_n 0, 1) := by decide +kernel
theorem dX2_oddsAfter_95 : decode cX2_oddsAfter 95 = .ok (.getfield 18, 3) := by decide +kernel
theorem dX2_oddsAfter_98 : decode cX2_oddsAfter 98 = .ok (.iload 5, 2) := by decide +kernel
theorem dX2_oddsAfter_100 : decode cX2_oddsAfter 100 = .ok (.fload 6, 2) := by decide +kernel
theorem dX2_oddsAfter_102 : decode cX2_oddsAfter 102 = .ok (.fastore, 1) := by decide +kernel
theorem dX2_oddsAfter_103 : decode cX2_oddsAfter 103 = .ok (.iinc 5 1, 3) := by decide +kernel
theorem dX2_oddsAfter_106 : decode cX2_oddsAfter 106 = .ok (.goto (-61), 3) := by decide +kernel
theorem dX2_oddsAfter_109 : decode cX2_oddsAfter 109 = .ok (.aload_n 0, 1) := by decide +kernel
theorem dX2_oddsAfter_110 : decode cX2_oddsAfter 110 = .ok (.getfield 15, 3) := by decide +kernel
theorem dX2_oddsAfter_113 : decode cX2_oddsAfter 113 = .ok (.astore 5, 2) := by decide +kernel
theorem dX2_oddsAfter_115 : decode cX2_oddsAfter 115 = .ok (.aload_n 0, 1) := by decide +kernel
theorem dX2_oddsAfter_116 : decode cX2_oddsAfter 116 = .ok (.aload_n 0, 1) := by decide +kernel
theorem dX2_oddsAfter_117 : decode cX2_oddsAfter 117 = .ok (.getfield 18, 3) := by decide +kernel
theorem dX2_oddsAfter_120 : decode cX2_oddsAfter 120 = .ok (.putfield 15, 3) := by decide +kernel
theorem dX2_oddsAfter_123 : decode cX2_oddsAfter 123 = .ok (.aload_n 0, 1) := by decide +kernel
theorem dX2_oddsAfter_124 : decode cX2_oddsAfter 124 = .ok (.aload 5, 2) := by decide +kernel
theorem dX2_oddsAfter_126 : decode cX2_oddsAfter 126 = .ok (.putfield 18, 3) := by decide +kernel
theorem dX2_oddsAfter_129 : decode cX2_oddsAfter 129 = .ok (.iinc 4 1, 3) := by decide +kernel
theorem dX2_oddsAfter_132 : decode cX2_oddsAfter 132 = .ok (.goto (-96), 3) := by decide +kernel
theorem dX2_oddsAfter_135 : decode cX2_oddsAfter 135 = .ok (.aload_n 0, 1) := by decide +kernel
theorem dX2_oddsAfter_136 : decode cX2_oddsAfter 136 = .ok (.getfield 15, 3) := by decide +kernel
theorem dX2_oddsAfter_139 : decode cX2_oddsAfter 139 = .ok (.iload_n 3, 1) := by decide +kernel
theorem dX2_oddsAfter_140 : decode cX2_oddsAfter 140 = .ok (.faload, 1) := by decide +kernel
theorem dX2_oddsAfter_141 : decode cX2_oddsAfter 141 = .ok (.freturn, 1) := by decide +kernel
theorem dX2_findLikeliest_0 : decode cX2_findLikeliest 0 = .ok (.iload_n 2, 1) := by decide +kernel
theorem dX2_findLikeliest_1 : decode cX2_findLikeliest 1 = .ok (.bipush 8, 2) := by decide +kernel
theorem dX2_findLikeliest_3 : decode cX2_findLikeliest 3 = .ok (.invokestatic 44, 3) := by decide +kernel
theorem dX2_findLikeliest_6 : decode cX2_findLikeliest 6 = .ok (.istore_n 3, 1) := by decide +kernel
theorem dX2_findLikeliest_7 : decode cX2_findLikeliest 7 = .ok (.iconst 1, 1) := by decide +kernel
theorem dX2_findLikeliest_8 : decode cX2_findLikeliest 8 = .ok (.istore 4, 2) := by decide +kernel
theorem dX2_findLikeliest_10 : decode cX2_findLikeliest 10 = .ok (.iload 4, 2) := by decide +kernel
theorem dX2_findLikeliest_12 : decode cX2_findLikeliest 12 = .ok (.iload_n 3, 1) := by decide +kernel
theorem dX2_findLikeliest_13 : decode cX2_findLikeliest 13 = .ok (.if_icmp .gt 17, 3) := by decide +kernel
theorem dX2_findLikeliest_16 : decode cX2_findLikeliest 16 = .ok (.aload_n 0, 1) := by decide +kernel
theorem dX2_findLikeliest_17 : decode cX2_findLikeliest 17 = .ok (.getfield 21, 3) := by decide +kernel
theorem dX2_findLikeliest_20 : decode cX2_findLikeliest 20 = .ok (.iload 4, 2) := by decide +kernel
theorem dX2_findLikeliest_22 : decode cX2_findLikeliest 22 = .ok (.iconst 0, 1) := by decide +kernel
theorem dX2_findLikeliest_23 : decode cX2_findLikeliest 23 = .ok (.iastore, 1) := by decide +kernel
theorem dX2_findLikeliest_24 : decode cX2_findLikeliest 24 = .ok (.iinc 4 1, 3) := by decide +kernel
theorem dX2_findLikeliest_27 : decode cX2_findLikeliest 27 = .ok (.goto (-17), 3) := by decide +kernel
theorem dX2_findLikeliest_30 : decode cX2_findLikeliest 30 = .ok (.aload_n 0, 1) := by decide +kernel
theorem dX2_findLikeliest_31 : decode cX2_findLikeliest 31 = .ok (.getfield 21, 3) := by decide +kernel
theorem dX2_findLikeliest_34 : decode cX2_findLikeliest 34 = .ok (.iconst 0, 1) := by decide +kernel
theorem dX2_findLikeliest_35 : decode cX2_findLikeliest 35 = .ok (.iload_n 1, 1) := by decide +kernel
theorem dX2_findLikeliest_36 : decode cX2_findLikeliest 36 = .ok (.iastore, 1) := by decide +kernel
theorem dX2_findLikeliest_37 : decode cX2_findLikeliest 37 = .ok (.aload_n 0, 1) := by decide +kernel
theorem dX2_findLikeliest_38 : decode cX2_findLikeliest 38 = .ok (.getfield 25, 3) := by decide +kernel
theorem dX2_findLikeliest_41 : decode cX2_findLikeliest 41 = .ok (.iconst 0, 1) := by decide +kernel
theorem dX2_findLikeliest_42 : decode cX2_findLikeliest 42 = .ok (.fconst 1, 1) := by decide +kernel
theorem dX2_findLikeliest_43 : decode cX2_findLikeliest 43 = .ok (.fastore, 1) := by decide +kernel
theorem dX2_findLikeliest_44 : decode cX2_findLikeliest 44 = .ok (.aload_n 0, 1) := by decide +kernel
theorem dX2_findLikeliest_45 : decode cX2_findLikeliest 45 = .ok (.ldc 50, 2) := by decide +kernel
theorem dX2_findLikeliest_47 : decode cX2_findLikeliest 47 = .ok (.putfield 31, 3) := by decide +kernel
theorem dX2_findLikeliest_50 : decode cX2_findLikeliest 50 = .ok (.iconst 1, 1) := by decide +kernel
theorem dX2_findLikeliest_51 : decode cX2_findLikeliest 51 = .ok (.istore 4, 2) := by decide +kernel
theorem dX2_findLikeliest_53 : decode cX2_findLikeliest 53 = .ok (.iconst 0, 1) := by decide +kernel
theorem dX2_findLikeliest_54 : decode cX2_findLikeliest 54 = .ok (.istore 5, 2) := by decide +kernel
theorem dX2_findLikeliest_56 : decode cX2_findLikeliest 56 = .ok (.iload 5, 2) := by decide +kernel
theorem dX2_findLikeliest_58 : decode cX2_findLikeliest 58 = .ok (.sipush 6561, 3) := by decide +kernel
theorem dX2_findLikeliest_61 : decode cX2_findLikeliest 61 = .ok (.if_icmp .ge 65, 3) := by decide +kernel
theorem dX2_findLikeliest_64 : decode cX2_findLikeliest 64 = .ok (.iload 4, 2) := by decide +kernel
theorem dX2_findLikeliest_66 : decode cX2_findLikeliest 66 = .ok (.ifCond .le 60, 3) := by decide +kernel
theorem dX2_findLikeliest_69 : decode cX2_findLikeliest 69 = .ok (.aload_n 0, 1) := by decide +kernel
theorem dX2_findLikeliest_70 : decode cX2_findLikeliest 70 = .ok (.iload 4, 2) := by decide +kernel
theorem dX2_findLikeliest_72 : decode cX2_findLikeliest 72 = .ok (.iload_n 3, 1) := by decide +kernel
theorem dX2_findLikeliest_73 : decode cX2_findLikeliest 73 = .ok (.invokevirtual 51, 3) := by decide +kernel
theorem dX2_findLikeliest_76 : decode cX2_findLikeliest 76 = .ok (.istore 6, 2) := by decide +kernel
theorem dX2_findLikeliest_78 : decode cX2_findLikeliest 78 = .ok (.iload 6, 2) := by decide +kernel
theorem dX2_findLikeliest_80 : decode cX2_findLikeliest 80 = .ok (.iload_n 3, 1) := by decide +kernel
theorem dX2_findLikeliest_81 : decode cX2_findLikeliest 81 = .ok (.if_icmp .le 27, 3) := by decide +kernel
theorem dX2_findLikeliest_84 : decode cX2_findLikeliest 84 = .ok (.aload_n 0, 1) := by decide +kernel
theorem dX2_findLikeliest_85 : decode cX2_findLikeliest 85 = .ok (.aload_n 0, 1) := by decide +kernel
theorem dX2_findLikeliest_86 : decode cX2_findLikeliest 86 = .ok (.getfield 25, 3) := by decide +kernel
theorem dX2_findLikeliest_89 : decode cX2_findLikeliest 89 = .ok (.iload_n 3, 1) := by decide +kernel
theorem dX2_findLikeliest_90 : decode cX2_findLikeliest 90 = .ok (.faload, 1) := by decide +kernel
theorem dX2_findLikeliest_91 : decode cX2_findLikeliest 91 = .ok (.putfield 31, 3) := by decide +kernel
theorem dX2_findLikeliest_94 : decode cX2_findLikeliest 94 = .ok (.aload_n 0, 1) := by decide +kernel
theorem dX2_findLikeliest_95 : decode cX2_findLikeliest 95 = .ok (.getfield 21, 3) := by decide +kernel
theorem dX2_findLikeliest_98 : decode cX2_findLikeliest 98 = .ok (.iconst 1, 1) := by decide +kernel
theorem dX2_findLikeliest_99 : decode cX2_findLikeliest 99 = .ok (.aload_n 0, 1) := by decide +kernel
theorem dX2_findLikeliest_100 : decode cX2_findLikeliest 100 = .ok (.getfield 28, 3) := by decide +kernel
theorem dX2_findLikeliest_103 : decode cX2_findLikeliest 103 = .ok (.iconst 0, 1) := by decide +kernel
theorem dX2_findLikeliest_104 : decode cX2_findLikeliest 104 = .ok (.iload_n 3, 1) := by decide +kernel
theorem dX2_findLikeliest_105 : decode cX2_findLikeliest 105 = .ok (.invokestatic 54, 3) := by decide +kernel
theorem dX2_findLikeliest_108 : decode cX2_findLikeliest 108 = .ok (.aload_n 0, 1) := by decide +kernel
theorem dX2_findLikeliest_109 : decode cX2_findLikeliest 109 = .ok (.iload 6, 2) := by decide +kernel
theorem dX2_findLikeliest_111 : decode cX2_findLikeliest 111 = .ok (.iload_n 3, 1) := by decide +kernel
theorem dX2_findLikeliest_112 : decode cX2_findLikeliest 112 = .ok (.invokestatic 44, 3) := by decide +kernel
theorem dX2_findLikeliest_115 : decode cX2_findLikeliest 115 = .ok (.invokevirtual 60, 3) := by decide +kernel
theorem dX2_findLikeliest_118 : decode cX2_findLikeliest 118 = .ok (.istore 4, 2) := by decide +kernel
theorem dX2_findLikeliest_120 : decode cX2_findLikeliest 120 = .ok (.iinc 5 1, 3) := by decide +kernel
theorem dX2_findLikeliest_123 : decode cX2_findLikeliest 123 = .ok (.goto (-67), 3) := by decide +kernel
theorem dX2_findLikeliest_126 : decode cX2_findLikeliest 126 = .ok (.return_, 1) := by decide +kernel
theorem dX2_weighFrom_0 : decode cX2_weighFrom 0 = .ok (.iload_n 1, 1) := by decide +kernel
theorem dX2_weighFrom_1 : decode cX2_weighFrom 1 = .ok (.istore_n 3, 1) := by decide +kernel
theorem dX2_weighFrom_2 : decode cX2_weighFrom 2 = .ok (.iload_n 3, 1) := by decide +kernel
theorem dX2_weighFrom_3 : decode cX2_weighFrom 3 = .ok (.iload_n 2, 1) := by decide +kernel
theorem dX2_weighFrom_4 : decode cX2_weighFrom 4 = .ok (.if_icmp .gt 62, 3) := by decide +kernel
theorem dX2_weighFrom_7 : decode cX2_weighFrom 7 = .ok (.aload_n 0, 1) := by decide +kernel
theorem dX2_weighFrom_8 : decode cX2_weighFrom 8 = .ok (.getfield 25, 3) := by decide +kernel
theorem dX2_weighFrom_11 : decode cX2_weighFrom 11 = .ok (.iload_n 3, 1) := by decide +kernel
theorem dX2_weighFrom_12 : decode cX2_weighFrom 12 = .ok (.aload_n 0, 1) := by decide +kernel
theorem dX2_weighFrom_13 : decode cX2_weighFrom 13 = .ok (.getfield 25, 3) := by decide +kernel
theorem dX2_weighFrom_16 : decode cX2_weighFrom 16 = .ok (.iload_n 3, 1) := by decide +kernel
theorem dX2_weighFrom_17 : decode cX2_weighFrom 17 = .ok (.iconst 1, 1) := by decide +kernel
theorem dX2_weighFrom_18 : decode cX2_weighFrom 18 = .ok (.isub, 1) := by decide +kernel
theorem dX2_weighFrom_19 : decode cX2_weighFrom 19 = .ok (.faload, 1) := by decide +kernel
theorem dX2_weighFrom_20 : decode cX2_weighFrom 20 = .ok (.aload_n 0, 1) := by decide +kernel
theorem dX2_weighFrom_21 : decode cX2_weighFrom 21 = .ok (.getfield 9, 3) := by decide +kernel
theorem dX2_weighFrom_24 : decode cX2_weighFrom 24 = .ok (.aload_n 0, 1) := by decide +kernel
theorem dX2_weighFrom_25 : decode cX2_weighFrom 25 = .ok (.getfield 21, 3) := by decide +kernel
theorem dX2_weighFrom_28 : decode cX2_weighFrom 28 = .ok (.iload_n 3, 1) := by decide +kernel
theorem dX2_weighFrom_29 : decode cX2_weighFrom 29 = .ok (.iconst 1, 1) := by decide +kernel
theorem dX2_weighFrom_30 : decode cX2_weighFrom 30 = .ok (.isub, 1) := by decide +kernel
theorem dX2_weighFrom_31 : decode cX2_weighFrom 31 = .ok (.iaload, 1) := by decide +kernel
theorem dX2_weighFrom_32 : decode cX2_weighFrom 32 = .ok (.iconst 3, 1) := by decide +kernel
theorem dX2_weighFrom_33 : decode cX2_weighFrom 33 = .ok (.imul, 1) := by decide +kernel
theorem dX2_weighFrom_34 : decode cX2_weighFrom 34 = .ok (.aload_n 0, 1) := by decide +kernel
theorem dX2_weighFrom_35 : decode cX2_weighFrom 35 = .ok (.getfield 21, 3) := by decide +kernel
theorem dX2_weighFrom_38 : decode cX2_weighFrom 38 = .ok (.iload_n 3, 1) := by decide +kernel
theorem dX2_weighFrom_39 : decode cX2_weighFrom 39 = .ok (.iaload, 1) := by decide +kernel
theorem dX2_weighFrom_40 : decode cX2_weighFrom 40 = .ok (.iadd, 1) := by decide +kernel
theorem dX2_weighFrom_41 : decode cX2_weighFrom 41 = .ok (.faload, 1) := by decide +kernel
theorem dX2_weighFrom_42 : decode cX2_weighFrom 42 = .ok (.fmul, 1) := by decide +kernel
theorem dX2_weighFrom_43 : decode cX2_weighFrom 43 = .ok (.fastore, 1) := by decide +kernel
theorem dX2_weighFrom_44 : decode cX2_weighFrom 44 = .ok (.aload_n 0, 1) := by decide +kernel
theorem dX2_weighFrom_45 : decode cX2_weighFrom 45 = .ok (.getfield 25, 3) := by decide +kernel
theorem dX2_weighFrom_48 : decode cX2_weighFrom 48 = .ok (.iload_n 3, 1) := by decide +kernel
theorem dX2_weighFrom_49 : decode cX2_weighFrom 49 = .ok (.faload, 1) := by decide +kernel
theorem dX2_weighFrom_50 : decode cX2_weighFrom 50 = .ok (.aload_n 0, 1) := by decide +kernel
theorem dX2_weighFrom_51 : decode cX2_weighFrom 51 = .ok (.getfield 31, 3) := by decide +kernel
theorem dX2_weighFrom_54 : decode cX2_weighFrom 54 = .ok (.fcmp .g, 1) := by decide +kernel
theorem dX2_weighFrom_55 : decode cX2_weighFrom 55 = .ok (.ifCond .gt 5, 3) := by decide +kernel
theorem dX2_weighFrom_58 : decode cX2_weighFrom 58 = .ok (.iload_n 3, 1) := by decide +kernel
theorem dX2_weighFrom_59 : decode cX2_weighFrom 59 = .ok (.ireturn, 1) := by decide +kernel
theorem dX2_weighFrom_60 : decode cX2_weighFrom 60 = .ok (.iinc 3 1, 3) := by decide +kernel
theorem dX2_weighFrom_63 : decode cX2_weighFrom 63 = .ok (.goto (-61), 3) := by decide +kernel
theorem dX2_weighFrom_66 : decode cX2_weighFrom 66 = .ok (.iload_n 2, 1) := by decide +kernel
theorem dX2_weighFrom_67 : decode cX2_weighFrom 67 = .ok (.iconst 1, 1) := by decide +kernel
theorem dX2_weighFrom_68 : decode cX2_weighFrom 68 = .ok (.iadd, 1) := by decide +kernel
theorem dX2_weighFrom_69 : decode cX2_weighFrom 69 = .ok (.ireturn, 1) := by decide +kernel
theorem dX2_turnOn_0 : decode cX2_turnOn 0 = .ok (.iload_n 1, 1) := by decide +kernel
theorem dX2_turnOn_1 : decode cX2_turnOn 1 = .ok (.istore_n 2, 1) := by decide +kernel
theorem dX2_turnOn_2 : decode cX2_turnOn 2 = .ok (.iload_n 2, 1) := by decide +kernel
theorem dX2_turnOn_3 : decode cX2_turnOn 3 = .ok (.ifCond .le 38, 3) := by decide +kernel
theorem dX2_turnOn_6 : decode cX2_turnOn 6 = .ok (.aload_n 0, 1) := by decide +kernel
theorem dX2_turnOn_7 : decode cX2_turnOn 7 = .ok (.getfield 21, 3) := by decide +kernel
theorem dX2_turnOn_10 : decode cX2_turnOn 10 = .ok (.iload_n 2, 1) := by decide +kernel
theorem dX2_turnOn_11 : decode cX2_turnOn 11 = .ok (.iaload, 1) := by decide +kernel
theorem dX2_turnOn_12 : decode cX2_turnOn 12 = .ok (.iconst 2, 1) := by decide +kernel
theorem dX2_turnOn_13 : decode cX2_turnOn 13 = .ok (.if_icmp .ge 15, 3) := by decide +kernel
theorem dX2_turnOn_16 : decode cX2_turnOn 16 = .ok (.aload_n 0, 1) := by decide +kernel
theorem dX2_turnOn_17 : decode cX2_turnOn 17 = .ok (.getfield 21, 3) := by decide +kernel
theorem dX2_turnOn_20 : decode cX2_turnOn 20 = .ok (.iload_n 2, 1) := by decide +kernel
theorem dX2_turnOn_21 : decode cX2_turnOn 21 = .ok (.dup2, 1) := by decide +kernel
theorem dX2_turnOn_22 : decode cX2_turnOn 22 = .ok (.iaload, 1) := by decide +kernel
theorem dX2_turnOn_23 : decode cX2_turnOn 23 = .ok (.iconst 1, 1) := by decide +kernel
theorem dX2_turnOn_24 : decode cX2_turnOn 24 = .ok (.iadd, 1) := by decide +kernel
theorem dX2_turnOn_25 : decode cX2_turnOn 25 = .ok (.iastore, 1) := by decide +kernel
theorem dX2_turnOn_26 : decode cX2_turnOn 26 = .ok (.iload_n 2, 1) := by decide +kernel
theorem dX2_turnOn_27 : decode cX2_turnOn 27 = .ok (.ireturn, 1) := by decide +kernel
theorem dX2_turnOn_28 : decode cX2_turnOn 28 = .ok (.aload_n 0, 1) := by decide +kernel
theorem dX2_turnOn_29 : decode cX2_turnOn 29 = .ok (.getfield 21, 3) := by decide +kernel
theorem dX2_turnOn_32 : decode cX2_turnOn 32 = .ok (.iload_n 2, 1) := by decide +kernel
theorem dX2_turnOn_33 : decode cX2_turnOn 33 = .ok (.iconst 0, 1) := by decide +kernel
theorem dX2_turnOn_34 : decode cX2_turnOn 34 = .ok (.iastore, 1) := by decide +kernel
theorem dX2_turnOn_35 : decode cX2_turnOn 35 = .ok (.iinc 2 (-1), 3) := by decide +kernel
theorem dX2_turnOn_38 : decode cX2_turnOn 38 = .ok (.goto (-36), 3) := by decide +kernel
theorem dX2_turnOn_41 : decode cX2_turnOn 41 = .ok (.iconst 0, 1) := by decide +kernel
theorem dX2_turnOn_42 : decode cX2_turnOn 42 = .ok (.ireturn, 1) := by decide +kernel
theorem dX3_init_0 : decode cX3_init 0 = .ok (.aload_n 0, 1) := by decide +kernel
theorem dX3_init_1 : decode cX3_init 1 = .ok (.invokespecial 3, 3) := by decide +kernel
theorem dX3_init_4 : decode cX3_init 4 = .ok (.aload_n 0, 1) := by decide +kernel
theorem dX3_init_5 : decode cX3_init 5 = .ok (.bipush 84, 2) := by decide +kernel
theorem dX3_init_7 : decode cX3_init 7 = .ok (.newarray .int, 2) := by decide +kernel
theorem dX3_init_9 : decode cX3_init 9 = .ok (.putfield 9, 3) := by decide +kernel
theorem dX3_init_12 : decode cX3_init 12 = .ok (.aload_n 0, 1) := by decide +kernel
theorem dX3_init_13 : decode cX3_init 13 = .ok (.iconst 0, 1) := by decide +kernel
theorem dX3_init_14 : decode cX3_init 14 = .ok (.putfield 15, 3) := by decide +kernel
theorem dX3_init_17 : decode cX3_init 17 = .ok (.aload_n 0, 1) := by decide +kernel
theorem dX3_init_18 : decode cX3_init 18 = .ok (.iconst 0, 1) := by decide +kernel
theorem dX3_init_19 : decode cX3_init 19 = .ok (.putfield 19, 3) := by decide +kernel
theorem dX3_init_22 : decode cX3_init 22 = .ok (.return_, 1) := by decide +kernel
theorem dX3_takeAll_0 : decode cX3_takeAll 0 = .ok (.aload_n 0, 1) := by decide +kernel
theorem dX3_takeAll_1 : decode cX3_takeAll 1 = .ok (.iconst 0, 1) := by decide +kernel
theorem dX3_takeAll_2 : decode cX3_takeAll 2 = .ok (.putfield 15, 3) := by decide +kernel
theorem dX3_takeAll_5 : decode cX3_takeAll 5 = .ok (.aload_n 0, 1) := by decide +kernel
theorem dX3_takeAll_6 : decode cX3_takeAll 6 = .ok (.iconst 0, 1) := by decide +kernel
theorem dX3_takeAll_7 : decode cX3_takeAll 7 = .ok (.putfield 19, 3) := by decide +kernel
theorem dX3_takeAll_10 : decode cX3_takeAll 10 = .ok (.aload_n 0, 1) := by decide +kernel
theorem dX3_takeAll_11 : decode cX3_takeAll 11 = .ok (.getfield 15, 3) := by decide +kernel
theorem dX3_takeAll_14 : decode cX3_takeAll 14 = .ok (.bipush 12, 2) := by decide +kernel
theorem dX3_takeAll_16 : decode cX3_takeAll 16 = .ok (.if_icmp .ge 81, 3) := by decide +kernel
theorem dX3_takeAll_19 : decode cX3_takeAll 19 = .ok (.aload_n 0, 1) := by decide +kernel
theorem dX3_takeAll_20 : decode cX3_takeAll 20 = .ok (.aload_n 1, 1) := by decide +kernel
theorem dX3_takeAll_21 : decode cX3_takeAll 21 = .ok (.invokevirtual 22, 3) := by decide +kernel
theorem dX3_takeAll_24 : decode cX3_takeAll 24 = .ok (.ifCond .ne 8, 3) := by decide +kernel
theorem dX3_takeAll_27 : decode cX3_takeAll 27 = .ok (.aload_n 0, 1) := by decide +kernel
theorem dX3_takeAll_28 : decode cX3_takeAll 28 = .ok (.getfield 19, 3) := by decide +kernel
theorem dX3_takeAll_31 : decode cX3_takeAll 31 = .ok (.ireturn, 1) := by decide +kernel
theorem dX3_takeAll_32 : decode cX3_takeAll 32 = .ok (.aload_n 0, 1) := by decide +kernel
theorem dX3_takeAll_33 : decode cX3_takeAll 33 = .ok (.dup, 1) := by decide +kernel
theorem dX3_takeAll_34 : decode cX3_takeAll 34 = .ok (.getfield 15, 3) := by decide +kernel
theorem dX3_takeAll_37 : decode cX3_takeAll 37 = .ok (.iconst 1, 1) := by decide +kernel
theorem dX3_takeAll_38 : decode cX3_takeAll 38 = .ok (.iadd, 1) := by decide +kernel
theorem dX3_takeAll_39 : decode cX3_takeAll 39 = .ok (.putfield 15, 3) := by decide +kernel
theorem dX3_takeAll_42 : decode cX3_takeAll 42 = .ok (.aload_n 0, 1) := by decide +kernel
theorem dX3_takeAll_43 : decode cX3_takeAll 43 = .ok (.getfield 19, 3) := by decide +kernel
theorem dX3_takeAll_46 : decode cX3_takeAll 46 = .ok (.aload_n 1, 1) := by decide +kernel
theorem dX3_takeAll_47 : decode cX3_takeAll 47 = .ok (.getfield 26, 3) := by decide +kernel
theorem dX3_takeAll_50 : decode cX3_takeAll 50 = .ok (.if_icmp .lt 6, 3) := by decide +kernel
theorem dX3_takeAll_53 : decode cX3_takeAll 53 = .ok (.bipush (-5), 2) := by decide +kernel
theorem dX3_takeAll_55 : decode cX3_takeAll 55 = .ok (.ireturn, 1) := by decide +kernel
theorem dX3_takeAll_56 : decode cX3_takeAll 56 = .ok (.aload_n 1, 1) := by decide +kernel
theorem dX3_takeAll_57 : decode cX3_takeAll 57 = .ok (.aload_n 0, 1) := by decide +kernel
theorem dX3_takeAll_58 : decode cX3_takeAll 58 = .ok (.getfield 19, 3) := by decide +kernel
theorem dX3_takeAll_61 : decode cX3_takeAll 61 = .ok (.iconst 0, 1) := by decide +kernel
theorem dX3_takeAll_62 : decode cX3_takeAll 62 = .ok (.invokevirtual 29, 3) := by decide +kernel
theorem dX3_takeAll_65 : decode cX3_takeAll 65 = .ok (.bipush 59, 2) := by decide +kernel
theorem dX3_takeAll_67 : decode cX3_takeAll 67 = .ok (.if_icmp .ne 12, 3) := by decide +kernel
theorem dX3_takeAll_70 : decode cX3_takeAll 70 = .ok (.aload_n 0, 1) := by decide +kernel
theorem dX3_takeAll_71 : decode cX3_takeAll 71 = .ok (.getfield 15, 3) := by decide +kernel
theorem dX3_takeAll_74 : decode cX3_takeAll 74 = .ok (.bipush 12, 2) := by decide +kernel
theorem dX3_takeAll_76 : decode cX3_takeAll 76 = .ok (.if_icmp .ne 8, 3) := by decide +kernel
theorem dX3_takeAll_79 : decode cX3_takeAll 79 = .ok (.aload_n 0, 1) := by decide +kernel
theorem dX3_takeAll_80 : decode cX3_takeAll 80 = .ok (.getfield 19, 3) := by decide +kernel
theorem dX3_takeAll_83 : decode cX3_takeAll 83 = .ok (.ireturn, 1) := by decide +kernel
theorem dX3_takeAll_84 : decode cX3_takeAll 84 = .ok (.aload_n 0, 1) := by decide +kernel
theorem dX3_takeAll_85 : decode cX3_takeAll 85 = .ok (.dup, 1) := by decide +kernel
theorem dX3_takeAll_86 : decode cX3_takeAll 86 = .ok (.getfield 19, 3) := by decide +kernel
theorem dX3_takeAll_89 : decode cX3_takeAll 89 = .ok (.iconst 1, 1) := by decide +kernel
theorem dX3_takeAll_90 : decode cX3_takeAll 90 = .ok (.iadd, 1) := by decide +kernel
theorem dX3_takeAll_91 : decode cX3_takeAll 91 = .ok (.putfield 19, 3) := by decide +kernel
theorem dX3_takeAll_94 : decode cX3_takeAll 94 = .ok (.goto (-84), 3) := by decide +kernel
theorem dX3_takeAll_97 : decode cX3_takeAll 97 = .ok (.aload_n 0, 1) := by decide +kernel
theorem dX3_takeAll_98 : decode cX3_takeAll 98 = .ok (.getfield 19, 3) := by decide +kernel
theorem dX3_takeAll_101 : decode cX3_takeAll 101 = .ok (.ireturn, 1) := by decide +kernel
theorem dX3_formOf_0 : decode cX3_formOf 0 = .ok (.iload_n 0, 1) := by decide +kernel
theorem dX3_formOf_1 : decode cX3_formOf 1 = .ok (.tableswitch 90 99 113 #[87, 75, 84, 84, 90, 90, 90, 90, 90, 90, 90, 90, 90, 81, 78], 75) := by decide +kernel
theorem dX3_formOf_76 : decode cX3_formOf 76 = .ok (.ldc 33, 2) := by decide +kernel
theorem dX3_formOf_78 : decode cX3_formOf 78 = .ok (.areturn, 1) := by decide +kernel
theorem dX3_formOf_79 : decode cX3_formOf 79 = .ok (.ldc 35, 2) := by decide +kernel
theorem dX3_formOf_81 : decode cX3_formOf 81 = .ok (.areturn, 1) := by decide +kernel
theorem dX3_formOf_82 : decode cX3_formOf 82 = .ok (.ldc 37, 2) := by decide +kernel
theorem dX3_formOf_84 : decode cX3_formOf 84 = .ok (.areturn, 1) := by decide +kernel
theorem dX3_formOf_85 : decode cX3_formOf 85 = .ok (.ldc 39, 2) := by decide +kernel
theorem dX3_formOf_87 : decode cX3_formOf 87 = .ok (.areturn, 1) := by decide +kernel
theorem dX3_formOf_88 : decode cX3_formOf 88 = .ok (.ldc 41, 2) := by decide +kernel
theorem dX3_formOf_90 : decode cX3_formOf 90 = .ok (.areturn, 1) := by decide +kernel
theorem dX3_formOf_91 : decode cX3_formOf 91 = .ok (.ldc 43, 2) := by decide +kernel
theorem dX3_formOf_93 : decode cX3_formOf 93 = .ok (.areturn, 1) := by decide +kernel
theorem dX3_takeClause_0 : decode cX3_takeClause 0 = .ok (.aload_n 1, 1) := by decide +kernel
theorem dX3_takeClause_1 : decode cX3_takeClause 1 = .ok (.aload_n 0, 1) := by decide +kernel
theorem dX3_takeClause_2 : decode cX3_takeClause 2 = .ok (.getfield 19, 3) := by decide +kernel
theorem dX3_takeClause_5 : decode cX3_takeClause 5 = .ok (.iconst 0, 1) := by decide +kernel
theorem dX3_takeClause_6 : decode cX3_takeClause 6 = .ok (.invokevirtual 29, 3) := by decide +kernel
theorem dX3_takeClause_9 : decode cX3_takeClause 9 = .ok (.istore_n 2, 1) := by decide +kernel
theorem dX3_takeClause_10 : decode cX3_takeClause 10 = .ok (.iload_n 2, 1) := by decide +kernel
theorem dX3_takeClause_11 : decode cX3_takeClause 11 = .ok (.invokestatic 45, 3) := by decide +kernel
theorem dX3_takeClause_14 : decode cX3_takeClause 14 = .ok (.astore_n 3, 1) := by decide +kernel
theorem dX3_takeClause_15 : decode cX3_takeClause 15 = .ok (.aload_n 3, 1) := by decide +kernel
theorem dX3_takeClause_16 : decode cX3_takeClause 16 = .ok (.invokevirtual 49, 3) := by decide +kernel
theorem dX3_takeClause_19 : decode cX3_takeClause 19 = .ok (.ifCond .eq 5, 3) := by decide +kernel
theorem dX3_takeClause_22 : decode cX3_takeClause 22 = .ok (.iconst 0, 1) := by decide +kernel
theorem dX3_takeClause_23 : decode cX3_takeClause 23 = .ok (.ireturn, 1) := by decide +kernel
theorem dX3_takeClause_24 : decode cX3_takeClause 24 = .ok (.aload_n 0, 1) := by decide +kernel
theorem dX3_takeClause_25 : decode cX3_takeClause 25 = .ok (.getfield 9, 3) := by decide +kernel
theorem dX3_takeClause_28 : decode cX3_takeClause 28 = .ok (.aload_n 0, 1) := by decide +kernel
theorem dX3_takeClause_29 : decode cX3_takeClause 29 = .ok (.getfield 15, 3) := by decide +kernel
theorem dX3_takeClause_32 : decode cX3_takeClause 32 = .ok (.bipush 7, 2) := by decide +kernel
theorem dX3_takeClause_34 : decode cX3_takeClause 34 = .ok (.imul, 1) := by decide +kernel
theorem dX3_takeClause_35 : decode cX3_takeClause 35 = .ok (.iload_n 2, 1) := by decide +kernel
theorem dX3_takeClause_36 : decode cX3_takeClause 36 = .ok (.iastore, 1) := by decide +kernel
theorem dX3_takeClause_37 : decode cX3_takeClause 37 = .ok (.aload_n 0, 1) := by decide +kernel
theorem dX3_takeClause_38 : decode cX3_takeClause 38 = .ok (.dup, 1) := by decide +kernel
theorem dX3_takeClause_39 : decode cX3_takeClause 39 = .ok (.getfield 19, 3) := by decide +kernel
theorem dX3_takeClause_42 : decode cX3_takeClause 42 = .ok (.iconst 1, 1) := by decide +kernel
theorem dX3_takeClause_43 : decode cX3_takeClause 43 = .ok (.iadd, 1) := by decide +kernel
theorem dX3_takeClause_44 : decode cX3_takeClause 44 = .ok (.putfield 19, 3) := by decide +kernel
theorem dX3_takeClause_47 : decode cX3_takeClause 47 = .ok (.iconst 1, 1) := by decide +kernel
theorem dX3_takeClause_48 : decode cX3_takeClause 48 = .ok (.istore 4, 2) := by decide +kernel
theorem dX3_takeClause_50 : decode cX3_takeClause 50 = .ok (.iconst 0, 1) := by decide +kernel
theorem dX3_takeClause_51 : decode cX3_takeClause 51 = .ok (.istore 5, 2) := by decide +kernel
theorem dX3_takeClause_53 : decode cX3_takeClause 53 = .ok (.iload 5, 2) := by decide +kernel
theorem dX3_takeClause_55 : decode cX3_takeClause 55 = .ok (.aload_n 3, 1) := by decide +kernel
theorem dX3_takeClause_56 : decode cX3_takeClause 56 = .ok (.invokevirtual 55, 3) := by decide +kernel
theorem dX3_takeClause_59 : decode cX3_takeClause 59 = .ok (.if_icmp .ge 80, 3) := by decide +kernel
theorem dX3_takeClause_62 : decode cX3_takeClause 62 = .ok (.aload_n 3, 1) := by decide +kernel
theorem dX3_takeClause_63 : decode cX3_takeClause 63 = .ok (.iload 5, 2) := by decide +kernel
theorem dX3_takeClause_65 : decode cX3_takeClause 65 = .ok (.invokevirtual 59, 3) := by decide +kernel
theorem dX3_takeClause_68 : decode cX3_takeClause 68 = .ok (.istore 6, 2) := by decide +kernel
theorem dX3_takeClause_70 : decode cX3_takeClause 70 = .ok (.iload 6, 2) := by decide +kernel
theorem dX3_takeClause_72 : decode cX3_takeClause 72 = .ok (.bipush 46, 2) := by decide +kernel
theorem dX3_takeClause_74 : decode cX3_takeClause 74 = .ok (.if_icmp .ne 32, 3) := by decide +kernel
theorem dX3_takeClause_77 : decode cX3_takeClause 77 = .ok (.aload_n 1, 1) := by decide +kernel
theorem dX3_takeClause_78 : decode cX3_takeClause 78 = .ok (.aload_n 0, 1) := by decide +kernel
theorem dX3_takeClause_79 : decode cX3_takeClause 79 = .ok (.getfield 19, 3) := by decide +kernel
theorem dX3_takeClause_82 : decode cX3_takeClause 82 = .ok (.iconst 0, 1) := by decide +kernel
theorem dX3_takeClause_83 : decode cX3_takeClause 83 = .ok (.invokevirtual 29, 3) := by decide +kernel
theorem dX3_takeClause_86 : decode cX3_takeClause 86 = .ok (.bipush 46, 2) := by decide +kernel
theorem dX3_takeClause_88 : decode cX3_takeClause 88 = .ok (.if_icmp .eq 5, 3) := by decide +kernel
theorem dX3_takeClause_91 : decode cX3_takeClause 91 = .ok (.iconst 0, 1) := by decide +kernel
theorem dX3_takeClause_92 : decode cX3_takeClause 92 = .ok (.ireturn, 1) := by decide +kernel
theorem dX3_takeClause_93 : decode cX3_takeClause 93 = .ok (.aload_n 0, 1) := by decide +kernel
theorem dX3_takeClause_94 : decode cX3_takeClause 94 = .ok (.dup, 1) := by decide +kernel
theorem dX3_takeClause_95 : decode cX3_takeClause 95 = .ok (.getfield 19, 3) := by decide +kernel
theorem dX3_takeClause_98 : decode cX3_takeClause 98 = .ok (.iconst 1, 1) := by decide +kernel
theorem dX3_takeClause_99 : decode cX3_takeClause 99 = .ok (.iadd, 1) := by decide +kernel
theorem dX3_takeClause_100 : decode cX3_takeClause 100 = .ok (.putfield 19, 3) := by decide +kernel
theorem dX3_takeClause_103 : decode cX3_takeClause 103 = .ok (.goto 30, 3) := by decide +kernel
theorem dX3_takeClause_106 : decode cX3_takeClause 106 = .ok (.aload_n 0, 1) := by decide +kernel
theorem dX3_takeClause_107 : decode cX3_takeClause 107 = .ok (.aload_n 1, 1) := by decide +kernel
theorem dX3_takeClause_108 : decode cX3_takeClause 108 = .ok (.iload 6, 2) := by decide +kernel
theorem dX3_takeClause_110 : decode cX3_takeClause 110 = .ok (.bipush 50, 2) := by decide +kernel
theorem dX3_takeClause_112 : decode cX3_takeClause 112 = .ok (.if_icmp .ne 7, 3) := by decide +kernel
theorem dX3_takeClause_115 : decode cX3_takeClause 115 = .ok (.iconst 1, 1) := by decide +kernel
theorem dX3_takeClause_116 : decode cX3_takeClause 116 = .ok (.goto 4, 3) := by decide +kernel
theorem dX3_takeClause_119 : decode cX3_takeClause 119 = .ok (.iconst 0, 1) := by decide +kernel
theorem dX3_takeClause_120 : decode cX3_takeClause 120 = .ok (.iload 4, 2) := by decide +kernel
theorem dX3_takeClause_122 : decode cX3_takeClause 122 = .ok (.invokevirtual 63, 3) := by decide +kernel
theorem dX3_takeClause_125 : decode cX3_takeClause 125 = .ok (.ifCond .ne 5, 3) := by decide +kernel
theorem dX3_takeClause_128 : decode cX3_takeClause 128 = .ok (.iconst 0, 1) := by decide +kernel
theorem dX3_takeClause_129 : decode cX3_takeClause 129 = .ok (.ireturn, 1) := by decide +kernel
theorem dX3_takeClause_130 : decode cX3_takeClause 130 = .ok (.iinc 4 1, 3) := by decide +kernel
theorem dX3_takeClause_133 : decode cX3_takeClause 133 = .ok (.iinc 5 1, 3) := by decide +kernel
theorem dX3_takeClause_136 : decode cX3_takeClause 136 = .ok (.goto (-83), 3) := by decide +kernel
theorem dX3_takeClause_139 : decode cX3_takeClause 139 = .ok (.iconst 1, 1) := by decide +kernel
theorem dX3_takeClause_140 : decode cX3_takeClause 140 = .ok (.ireturn, 1) := by decide +kernel
theorem dX3_takeNumber_0 : decode cX3_takeNumber 0 = .ok (.aload_n 1, 1) := by decide +kernel
theorem dX3_takeNumber_1 : decode cX3_takeNumber 1 = .ok (.aload_n 0, 1) := by decide +kernel
theorem dX3_takeNumber_2 : decode cX3_takeNumber 2 = .ok (.getfield 19, 3) := by decide +kernel
theorem dX3_takeNumber_5 : decode cX3_takeNumber 5 = .ok (.iconst 0, 1) := by decide +kernel
theorem dX3_takeNumber_6 : decode cX3_takeNumber 6 = .ok (.invokevirtual 29, 3) := by decide +kernel
theorem dX3_takeNumber_9 : decode cX3_takeNumber 9 = .ok (.invokestatic 67, 3) := by decide +kernel
theorem dX3_takeNumber_12 : decode cX3_takeNumber 12 = .ok (.ifCond .eq 9, 3) := by decide +kernel
theorem dX3_takeNumber_15 : decode cX3_takeNumber 15 = .ok (.iload_n 3, 1) := by decide +kernel
theorem dX3_takeNumber_16 : decode cX3_takeNumber 16 = .ok (.bipush 7, 2) := by decide +kernel
theorem dX3_takeNumber_18 : decode cX3_takeNumber 18 = .ok (.if_icmp .lt 5, 3) := by decide +kernel
theorem dX3_takeNumber_21 : decode cX3_takeNumber 21 = .ok (.iconst 0, 1) := by decide +kernel
theorem dX3_takeNumber_22 : decode cX3_takeNumber 22 = .ok (.ireturn, 1) := by decide +kernel
theorem dX3_takeNumber_23 : decode cX3_takeNumber 23 = .ok (.aload_n 1, 1) := by decide +kernel
theorem dX3_takeNumber_24 : decode cX3_takeNumber 24 = .ok (.aload_n 0, 1) := by decide +kernel
theorem dX3_takeNumber_25 : decode cX3_takeNumber 25 = .ok (.getfield 19, 3) := by decide +kernel
theorem dX3_takeNumber_28 : decode cX3_takeNumber 28 = .ok (.iconst 0, 1) := by decide +kernel
theorem dX3_takeNumber_29 : decode cX3_takeNumber 29 = .ok (.invokevirtual 29, 3) := by decide +kernel
theorem dX3_takeNumber_32 : decode cX3_takeNumber 32 = .ok (.bipush 48, 2) := by decide +kernel
theorem dX3_takeNumber_34 : decode cX3_takeNumber 34 = .ok (.isub, 1) := by decide +kernel
theorem dX3_takeNumber_35 : decode cX3_takeNumber 35 = .ok (.istore 4, 2) := by decide +kernel
theorem dX3_takeNumber_37 : decode cX3_takeNumber 37 = .ok (.aload_n 0, 1) := by decide +kernel
theorem dX3_takeNumber_38 : decode cX3_takeNumber 38 = .ok (.dup, 1) := by decide +kernel
theorem dX3_takeNumber_39 : decode cX3_takeNumber 39 = .ok (.getfield 19, 3) := by decide +kernel
theorem dX3_takeNumber_42 : decode cX3_takeNumber 42 = .ok (.iconst 1, 1) := by decide +kernel
theorem dX3_takeNumber_43 : decode cX3_takeNumber 43 = .ok (.iadd, 1) := by decide +kernel
theorem dX3_takeNumber_44 : decode cX3_takeNumber 44 = .ok (.putfield 19, 3) := by decide +kernel
theorem dX3_takeNumber_47 : decode cX3_takeNumber 47 = .ok (.iload_n 2, 1) := by decide +kernel
theorem dX3_takeNumber_48 : decode cX3_takeNumber 48 = .ok (.ifCond .eq 48, 3) := by decide +kernel
theorem dX3_takeNumber_51 : decode cX3_takeNumber 51 = .ok (.aload_n 1, 1) := by decide +kernel
theorem dX3_takeNumber_52 : decode cX3_takeNumber 52 = .ok (.aload_n 0, 1) := by decide +kernel
theorem dX3_takeNumber_53 : decode cX3_takeNumber 53 = .ok (.getfield 19, 3) := by decide +kernel
theorem dX3_takeNumber_56 : decode cX3_takeNumber 56 = .ok (.iconst 0, 1) := by decide +kernel
theorem dX3_takeNumber_57 : decode cX3_takeNumber 57 = .ok (.invokevirtual 29, 3) := by decide +kernel
theorem dX3_takeNumber_60 : decode cX3_takeNumber 60 = .ok (.invokestatic 67, 3) := by decide +kernel
theorem dX3_takeNumber_63 : decode cX3_takeNumber 63 = .ok (.ifCond .eq 33, 3) := by decide +kernel
theorem dX3_takeNumber_66 : decode cX3_takeNumber 66 = .ok (.iload 4, 2) := by decide +kernel
theorem dX3_takeNumber_68 : decode cX3_takeNumber 68 = .ok (.bipush 10, 2) := by decide +kernel
theorem dX3_takeNumber_70 : decode cX3_takeNumber 70 = .ok (.imul, 1) := by decide +kernel
theorem dX3_takeNumber_71 : decode cX3_takeNumber 71 = .ok (.aload_n 1, 1) := by decide +kernel
theorem dX3_takeNumber_72 : decode cX3_takeNumber 72 = .ok (.aload_n 0, 1) := by decide +kernel
theorem dX3_takeNumber_73 : decode cX3_takeNumber 73 = .ok (.getfield 19, 3) := by decide +kernel
theorem dX3_takeNumber_76 : decode cX3_takeNumber 76 = .ok (.iconst 0, 1) := by decide +kernel
theorem dX3_takeNumber_77 : decode cX3_takeNumber 77 = .ok (.invokevirtual 29, 3) := by decide +kernel
theorem dX3_takeNumber_80 : decode cX3_takeNumber 80 = .ok (.iadd, 1) := by decide +kernel
theorem dX3_takeNumber_81 : decode cX3_takeNumber 81 = .ok (.bipush 48, 2) := by decide +kernel
theorem dX3_takeNumber_83 : decode cX3_takeNumber 83 = .ok (.isub, 1) := by decide +kernel
theorem dX3_takeNumber_84 : decode cX3_takeNumber 84 = .ok (.istore 4, 2) := by decide +kernel
theorem dX3_takeNumber_86 : decode cX3_takeNumber 86 = .ok (.aload_n 0, 1) := by decide +kernel
theorem dX3_takeNumber_87 : decode cX3_takeNumber 87 = .ok (.dup, 1) := by decide +kernel
theorem dX3_takeNumber_88 : decode cX3_takeNumber 88 = .ok (.getfield 19, 3) := by decide +kernel
theorem dX3_takeNumber_91 : decode cX3_takeNumber 91 = .ok (.iconst 1, 1) := by decide +kernel
theorem dX3_takeNumber_92 : decode cX3_takeNumber 92 = .ok (.iadd, 1) := by decide +kernel
theorem dX3_takeNumber_93 : decode cX3_takeNumber 93 = .ok (.putfield 19, 3) := by decide +kernel
theorem dX3_takeNumber_96 : decode cX3_takeNumber 96 = .ok (.aload_n 0, 1) := by decide +kernel
theorem dX3_takeNumber_97 : decode cX3_takeNumber 97 = .ok (.getfield 9, 3) := by decide +kernel
theorem dX3_takeNumber_100 : decode cX3_takeNumber 100 = .ok (.aload_n 0, 1) := by decide +kernel
theorem dX3_takeNumber_101 : decode cX3_takeNumber 101 = .ok (.getfield 15, 3) := by decide +kernel
theorem dX3_takeNumber_104 : decode cX3_takeNumber 104 = .ok (.bipush 7, 2) := by decide +kernel
theorem dX3_takeNumber_106 : decode cX3_takeNumber 106 = .ok (.imul, 1) := by decide +kernel
theorem dX3_takeNumber_107 : decode cX3_takeNumber 107 = .ok (.iload_n 3, 1) := by decide +kernel
theorem dX3_takeNumber_108 : decode cX3_takeNumber 108 = .ok (.iadd, 1) := by decide +kernel
theorem dX3_takeNumber_109 : decode cX3_takeNumber 109 = .ok (.iload 4, 2) := by decide +kernel
theorem dX3_takeNumber_111 : decode cX3_takeNumber 111 = .ok (.iastore, 1) := by decide +kernel
theorem dX3_takeNumber_112 : decode cX3_takeNumber 112 = .ok (.iconst 1, 1) := by decide +kernel
theorem dX3_takeNumber_113 : decode cX3_takeNumber 113 = .ok (.ireturn, 1) := by decide +kernel
theorem dX3_isDigit_0 : decode cX3_isDigit 0 = .ok (.iload_n 0, 1) := by decide +kernel
theorem dX3_isDigit_1 : decode cX3_isDigit 1 = .ok (.bipush 48, 2) := by decide +kernel
theorem dX3_isDigit_3 : decode cX3_isDigit 3 = .ok (.bipush 57, 2) := by decide +kernel
theorem dX3_isDigit_5 : decode cX3_isDigit 5 = .ok (.invokestatic 71, 3) := by decide +kernel
theorem dX3_isDigit_8 : decode cX3_isDigit 8 = .ok (.ireturn, 1) := by decide +kernel
theorem dX3_doAll_0 : decode cX3_doAll 0 = .ok (.iconst 0, 1) := by decide +kernel
theorem dX3_doAll_1 : decode cX3_doAll 1 = .ok (.istore_n 2, 1) := by decide +kernel
theorem dX3_doAll_2 : decode cX3_doAll 2 = .ok (.iconst 0, 1) := by decide +kernel
theorem dX3_doAll_3 : decode cX3_doAll 3 = .ok (.istore_n 3, 1) := by decide +kernel
theorem dX3_doAll_4 : decode cX3_doAll 4 = .ok (.iload_n 3, 1) := by decide +kernel
theorem dX3_doAll_5 : decode cX3_doAll 5 = .ok (.aload_n 0, 1) := by decide +kernel
theorem dX3_doAll_6 : decode cX3_doAll 6 = .ok (.getfield 15, 3) := by decide +kernel
theorem dX3_doAll_9 : decode cX3_doAll 9 = .ok (.if_icmp .ge 24, 3) := by decide +kernel
theorem dX3_doAll_12 : decode cX3_doAll 12 = .ok (.aload_n 0, 1) := by decide +kernel
theorem dX3_doAll_13 : decode cX3_doAll 13 = .ok (.aload_n 1, 1) := by decide +kernel
theorem dX3_doAll_14 : decode cX3_doAll 14 = .ok (.iload_n 3, 1) := by decide +kernel
theorem dX3_doAll_15 : decode cX3_doAll 15 = .ok (.bipush 7, 2) := by decide +kernel
theorem dX3_doAll_17 : decode cX3_doAll 17 = .ok (.imul, 1) := by decide +kernel
theorem dX3_doAll_18 : decode cX3_doAll 18 = .ok (.invokevirtual 75, 3) := by decide +kernel
theorem dX3_doAll_21 : decode cX3_doAll 21 = .ok (.ifCond .eq 6, 3) := by decide +kernel
theorem dX3_doAll_24 : decode cX3_doAll 24 = .ok (.iinc 2 1, 3) := by decide +kernel
theorem dX3_doAll_27 : decode cX3_doAll 27 = .ok (.iinc 3 1, 3) := by decide +kernel
theorem dX3_doAll_30 : decode cX3_doAll 30 = .ok (.goto (-26), 3) := by decide +kernel
theorem dX3_doAll_33 : decode cX3_doAll 33 = .ok (.iload_n 2, 1) := by decide +kernel
theorem dX3_doAll_34 : decode cX3_doAll 34 = .ok (.ireturn, 1) := by decide +kernel
theorem dX3_isDone_0 : decode cX3_isDone 0 = .ok (.aload_n 0, 1) := by decide +kernel
theorem dX3_isDone_1 : decode cX3_isDone 1 = .ok (.getfield 9, 3) := by decide +kernel
theorem dX3_isDone_4 : decode cX3_isDone 4 = .ok (.iload_n 2, 1) := by decide +kernel
theorem dX3_isDone_5 : decode cX3_isDone 5 = .ok (.iconst 1, 1) := by decide +kernel
theorem dX3_isDone_6 : decode cX3_isDone 6 = .ok (.iadd, 1) := by decide +kernel
theorem dX3_isDone_7 : decode cX3_isDone 7 = .ok (.iaload, 1) := by decide +kernel
theorem dX3_isDone_8 : decode cX3_isDone 8 = .ok (.istore_n 3, 1) := by decide +kernel
theorem dX3_isDone_9 : decode cX3_isDone 9 = .ok (.aload_n 0, 1) := by decide +kernel
theorem dX3_isDone_10 : decode cX3_isDone 10 = .ok (.getfield 9, 3) := by decide +kernel
theorem dX3_isDone_13 : decode cX3_isDone 13 = .ok (.iload_n 2, 1) := by decide +kernel
theorem dX3_isDone_14 : decode cX3_isDone 14 = .ok (.iconst 2, 1) := by decide +kernel
theorem dX3_isDone_15 : decode cX3_isDone 15 = .ok (.iadd, 1) := by decide +kernel
theorem dX3_isDone_16 : decode cX3_isDone 16 = .ok (.iaload, 1) := by decide +kernel
theorem dX3_isDone_17 : decode cX3_isDone 17 = .ok (.istore 4, 2) := by decide +kernel
theorem dX3_isDone_19 : decode cX3_isDone 19 = .ok (.aload_n 0, 1) := by decide +kernel
theorem dX3_isDone_20 : decode cX3_isDone 20 = .ok (.getfield 9, 3) := by decide +kernel
theorem dX3_isDone_23 : decode cX3_isDone 23 = .ok (.iload_n 2, 1) := by decide +kernel
theorem dX3_isDone_24 : decode cX3_isDone 24 = .ok (.iconst 3, 1) := by decide +kernel
theorem dX3_isDone_25 : decode cX3_isDone 25 = .ok (.iadd, 1) := by decide +kernel
theorem dX3_isDone_26 : decode cX3_isDone 26 = .ok (.iaload, 1) := by decide +kernel
theorem dX3_isDone_27 : decode cX3_isDone 27 = .ok (.istore 5, 2) := by decide +kernel
theorem dX3_isDone_29 : decode cX3_isDone 29 = .ok (.aload_n 0, 1) := by decide +kernel
theorem dX3_isDone_30 : decode cX3_isDone 30 = .ok (.getfield 9, 3) := by decide +kernel
theorem dX3_isDone_33 : decode cX3_isDone 33 = .ok (.iload_n 2, 1) := by decide +kernel
theorem dX3_isDone_34 : decode cX3_isDone 34 = .ok (.iconst 4, 1) := by decide +kernel
theorem dX3_isDone_35 : decode cX3_isDone 35 = .ok (.iadd, 1) := by decide +kernel
theorem dX3_isDone_36 : decode cX3_isDone 36 = .ok (.iaload, 1) := by decide +kernel
theorem dX3_isDone_37 : decode cX3_isDone 37 = .ok (.istore 6, 2) := by decide +kernel
theorem dX3_isDone_39 : decode cX3_isDone 39 = .ok (.aload_n 0, 1) := by decide +kernel
theorem dX3_isDone_40 : decode cX3_isDone 40 = .ok (.getfield 9, 3) := by decide +kernel
theorem dX3_isDone_43 : decode cX3_isDone 43 = .ok (.iload_n 2, 1) := by decide +kernel
theorem dX3_isDone_44 : decode cX3_isDone 44 = .ok (.iaload, 1) := by decide +kernel
theorem dX3_isDone_45 : decode cX3_isDone 45 = .ok (.tableswitch 193 100 113 #[71, 159, 176, 193, 193, 193, 193, 193, 193, 193, 193, 193, 147, 108], 71) := by decide +kernel
theorem dX3_isDone_116 : decode cX3_isDone 116 = .ok (.aload_n 1, 1) := by decide +kernel
theorem dX3_isDone_117 : decode cX3_isDone 117 = .ok (.iload_n 3, 1) := by decide +kernel
theorem dX3_isDone_118 : decode cX3_isDone 118 = .ok (.iload 4, 2) := by decide +kernel
theorem dX3_isDone_120 : decode cX3_isDone 120 = .ok (.iload 5, 2) := by decide +kernel
theorem dX3_isDone_122 : decode cX3_isDone 122 = .ok (.iload 6, 2) := by decide +kernel
theorem dX3_isDone_124 : decode cX3_isDone 124 = .ok (.aload_n 0, 1) := by decide +kernel
theorem dX3_isDone_125 : decode cX3_isDone 125 = .ok (.getfield 9, 3) := by decide +kernel
theorem dX3_isDone_128 : decode cX3_isDone 128 = .ok (.iload_n 2, 1) := by decide +kernel
theorem dX3_isDone_129 : decode cX3_isDone 129 = .ok (.iconst 5, 1) := by decide +kernel
theorem dX3_isDone_130 : decode cX3_isDone 130 = .ok (.iadd, 1) := by decide +kernel
theorem dX3_isDone_131 : decode cX3_isDone 131 = .ok (.iaload, 1) := by decide +kernel
theorem dX3_isDone_132 : decode cX3_isDone 132 = .ok (.aload_n 0, 1) := by decide +kernel
theorem dX3_isDone_133 : decode cX3_isDone 133 = .ok (.getfield 9, 3) := by decide +kernel
theorem dX3_isDone_136 : decode cX3_isDone 136 = .ok (.iload_n 2, 1) := by decide +kernel
theorem dX3_isDone_137 : decode cX3_isDone 137 = .ok (.bipush 6, 2) := by decide +kernel
theorem dX3_isDone_139 : decode cX3_isDone 139 = .ok (.iadd, 1) := by decide +kernel
theorem dX3_isDone_140 : decode cX3_isDone 140 = .ok (.iaload, 1) := by decide +kernel
theorem dX3_isDone_141 : decode cX3_isDone 141 = .ok (.invokevirtual 79, 3) := by decide +kernel
theorem dX3_isDone_144 : decode cX3_isDone 144 = .ok (.ifCond .lt 7, 3) := by decide +kernel
theorem dX3_isDone_147 : decode cX3_isDone 147 = .ok (.iconst 1, 1) := by decide +kernel
theorem dX3_isDone_148 : decode cX3_isDone 148 = .ok (.goto 4, 3) := by decide +kernel
theorem dX3_isDone_151 : decode cX3_isDone 151 = .ok (.iconst 0, 1) := by decide +kernel
theorem dX3_isDone_152 : decode cX3_isDone 152 = .ok (.ireturn, 1) := by decide +kernel
theorem dX3_isDone_153 : decode cX3_isDone 153 = .ok (.aload_n 1, 1) := by decide +kernel
theorem dX3_isDone_154 : decode cX3_isDone 154 = .ok (.iload_n 3, 1) := by decide +kernel
theorem dX3_isDone_155 : decode cX3_isDone 155 = .ok (.iconst 0, 1) := by decide +kernel
theorem dX3_isDone_156 : decode cX3_isDone 156 = .ok (.iload 4, 2) := by decide +kernel
theorem dX3_isDone_158 : decode cX3_isDone 158 = .ok (.invokevirtual 85, 3) := by decide +kernel
theorem dX3_isDone_161 : decode cX3_isDone 161 = .ok (.ifCond .lt 29, 3) := by decide +kernel
theorem dX3_isDone_164 : decode cX3_isDone 164 = .ok (.aload_n 1, 1) := by decide +kernel
theorem dX3_isDone_165 : decode cX3_isDone 165 = .ok (.iload_n 3, 1) := by decide +kernel
theorem dX3_isDone_166 : decode cX3_isDone 166 = .ok (.iconst 1, 1) := by decide +kernel
theorem dX3_isDone_167 : decode cX3_isDone 167 = .ok (.iload 5, 2) := by decide +kernel
theorem dX3_isDone_169 : decode cX3_isDone 169 = .ok (.invokevirtual 85, 3) := by decide +kernel
theorem dX3_isDone_172 : decode cX3_isDone 172 = .ok (.ifCond .lt 18, 3) := by decide +kernel
theorem dX3_isDone_175 : decode cX3_isDone 175 = .ok (.aload_n 1, 1) := by decide +kernel
theorem dX3_isDone_176 : decode cX3_isDone 176 = .ok (.iload_n 3, 1) := by decide +kernel
theorem dX3_isDone_177 : decode cX3_isDone 177 = .ok (.iconst 2, 1) := by decide +kernel
theorem dX3_isDone_178 : decode cX3_isDone 178 = .ok (.iload 6, 2) := by decide +kernel
theorem dX3_isDone_180 : decode cX3_isDone 180 = .ok (.invokevirtual 85, 3) := by decide +kernel
theorem dX3_isDone_183 : decode cX3_isDone 183 = .ok (.ifCond .lt 7, 3) := by decide +kernel
theorem dX3_isDone_186 : decode cX3_isDone 186 = .ok (.iconst 1, 1) := by decide +kernel
theorem dX3_isDone_187 : decode cX3_isDone 187 = .ok (.goto 4, 3) := by decide +kernel
theorem dX3_isDone_190 : decode cX3_isDone 190 = .ok (.iconst 0, 1) := by decide +kernel
theorem dX3_isDone_191 : decode cX3_isDone 191 = .ok (.ireturn, 1) := by decide +kernel
theorem dX3_isDone_192 : decode cX3_isDone 192 = .ok (.aload_n 1, 1) := by decide +kernel
theorem dX3_isDone_193 : decode cX3_isDone 193 = .ok (.iload_n 3, 1) := by decide +kernel
theorem dX3_isDone_194 : decode cX3_isDone 194 = .ok (.iload 4, 2) := by decide +kernel
theorem dX3_isDone_196 : decode cX3_isDone 196 = .ok (.iload 5, 2) := by decide +kernel
theorem dX3_isDone_198 : decode cX3_isDone 198 = .ok (.iload 6, 2) := by decide +kernel
theorem dX3_isDone_200 : decode cX3_isDone 200 = .ok (.invokevirtual 89, 3) := by decide +kernel
theorem dX3_isDone_203 : decode cX3_isDone 203 = .ok (.ireturn, 1) := by decide +kernel
theorem dX3_isDone_204 : decode cX3_isDone 204 = .ok (.aload_n 1, 1) := by decide +kernel
theorem dX3_isDone_205 : decode cX3_isDone 205 = .ok (.iload_n 3, 1) := by decide +kernel
theorem dX3_isDone_206 : decode cX3_isDone 206 = .ok (.iconst 0, 1) := by decide +kernel
theorem dX3_isDone_207 : decode cX3_isDone 207 = .ok (.iload 4, 2) := by decide +kernel
theorem dX3_isDone_209 : decode cX3_isDone 209 = .ok (.invokevirtual 93, 3) := by decide +kernel
theorem dX3_isDone_212 : decode cX3_isDone 212 = .ok (.ifCond .lt 7, 3) := by decide +kernel
theorem dX3_isDone_215 : decode cX3_isDone 215 = .ok (.iconst 1, 1) := by decide +kernel
theorem dX3_isDone_216 : decode cX3_isDone 216 = .ok (.goto 4, 3) := by decide +kernel
theorem dX3_isDone_219 : decode cX3_isDone 219 = .ok (.iconst 0, 1) := by decide +kernel
theorem dX3_isDone_220 : decode cX3_isDone 220 = .ok (.ireturn, 1) := by decide +kernel
theorem dX3_isDone_221 : decode cX3_isDone 221 = .ok (.aload_n 1, 1) := by decide +kernel
theorem dX3_isDone_222 : decode cX3_isDone 222 = .ok (.iload_n 3, 1) := by decide +kernel
theorem dX3_isDone_223 : decode cX3_isDone 223 = .ok (.iconst 1, 1) := by decide +kernel
theorem dX3_isDone_224 : decode cX3_isDone 224 = .ok (.iload 4, 2) := by decide +kernel
theorem dX3_isDone_226 : decode cX3_isDone 226 = .ok (.invokevirtual 93, 3) := by decide +kernel
theorem dX3_isDone_229 : decode cX3_isDone 229 = .ok (.ifCond .lt 7, 3) := by decide +kernel
theorem dX3_isDone_232 : decode cX3_isDone 232 = .ok (.iconst 1, 1) := by decide +kernel
theorem dX3_isDone_233 : decode cX3_isDone 233 = .ok (.goto 4, 3) := by decide +kernel
theorem dX3_isDone_236 : decode cX3_isDone 236 = .ok (.iconst 0, 1) := by decide +kernel
theorem dX3_isDone_237 : decode cX3_isDone 237 = .ok (.ireturn, 1) := by decide +kernel
theorem dX3_isDone_238 : decode cX3_isDone 238 = .ok (.aload_n 1, 1) := by decide +kernel
theorem dX3_isDone_239 : decode cX3_isDone 239 = .ok (.iconst 0, 1) := by decide +kernel
theorem dX3_isDone_240 : decode cX3_isDone 240 = .ok (.iload_n 3, 1) := by decide +kernel
theorem dX3_isDone_241 : decode cX3_isDone 241 = .ok (.invokevirtual 96, 3) := by decide +kernel
theorem dX3_isDone_244 : decode cX3_isDone 244 = .ok (.ifCond .lt 7, 3) := by decide +kernel
theorem dX3_isDone_247 : decode cX3_isDone 247 = .ok (.iconst 1, 1) := by decide +kernel
theorem dX3_isDone_248 : decode cX3_isDone 248 = .ok (.goto 4, 3) := by decide +kernel
theorem dX3_isDone_251 : decode cX3_isDone 251 = .ok (.iconst 0, 1) := by decide +kernel
theorem dX3_isDone_252 : decode cX3_isDone 252 = .ok (.ireturn, 1) := by decide +kernel
theorem dX4_init_0 : decode cX4_init 0 = .ok (.aload_n 0, 1) := by decide +kernel
theorem dX4_init_1 : decode cX4_init 1 = .ok (.invokespecial 3, 3) := by decide +kernel
theorem dX4_init_4 : decode cX4_init 4 = .ok (.aload_n 0, 1) := by decide +kernel
theorem dX4_init_5 : decode cX4_init 5 = .ok (.new 9, 3) := by decide +kernel
theorem dX4_init_8 : decode cX4_init 8 = .ok (.dup, 1) := by decide +kernel
theorem dX4_init_9 : decode cX4_init 9 = .ok (.invokespecial 11, 3) := by decide +kernel
theorem dX4_init_12 : decode cX4_init 12 = .ok (.putfield 12, 3) := by decide +kernel
theorem dX4_init_15 : decode cX4_init 15 = .ok (.aload_n 0, 1) := by decide +kernel
theorem dX4_init_16 : decode cX4_init 16 = .ok (.bipush 25, 2) := by decide +kernel
theorem dX4_init_18 : decode cX4_init 18 = .ok (.newarray .int, 2) := by decide +kernel
theorem dX4_init_20 : decode cX4_init 20 = .ok (.putfield 18, 3) := by decide +kernel
theorem dX4_init_23 : decode cX4_init 23 = .ok (.aload_n 0, 1) := by decide +kernel
theorem dX4_init_24 : decode cX4_init 24 = .ok (.bipush 24, 2) := by decide +kernel
theorem dX4_init_26 : decode cX4_init 26 = .ok (.newarray .int, 2) := by decide +kernel
theorem dX4_init_28 : decode cX4_init 28 = .ok (.putfield 22, 3) := by decide +kernel
theorem dX4_init_31 : decode cX4_init 31 = .ok (.aload_n 0, 1) := by decide +kernel
theorem dX4_init_32 : decode cX4_init 32 = .ok (.iconst 0, 1) := by decide +kernel
theorem dX4_init_33 : decode cX4_init 33 = .ok (.putfield 25, 3) := by decide +kernel
theorem dX4_init_36 : decode cX4_init 36 = .ok (.aload_n 0, 1) := by decide +kernel
theorem dX4_init_37 : decode cX4_init 37 = .ok (.iconst 0, 1) := by decide +kernel
theorem dX4_init_38 : decode cX4_init 38 = .ok (.putfield 29, 3) := by decide +kernel
theorem dX4_init_41 : decode cX4_init 41 = .ok (.aload_n 0, 1) := by decide +kernel
theorem dX4_init_42 : decode cX4_init 42 = .ok (.iconst 0, 1) := by decide +kernel
theorem dX4_init_43 : decode cX4_init 43 = .ok (.putfield 32, 3) := by decide +kernel
theorem dX4_init_46 : decode cX4_init 46 = .ok (.aload_n 0, 1) := by decide +kernel
theorem dX4_init_47 : decode cX4_init 47 = .ok (.iconst 0, 1) := by decide +kernel
theorem dX4_init_48 : decode cX4_init 48 = .ok (.putfield 35, 3) := by decide +kernel
theorem dX4_init_51 : decode cX4_init 51 = .ok (.aload_n 0, 1) := by decide +kernel
theorem dX4_init_52 : decode cX4_init 52 = .ok (.iconst 0, 1) := by decide +kernel
theorem dX4_init_53 : decode cX4_init 53 = .ok (.putfield 38, 3) := by decide +kernel
theorem dX4_init_56 : decode cX4_init 56 = .ok (.return_, 1) := by decide +kernel
theorem dX4_go_0 : decode cX4_go 0 = .ok (.aload_n 0, 1) := by decide +kernel
theorem dX4_go_1 : decode cX4_go 1 = .ok (.iload 6, 2) := by decide +kernel
theorem dX4_go_3 : decode cX4_go 3 = .ok (.aload_n 3, 1) := by decide +kernel
theorem dX4_go_4 : decode cX4_go 4 = .ok (.getfield 41, 3) := by decide +kernel
theorem dX4_go_7 : decode cX4_go 7 = .ok (.invokestatic 46, 3) := by decide +kernel
theorem dX4_go_10 : decode cX4_go 10 = .ok (.putfield 25, 3) := by decide +kernel
theorem dX4_go_13 : decode cX4_go 13 = .ok (.aload_n 0, 1) := by decide +kernel
theorem dX4_go_14 : decode cX4_go 14 = .ok (.iconst 0, 1) := by decide +kernel
theorem dX4_go_15 : decode cX4_go 15 = .ok (.putfield 29, 3) := by decide +kernel
theorem dX4_go_18 : decode cX4_go 18 = .ok (.aload_n 0, 1) := by decide +kernel
theorem dX4_go_19 : decode cX4_go 19 = .ok (.iconst 0, 1) := by decide +kernel
theorem dX4_go_20 : decode cX4_go 20 = .ok (.putfield 32, 3) := by decide +kernel
theorem dX4_go_23 : decode cX4_go 23 = .ok (.aload_n 0, 1) := by decide +kernel
theorem dX4_go_24 : decode cX4_go 24 = .ok (.iconst 0, 1) := by decide +kernel
theorem dX4_go_25 : decode cX4_go 25 = .ok (.putfield 35, 3) := by decide +kernel
theorem dX4_go_28 : decode cX4_go 28 = .ok (.aload_n 0, 1) := by decide +kernel
theorem dX4_go_29 : decode cX4_go 29 = .ok (.iconst 0, 1) := by decide +kernel
theorem dX4_go_30 : decode cX4_go 30 = .ok (.putfield 38, 3) := by decide +kernel
theorem dX4_go_33 : decode cX4_go 33 = .ok (.aload_n 0, 1) := by decide +kernel
theorem dX4_go_34 : decode cX4_go 34 = .ok (.getfield 18, 3) := by decide +kernel
theorem dX4_go_37 : decode cX4_go 37 = .ok (.iconst 0, 1) := by decide +kernel
theorem dX4_go_38 : decode cX4_go 38 = .ok (.iload 4, 2) := by decide +kernel
theorem dX4_go_40 : decode cX4_go 40 = .ok (.iastore, 1) := by decide +kernel
theorem dX4_go_41 : decode cX4_go 41 = .ok (.iconst 0, 1) := by decide +kernel
theorem dX4_go_42 : decode cX4_go 42 = .ok (.istore 7, 2) := by decide +kernel
theorem dX4_go_44 : decode cX4_go 44 = .ok (.iload 7, 2) := by decide +kernel
theorem dX4_go_46 : decode cX4_go 46 = .ok (.aload_n 0, 1) := by decide +kernel
theorem dX4_go_47 : decode cX4_go 47 = .ok (.getfield 25, 3) := by decide +kernel
theorem dX4_go_50 : decode cX4_go 50 = .ok (.if_icmp .ge 168, 3) := by decide +kernel
theorem dX4_go_53 : decode cX4_go 53 = .ok (.iload 7, 2) := by decide +kernel
theorem dX4_go_55 : decode cX4_go 55 = .ok (.bipush 12, 2) := by decide +kernel
theorem dX4_go_57 : decode cX4_go 57 = .ok (.irem, 1) := by decide +kernel
theorem dX4_go_58 : decode cX4_go 58 = .ok (.istore 8, 2) := by decide +kernel
theorem dX4_go_60 : decode cX4_go 60 = .ok (.aload_n 3, 1) := by decide +kernel
theorem dX4_go_61 : decode cX4_go 61 = .ok (.iload 7, 2) := by decide +kernel
theorem dX4_go_63 : decode cX4_go 63 = .ok (.iconst 0, 1) := by decide +kernel
theorem dX4_go_64 : decode cX4_go 64 = .ok (.invokevirtual 52, 3) := by decide +kernel
theorem dX4_go_67 : decode cX4_go 67 = .ok (.istore 9, 2) := by decide +kernel
theorem dX4_go_69 : decode cX4_go 69 = .ok (.iload 5, 2) := by decide +kernel
theorem dX4_go_71 : decode cX4_go 71 = .ok (.ifCond .ne 22, 3) := by decide +kernel
theorem dX4_go_74 : decode cX4_go 74 = .ok (.aload_n 1, 1) := by decide +kernel
theorem dX4_go_75 : decode cX4_go 75 = .ok (.aload_n 2, 1) := by decide +kernel
theorem dX4_go_76 : decode cX4_go 76 = .ok (.iload 8, 2) := by decide +kernel
theorem dX4_go_78 : decode cX4_go 78 = .ok (.aload_n 0, 1) := by decide +kernel
theorem dX4_go_79 : decode cX4_go 79 = .ok (.getfield 18, 3) := by decide +kernel
theorem dX4_go_82 : decode cX4_go 82 = .ok (.iload 7, 2) := by decide +kernel
theorem dX4_go_84 : decode cX4_go 84 = .ok (.iaload, 1) := by decide +kernel
theorem dX4_go_85 : decode cX4_go 85 = .ok (.iload 9, 2) := by decide +kernel
theorem dX4_go_87 : decode cX4_go 87 = .ok (.invokestatic 55, 3) := by decide +kernel
theorem dX4_go_90 : decode cX4_go 90 = .ok (.goto 5, 3) := by decide +kernel
theorem dX4_go_93 : decode cX4_go 93 = .ok (.iload 5, 2) := by decide +kernel
theorem dX4_go_95 : decode cX4_go 95 = .ok (.istore 10, 2) := by decide +kernel
theorem dX4_go_97 : decode cX4_go 97 = .ok (.aload_n 0, 1) := by decide +kernel
theorem dX4_go_98 : decode cX4_go 98 = .ok (.getfield 12, 3) := by decide +kernel
theorem dX4_go_101 : decode cX4_go 101 = .ok (.aload_n 1, 1) := by decide +kernel
theorem dX4_go_102 : decode cX4_go 102 = .ok (.iload 8, 2) := by decide +kernel
theorem dX4_go_104 : decode cX4_go 104 = .ok (.aload_n 0, 1) := by decide +kernel
theorem dX4_go_105 : decode cX4_go 105 = .ok (.getfield 18, 3) := by decide +kernel
theorem dX4_go_108 : decode cX4_go 108 = .ok (.iload 7, 2) := by decide +kernel
theorem dX4_go_110 : decode cX4_go 110 = .ok (.iaload, 1) := by decide +kernel
theorem dX4_go_111 : decode cX4_go 111 = .ok (.iload 9, 2) := by decide +kernel
theorem dX4_go_113 : decode cX4_go 113 = .ok (.iload 10, 2) := by decide +kernel
theorem dX4_go_115 : decode cX4_go 115 = .ok (.invokevirtual 59, 3) := by decide +kernel
theorem dX4_go_118 : decode cX4_go 118 = .ok (.aload_n 0, 1) := by decide +kernel
theorem dX4_go_119 : decode cX4_go 119 = .ok (.dup, 1) := by decide +kernel
theorem dX4_go_120 : decode cX4_go 120 = .ok (.getfield 29, 3) := by decide +kernel
theorem dX4_go_123 : decode cX4_go 123 = .ok (.aload_n 0, 1) := by decide +kernel
theorem dX4_go_124 : decode cX4_go 124 = .ok (.getfield 12, 3) := by decide +kernel
theorem dX4_go_127 : decode cX4_go 127 = .ok (.getfield 63, 3) := by decide +kernel
theorem dX4_go_130 : decode cX4_go 130 = .ok (.iadd, 1) := by decide +kernel
theorem dX4_go_131 : decode cX4_go 131 = .ok (.putfield 29, 3) := by decide +kernel
theorem dX4_go_134 : decode cX4_go 134 = .ok (.aload_n 0, 1) := by decide +kernel
theorem dX4_go_135 : decode cX4_go 135 = .ok (.dup, 1) := by decide +kernel
theorem dX4_go_136 : decode cX4_go 136 = .ok (.getfield 32, 3) := by decide +kernel
theorem dX4_go_139 : decode cX4_go 139 = .ok (.aload_n 0, 1) := by decide +kernel
theorem dX4_go_140 : decode cX4_go 140 = .ok (.getfield 12, 3) := by decide +kernel
theorem dX4_go_143 : decode cX4_go 143 = .ok (.getfield 64, 3) := by decide +kernel
theorem dX4_go_146 : decode cX4_go 146 = .ok (.iadd, 1) := by decide +kernel
theorem dX4_go_147 : decode cX4_go 147 = .ok (.putfield 32, 3) := by decide +kernel
theorem dX4_go_150 : decode cX4_go 150 = .ok (.aload_n 0, 1) := by decide +kernel
theorem dX4_go_151 : decode cX4_go 151 = .ok (.dup, 1) := by decide +kernel
theorem dX4_go_152 : decode cX4_go 152 = .ok (.getfield 35, 3) := by decide +kernel
theorem dX4_go_155 : decode cX4_go 155 = .ok (.aload_n 0, 1) := by decide +kernel
theorem dX4_go_156 : decode cX4_go 156 = .ok (.getfield 12, 3) := by decide +kernel
theorem dX4_go_159 : decode cX4_go 159 = .ok (.getfield 65, 3) := by decide +kernel
theorem dX4_go_162 : decode cX4_go 162 = .ok (.iadd, 1) := by decide +kernel
theorem dX4_go_163 : decode cX4_go 163 = .ok (.putfield 35, 3) := by decide +kernel
theorem dX4_go_166 : decode cX4_go 166 = .ok (.aload_n 0, 1) := by decide +kernel
theorem dX4_go_167 : decode cX4_go 167 = .ok (.dup, 1) := by decide +kernel
theorem dX4_go_168 : decode cX4_go 168 = .ok (.getfield 38, 3) := by decide +kernel
theorem dX4_go_171 : decode cX4_go 171 = .ok (.aload_n 0, 1) := by decide +kernel
theorem dX4_go_172 : decode cX4_go 172 = .ok (.getfield 12, 3) := by decide +kernel
theorem dX4_go_175 : decode cX4_go 175 = .ok (.getfield 66, 3) := by decide +kernel
theorem dX4_go_178 : decode cX4_go 178 = .ok (.iadd, 1) := by decide +kernel
theorem dX4_go_179 : decode cX4_go 179 = .ok (.putfield 38, 3) := by decide +kernel
theorem dX4_go_182 : decode cX4_go 182 = .ok (.aload_n 0, 1) := by decide +kernel
theorem dX4_go_183 : decode cX4_go 183 = .ok (.getfield 22, 3) := by decide +kernel
theorem dX4_go_186 : decode cX4_go 186 = .ok (.iload 7, 2) := by decide +kernel
theorem dX4_go_188 : decode cX4_go 188 = .ok (.aload_n 0, 1) := by decide +kernel
theorem dX4_go_189 : decode cX4_go 189 = .ok (.getfield 12, 3) := by decide +kernel
theorem dX4_go_192 : decode cX4_go 192 = .ok (.getfield 66, 3) := by decide +kernel
theorem dX4_go_195 : decode cX4_go 195 = .ok (.iastore, 1) := by decide +kernel
theorem dX4_go_196 : decode cX4_go 196 = .ok (.aload_n 0, 1) := by decide +kernel
theorem dX4_go_197 : decode cX4_go 197 = .ok (.getfield 18, 3) := by decide +kernel
theorem dX4_go_200 : decode cX4_go 200 = .ok (.iload 7, 2) := by decide +kernel
theorem dX4_go_202 : decode cX4_go 202 = .ok (.iconst 1, 1) := by decide +kernel
theorem dX4_go_203 : decode cX4_go 203 = .ok (.iadd, 1) := by decide +kernel
theorem dX4_go_204 : decode cX4_go 204 = .ok (.aload_n 0, 1) := by decide +kernel
theorem dX4_go_205 : decode cX4_go 205 = .ok (.getfield 12, 3) := by decide +kernel
theorem dX4_go_208 : decode cX4_go 208 = .ok (.getfield 67, 3) := by decide +kernel
theorem dX4_go_211 : decode cX4_go 211 = .ok (.iastore, 1) := by decide +kernel
theorem dX4_go_212 : decode cX4_go 212 = .ok (.iinc 7 1, 3) := by decide +kernel
theorem dX4_go_215 : decode cX4_go 215 = .ok (.goto (-171), 3) := by decide +kernel
theorem dX4_go_218 : decode cX4_go 218 = .ok (.return_, 1) := by decide +kernel
theorem dX4_bestRelease_0 : decode cX4_bestRelease 0 = .ok (.aload_n 0, 1) := by decide +kernel
theorem dX4_bestRelease_1 : decode cX4_bestRelease 1 = .ok (.iload_n 2, 1) := by decide +kernel
theorem dX4_bestRelease_2 : decode cX4_bestRelease 2 = .ok (.iload_n 3, 1) := by decide +kernel
theorem dX4_bestRelease_3 : decode cX4_bestRelease 3 = .ok (.invokevirtual 70, 3) := by decide +kernel
theorem dX4_bestRelease_6 : decode cX4_bestRelease 6 = .ok (.ifCond .ne 5, 3) := by decide +kernel
theorem dX4_bestRelease_9 : decode cX4_bestRelease 9 = .ok (.iconst 0, 1) := by decide +kernel
theorem dX4_bestRelease_10 : decode cX4_bestRelease 10 = .ok (.ireturn, 1) := by decide +kernel
theorem dX4_bestRelease_11 : decode cX4_bestRelease 11 = .ok (.aload_n 1, 1) := by decide +kernel
theorem dX4_bestRelease_12 : decode cX4_bestRelease 12 = .ok (.iload_n 2, 1) := by decide +kernel
theorem dX4_bestRelease_13 : decode cX4_bestRelease 13 = .ok (.iload_n 3, 1) := by decide +kernel
theorem dX4_bestRelease_14 : decode cX4_bestRelease 14 = .ok (.aload_n 0, 1) := by decide +kernel
theorem dX4_bestRelease_15 : decode cX4_bestRelease 15 = .ok (.iload_n 2, 1) := by decide +kernel
theorem dX4_bestRelease_16 : decode cX4_bestRelease 16 = .ok (.iload 4, 2) := by decide +kernel
theorem dX4_bestRelease_18 : decode cX4_bestRelease 18 = .ok (.invokevirtual 76, 3) := by decide +kernel
theorem dX4_bestRelease_21 : decode cX4_bestRelease 21 = .ok (.invokevirtual 79, 3) := by decide +kernel
theorem dX4_bestRelease_24 : decode cX4_bestRelease 24 = .ok (.ireturn, 1) := by decide +kernel
theorem dX4_leastStore_0 : decode cX4_leastStore 0 = .ok (.aload_n 0, 1) := by decide +kernel
theorem dX4_leastStore_1 : decode cX4_leastStore 1 = .ok (.getfield 18, 3) := by decide +kernel
theorem dX4_leastStore_4 : decode cX4_leastStore 4 = .ok (.iconst 0, 1) := by decide +kernel
theorem dX4_leastStore_5 : decode cX4_leastStore 5 = .ok (.iaload, 1) := by decide +kernel
theorem dX4_leastStore_6 : decode cX4_leastStore 6 = .ok (.istore_n 1, 1) := by decide +kernel
theorem dX4_leastStore_7 : decode cX4_leastStore 7 = .ok (.iconst 1, 1) := by decide +kernel
theorem dX4_leastStore_8 : decode cX4_leastStore 8 = .ok (.istore_n 2, 1) := by decide +kernel
theorem dX4_leastStore_9 : decode cX4_leastStore 9 = .ok (.iload_n 2, 1) := by decide +kernel
theorem dX4_leastStore_10 : decode cX4_leastStore 10 = .ok (.aload_n 0, 1) := by decide +kernel
theorem dX4_leastStore_11 : decode cX4_leastStore 11 = .ok (.getfield 25, 3) := by decide +kernel
theorem dX4_leastStore_14 : decode cX4_leastStore 14 = .ok (.if_icmp .gt 20, 3) := by decide +kernel
theorem dX4_leastStore_17 : decode cX4_leastStore 17 = .ok (.iload_n 1, 1) := by decide +kernel
theorem dX4_leastStore_18 : decode cX4_leastStore 18 = .ok (.aload_n 0, 1) := by decide +kernel
theorem dX4_leastStore_19 : decode cX4_leastStore 19 = .ok (.getfield 18, 3) := by decide +kernel
theorem dX4_leastStore_22 : decode cX4_leastStore 22 = .ok (.iload_n 2, 1) := by decide +kernel
theorem dX4_leastStore_23 : decode cX4_leastStore 23 = .ok (.iaload, 1) := by decide +kernel
theorem dX4_leastStore_24 : decode cX4_leastStore 24 = .ok (.invokestatic 46, 3) := by decide +kernel
theorem dX4_leastStore_27 : decode cX4_leastStore 27 = .ok (.istore_n 1, 1) := by decide +kernel
theorem dX4_leastStore_28 : decode cX4_leastStore 28 = .ok (.iinc 2 1, 3) := by decide +kernel
theorem dX4_leastStore_31 : decode cX4_leastStore 31 = .ok (.goto (-22), 3) := by decide +kernel
theorem dX4_leastStore_34 : decode cX4_leastStore 34 = .ok (.iload_n 1, 1) := by decide +kernel
theorem dX4_leastStore_35 : decode cX4_leastStore 35 = .ok (.ireturn, 1) := by decide +kernel
theorem dX4_tell_0 : decode cX4_tell 0 = .ok (.iload_n 1, 1) := by decide +kernel
theorem dX4_tell_1 : decode cX4_tell 1 = .ok (.tableswitch 80 0 5 #[39, 50, 56, 62, 68, 74], 39) := by decide +kernel
theorem dX4_tell_40 : decode cX4_tell 40 = .ok (.aload_n 0, 1) := by decide +kernel
theorem dX4_tell_41 : decode cX4_tell 41 = .ok (.getfield 18, 3) := by decide +kernel
theorem dX4_tell_44 : decode cX4_tell 44 = .ok (.aload_n 0, 1) := by decide +kernel
theorem dX4_tell_45 : decode cX4_tell 45 = .ok (.getfield 25, 3) := by decide +kernel
theorem dX4_tell_48 : decode cX4_tell 48 = .ok (.iaload, 1) := by decide +kernel
theorem dX4_tell_49 : decode cX4_tell 49 = .ok (.i2l, 1) := by decide +kernel
theorem dX4_tell_50 : decode cX4_tell 50 = .ok (.lreturn, 1) := by decide +kernel
theorem dX4_tell_51 : decode cX4_tell 51 = .ok (.aload_n 0, 1) := by decide +kernel
theorem dX4_tell_52 : decode cX4_tell 52 = .ok (.getfield 29, 3) := by decide +kernel
theorem dX4_tell_55 : decode cX4_tell 55 = .ok (.i2l, 1) := by decide +kernel
theorem dX4_tell_56 : decode cX4_tell 56 = .ok (.lreturn, 1) := by decide +kernel
theorem dX4_tell_57 : decode cX4_tell 57 = .ok (.aload_n 0, 1) := by decide +kernel
theorem dX4_tell_58 : decode cX4_tell 58 = .ok (.getfield 32, 3) := by decide +kernel
theorem dX4_tell_61 : decode cX4_tell 61 = .ok (.i2l, 1) := by decide +kernel
theorem dX4_tell_62 : decode cX4_tell 62 = .ok (.lreturn, 1) := by decide +kernel
theorem dX4_tell_63 : decode cX4_tell 63 = .ok (.aload_n 0, 1) := by decide +kernel
theorem dX4_tell_64 : decode cX4_tell 64 = .ok (.getfield 35, 3) := by decide +kernel
theorem dX4_tell_67 : decode cX4_tell 67 = .ok (.i2l, 1) := by decide +kernel
theorem dX4_tell_68 : decode cX4_tell 68 = .ok (.lreturn, 1) := by decide +kernel
theorem dX4_tell_69 : decode cX4_tell 69 = .ok (.aload_n 0, 1) := by decide +kernel
theorem dX4_tell_70 : decode cX4_tell 70 = .ok (.getfield 38, 3) := by decide +kernel
theorem dX4_tell_73 : decode cX4_tell 73 = .ok (.i2l, 1) := by decide +kernel
theorem dX4_tell_74 : decode cX4_tell 74 = .ok (.lreturn, 1) := by decide +kernel
theorem dX4_tell_75 : decode cX4_tell 75 = .ok (.aload_n 0, 1) := by decide +kernel
theorem dX4_tell_76 : decode cX4_tell 76 = .ok (.invokevirtual 85, 3) := by decide +kernel
theorem dX4_tell_79 : decode cX4_tell 79 = .ok (.i2l, 1) := by decide +kernel
theorem dX4_tell_80 : decode cX4_tell 80 = .ok (.lreturn, 1) := by decide +kernel
theorem dX4_tell_81 : decode cX4_tell 81 = .ok (.ldc2_w 89, 3) := by decide +kernel
theorem dX4_tell_84 : decode cX4_tell 84 = .ok (.lreturn, 1) := by decide +kernel
theorem dX4_monthsWanting_0 : decode cX4_monthsWanting 0 = .ok (.iconst 0, 1) := by decide +kernel
theorem dX4_monthsWanting_1 : decode cX4_monthsWanting 1 = .ok (.istore_n 3, 1) := by decide +kernel
theorem dX4_monthsWanting_2 : decode cX4_monthsWanting 2 = .ok (.iconst 0, 1) := by decide +kernel
theorem dX4_monthsWanting_3 : decode cX4_monthsWanting 3 = .ok (.istore 4, 2) := by decide +kernel
theorem dX4_monthsWanting_5 : decode cX4_monthsWanting 5 = .ok (.iload 4, 2) := by decide +kernel
theorem dX4_monthsWanting_7 : decode cX4_monthsWanting 7 = .ok (.aload_n 0, 1) := by decide +kernel
theorem dX4_monthsWanting_8 : decode cX4_monthsWanting 8 = .ok (.getfield 25, 3) := by decide +kernel
theorem dX4_monthsWanting_11 : decode cX4_monthsWanting 11 = .ok (.if_icmp .ge 29, 3) := by decide +kernel
theorem dX4_monthsWanting_14 : decode cX4_monthsWanting 14 = .ok (.aload_n 1, 1) := by decide +kernel
theorem dX4_monthsWanting_15 : decode cX4_monthsWanting 15 = .ok (.getfield 91, 3) := by decide +kernel
theorem dX4_monthsWanting_18 : decode cX4_monthsWanting 18 = .ok (.iload_n 2, 1) := by decide +kernel
theorem dX4_monthsWanting_19 : decode cX4_monthsWanting 19 = .ok (.aaload, 1) := by decide +kernel
theorem dX4_monthsWanting_20 : decode cX4_monthsWanting 20 = .ok (.iload 4, 2) := by decide +kernel
theorem dX4_monthsWanting_22 : decode cX4_monthsWanting 22 = .ok (.bipush 12, 2) := by decide +kernel
theorem dX4_monthsWanting_24 : decode cX4_monthsWanting 24 = .ok (.irem, 1) := by decide +kernel
theorem dX4_monthsWanting_25 : decode cX4_monthsWanting 25 = .ok (.invokevirtual 95, 3) := by decide +kernel
theorem dX4_monthsWanting_28 : decode cX4_monthsWanting 28 = .ok (.ifCond .le 6, 3) := by decide +kernel
theorem dX4_monthsWanting_31 : decode cX4_monthsWanting 31 = .ok (.iinc 3 1, 3) := by decide +kernel
theorem dX4_monthsWanting_34 : decode cX4_monthsWanting 34 = .ok (.iinc 4 1, 3) := by decide +kernel
theorem dX4_monthsWanting_37 : decode cX4_monthsWanting 37 = .ok (.goto (-32), 3) := by decide +kernel
theorem dX4_monthsWanting_40 : decode cX4_monthsWanting 40 = .ok (.iload_n 3, 1) := by decide +kernel
theorem dX4_monthsWanting_41 : decode cX4_monthsWanting 41 = .ok (.ireturn, 1) := by decide +kernel
theorem dX4_monthsMet_0 : decode cX4_monthsMet 0 = .ok (.iconst 0, 1) := by decide +kernel
theorem dX4_monthsMet_1 : decode cX4_monthsMet 1 = .ok (.istore_n 3, 1) := by decide +kernel
theorem dX4_monthsMet_2 : decode cX4_monthsMet 2 = .ok (.iconst 0, 1) := by decide +kernel
theorem dX4_monthsMet_3 : decode cX4_monthsMet 3 = .ok (.istore 4, 2) := by decide +kernel
theorem dX4_monthsMet_5 : decode cX4_monthsMet 5 = .ok (.iload 4, 2) := by decide +kernel
theorem dX4_monthsMet_7 : decode cX4_monthsMet 7 = .ok (.aload_n 0, 1) := by decide +kernel
theorem dX4_monthsMet_8 : decode cX4_monthsMet 8 = .ok (.getfield 25, 3) := by decide +kernel
theorem dX4_monthsMet_11 : decode cX4_monthsMet 11 = .ok (.if_icmp .ge 55, 3) := by decide +kernel
theorem dX4_monthsMet_14 : decode cX4_monthsMet 14 = .ok (.aload_n 1, 1) := by decide +kernel
theorem dX4_monthsMet_15 : decode cX4_monthsMet 15 = .ok (.getfield 91, 3) := by decide +kernel
theorem dX4_monthsMet_18 : decode cX4_monthsMet 18 = .ok (.iload_n 2, 1) := by decide +kernel
theorem dX4_monthsMet_19 : decode cX4_monthsMet 19 = .ok (.aaload, 1) := by decide +kernel
theorem dX4_monthsMet_20 : decode cX4_monthsMet 20 = .ok (.iload 4, 2) := by decide +kernel
theorem dX4_monthsMet_22 : decode cX4_monthsMet 22 = .ok (.bipush 12, 2) := by decide +kernel
theorem dX4_monthsMet_24 : decode cX4_monthsMet 24 = .ok (.irem, 1) := by decide +kernel
theorem dX4_monthsMet_25 : decode cX4_monthsMet 25 = .ok (.invokevirtual 95, 3) := by decide +kernel
theorem dX4_monthsMet_28 : decode cX4_monthsMet 28 = .ok (.istore 5, 2) := by decide +kernel
theorem dX4_monthsMet_30 : decode cX4_monthsMet 30 = .ok (.iload 5, 2) := by decide +kernel
theorem dX4_monthsMet_32 : decode cX4_monthsMet 32 = .ok (.ifCond .le 28, 3) := by decide +kernel
theorem dX4_monthsMet_35 : decode cX4_monthsMet 35 = .ok (.aload_n 1, 1) := by decide +kernel
theorem dX4_monthsMet_36 : decode cX4_monthsMet 36 = .ok (.iload_n 2, 1) := by decide +kernel
theorem dX4_monthsMet_37 : decode cX4_monthsMet 37 = .ok (.iload 4, 2) := by decide +kernel
theorem dX4_monthsMet_39 : decode cX4_monthsMet 39 = .ok (.bipush 12, 2) := by decide +kernel
theorem dX4_monthsMet_41 : decode cX4_monthsMet 41 = .ok (.irem, 1) := by decide +kernel
theorem dX4_monthsMet_42 : decode cX4_monthsMet 42 = .ok (.aload_n 0, 1) := by decide +kernel
theorem dX4_monthsMet_43 : decode cX4_monthsMet 43 = .ok (.getfield 22, 3) := by decide +kernel
theorem dX4_monthsMet_46 : decode cX4_monthsMet 46 = .ok (.iload 4, 2) := by decide +kernel
theorem dX4_monthsMet_48 : decode cX4_monthsMet 48 = .ok (.iaload, 1) := by decide +kernel
theorem dX4_monthsMet_49 : decode cX4_monthsMet 49 = .ok (.invokevirtual 101, 3) := by decide +kernel
theorem dX4_monthsMet_52 : decode cX4_monthsMet 52 = .ok (.iload 5, 2) := by decide +kernel
theorem dX4_monthsMet_54 : decode cX4_monthsMet 54 = .ok (.if_icmp .ne 6, 3) := by decide +kernel
theorem dX4_monthsMet_57 : decode cX4_monthsMet 57 = .ok (.iinc 3 1, 3) := by decide +kernel
theorem dX4_monthsMet_60 : decode cX4_monthsMet 60 = .ok (.iinc 4 1, 3) := by decide +kernel
theorem dX4_monthsMet_63 : decode cX4_monthsMet 63 = .ok (.goto (-58), 3) := by decide +kernel
theorem dX4_monthsMet_66 : decode cX4_monthsMet 66 = .ok (.iload_n 3, 1) := by decide +kernel
theorem dX4_monthsMet_67 : decode cX4_monthsMet 67 = .ok (.ireturn, 1) := by decide +kernel
theorem dX5_init_0 : decode cX5_init 0 = .ok (.aload_n 0, 1) := by decide +kernel
theorem dX5_init_1 : decode cX5_init 1 = .ok (.invokespecial 3, 3) := by decide +kernel
theorem dX5_init_4 : decode cX5_init 4 = .ok (.aload_n 0, 1) := by decide +kernel
theorem dX5_init_5 : decode cX5_init 5 = .ok (.iconst 0, 1) := by decide +kernel
theorem dX5_init_6 : decode cX5_init 6 = .ok (.putfield 9, 3) := by decide +kernel
theorem dX5_init_9 : decode cX5_init 9 = .ok (.aload_n 0, 1) := by decide +kernel
theorem dX5_init_10 : decode cX5_init 10 = .ok (.iconst 0, 1) := by decide +kernel
theorem dX5_init_11 : decode cX5_init 11 = .ok (.putfield 15, 3) := by decide +kernel
theorem dX5_init_14 : decode cX5_init 14 = .ok (.aload_n 0, 1) := by decide +kernel
theorem dX5_init_15 : decode cX5_init 15 = .ok (.iconst 1, 1) := by decide +kernel
theorem dX5_init_16 : decode cX5_init 16 = .ok (.putfield 18, 3) := by decide +kernel
theorem dX5_init_19 : decode cX5_init 19 = .ok (.aload_n 0, 1) := by decide +kernel
theorem dX5_init_20 : decode cX5_init 20 = .ok (.iconst 0, 1) := by decide +kernel
theorem dX5_init_21 : decode cX5_init 21 = .ok (.putfield 21, 3) := by decide +kernel
theorem dX5_init_24 : decode cX5_init 24 = .ok (.aload_n 0, 1) := by decide +kernel
theorem dX5_init_25 : decode cX5_init 25 = .ok (.iconst 0, 1) := by decide +kernel
theorem dX5_init_26 : decode cX5_init 26 = .ok (.putfield 24, 3) := by decide +kernel
theorem dX5_init_29 : decode cX5_init 29 = .ok (.aload_n 0, 1) := by decide +kernel
theorem dX5_init_30 : decode cX5_init 30 = .ok (.iconst 0, 1) := by decide +kernel
theorem dX5_init_31 : decode cX5_init 31 = .ok (.putfield 27, 3) := by decide +kernel
theorem dX5_init_34 : decode cX5_init 34 = .ok (.return_, 1) := by decide +kernel
theorem dX5_copyFrom_0 : decode cX5_copyFrom 0 = .ok (.aload_n 0, 1) := by decide +kernel
theorem dX5_copyFrom_1 : decode cX5_copyFrom 1 = .ok (.aload_n 1, 1) := by decide +kernel
theorem dX5_copyFrom_2 : decode cX5_copyFrom 2 = .ok (.getfield 9, 3) := by decide +kernel
theorem dX5_copyFrom_5 : decode cX5_copyFrom 5 = .ok (.putfield 9, 3) := by decide +kernel
theorem dX5_copyFrom_8 : decode cX5_copyFrom 8 = .ok (.aload_n 0, 1) := by decide +kernel
theorem dX5_copyFrom_9 : decode cX5_copyFrom 9 = .ok (.aload_n 1, 1) := by decide +kernel
theorem dX5_copyFrom_10 : decode cX5_copyFrom 10 = .ok (.getfield 15, 3) := by decide +kernel
theorem dX5_copyFrom_13 : decode cX5_copyFrom 13 = .ok (.putfield 15, 3) := by decide +kernel
theorem dX5_copyFrom_16 : decode cX5_copyFrom 16 = .ok (.aload_n 0, 1) := by decide +kernel
theorem dX5_copyFrom_17 : decode cX5_copyFrom 17 = .ok (.aload_n 1, 1) := by decide +kernel
theorem dX5_copyFrom_18 : decode cX5_copyFrom 18 = .ok (.getfield 18, 3) := by decide +kernel
theorem dX5_copyFrom_21 : decode cX5_copyFrom 21 = .ok (.putfield 18, 3) := by decide +kernel
theorem dX5_copyFrom_24 : decode cX5_copyFrom 24 = .ok (.aload_n 0, 1) := by decide +kernel
theorem dX5_copyFrom_25 : decode cX5_copyFrom 25 = .ok (.aload_n 1, 1) := by decide +kernel
theorem dX5_copyFrom_26 : decode cX5_copyFrom 26 = .ok (.getfield 21, 3) := by decide +kernel
theorem dX5_copyFrom_29 : decode cX5_copyFrom 29 = .ok (.putfield 21, 3) := by decide +kernel
theorem dX5_copyFrom_32 : decode cX5_copyFrom 32 = .ok (.aload_n 0, 1) := by decide +kernel
theorem dX5_copyFrom_33 : decode cX5_copyFrom 33 = .ok (.aload_n 1, 1) := by decide +kernel
theorem dX5_copyFrom_34 : decode cX5_copyFrom 34 = .ok (.getfield 24, 3) := by decide +kernel
theorem dX5_copyFrom_37 : decode cX5_copyFrom 37 = .ok (.putfield 24, 3) := by decide +kernel
theorem dX5_copyFrom_40 : decode cX5_copyFrom 40 = .ok (.aload_n 0, 1) := by decide +kernel
theorem dX5_copyFrom_41 : decode cX5_copyFrom 41 = .ok (.aload_n 1, 1) := by decide +kernel
theorem dX5_copyFrom_42 : decode cX5_copyFrom 42 = .ok (.getfield 27, 3) := by decide +kernel
theorem dX5_copyFrom_45 : decode cX5_copyFrom 45 = .ok (.putfield 27, 3) := by decide +kernel
theorem dX5_copyFrom_48 : decode cX5_copyFrom 48 = .ok (.return_, 1) := by decide +kernel
theorem dX5_tell_0 : decode cX5_tell 0 = .ok (.iload_n 1, 1) := by decide +kernel
theorem dX5_tell_1 : decode cX5_tell 1 = .ok (.tableswitch 69 0 5 #[39, 44, 49, 54, 59, 64], 39) := by decide +kernel
theorem dX5_tell_40 : decode cX5_tell 40 = .ok (.aload_n 0, 1) := by decide +kernel
theorem dX5_tell_41 : decode cX5_tell 41 = .ok (.getfield 9, 3) := by decide +kernel
theorem dX5_tell_44 : decode cX5_tell 44 = .ok (.ireturn, 1) := by decide +kernel
theorem dX5_tell_45 : decode cX5_tell 45 = .ok (.aload_n 0, 1) := by decide +kernel
theorem dX5_tell_46 : decode cX5_tell 46 = .ok (.getfield 15, 3) := by decide +kernel
theorem dX5_tell_49 : decode cX5_tell 49 = .ok (.ireturn, 1) := by decide +kernel
theorem dX5_tell_50 : decode cX5_tell 50 = .ok (.aload_n 0, 1) := by decide +kernel
theorem dX5_tell_51 : decode cX5_tell 51 = .ok (.getfield 18, 3) := by decide +kernel
theorem dX5_tell_54 : decode cX5_tell 54 = .ok (.ireturn, 1) := by decide +kernel
theorem dX5_tell_55 : decode cX5_tell 55 = .ok (.aload_n 0, 1) := by decide +kernel
theorem dX5_tell_56 : decode cX5_tell 56 = .ok (.getfield 21, 3) := by decide +kernel
theorem dX5_tell_59 : decode cX5_tell 59 = .ok (.ireturn, 1) := by decide +kernel
theorem dX5_tell_60 : decode cX5_tell 60 = .ok (.aload_n 0, 1) := by decide +kernel
theorem dX5_tell_61 : decode cX5_tell 61 = .ok (.getfield 24, 3) := by decide +kernel
theorem dX5_tell_64 : decode cX5_tell 64 = .ok (.ireturn, 1) := by decide +kernel
theorem dX5_tell_65 : decode cX5_tell 65 = .ok (.aload_n 0, 1) := by decide +kernel
theorem dX5_tell_66 : decode cX5_tell 66 = .ok (.getfield 27, 3) := by decide +kernel
theorem dX5_tell_69 : decode cX5_tell 69 = .ok (.ireturn, 1) := by decide +kernel
theorem dX5_tell_70 : decode cX5_tell 70 = .ok (.iconst (-1), 1) := by decide +kernel
theorem dX5_tell_71 : decode cX5_tell 71 = .ok (.ireturn, 1) := by decide +kernel
theorem dX5_wantedIn_0 : decode cX5_wantedIn 0 = .ok (.aload_n 0, 1) := by decide +kernel
theorem dX5_wantedIn_1 : decode cX5_wantedIn 1 = .ok (.getfield 24, 3) := by decide +kernel
theorem dX5_wantedIn_4 : decode cX5_wantedIn 4 = .ok (.aload_n 0, 1) := by decide +kernel
theorem dX5_wantedIn_5 : decode cX5_wantedIn 5 = .ok (.getfield 27, 3) := by decide +kernel
theorem dX5_wantedIn_8 : decode cX5_wantedIn 8 = .ok (.if_icmp .gt 27, 3) := by decide +kernel
theorem dX5_wantedIn_11 : decode cX5_wantedIn 11 = .ok (.iload_n 1, 1) := by decide +kernel
theorem dX5_wantedIn_12 : decode cX5_wantedIn 12 = .ok (.aload_n 0, 1) := by decide +kernel
theorem dX5_wantedIn_13 : decode cX5_wantedIn 13 = .ok (.getfield 24, 3) := by decide +kernel
theorem dX5_wantedIn_16 : decode cX5_wantedIn 16 = .ok (.if_icmp .lt 15, 3) := by decide +kernel
theorem dX5_wantedIn_19 : decode cX5_wantedIn 19 = .ok (.iload_n 1, 1) := by decide +kernel
theorem dX5_wantedIn_20 : decode cX5_wantedIn 20 = .ok (.aload_n 0, 1) := by decide +kernel
theorem dX5_wantedIn_21 : decode cX5_wantedIn 21 = .ok (.getfield 27, 3) := by decide +kernel
theorem dX5_wantedIn_24 : decode cX5_wantedIn 24 = .ok (.if_icmp .gt 7, 3) := by decide +kernel
theorem dX5_wantedIn_27 : decode cX5_wantedIn 27 = .ok (.iconst 1, 1) := by decide +kernel
theorem dX5_wantedIn_28 : decode cX5_wantedIn 28 = .ok (.goto 28, 3) := by decide +kernel
theorem dX5_wantedIn_31 : decode cX5_wantedIn 31 = .ok (.iconst 0, 1) := by decide +kernel
theorem dX5_wantedIn_32 : decode cX5_wantedIn 32 = .ok (.goto 24, 3) := by decide +kernel
theorem dX5_wantedIn_35 : decode cX5_wantedIn 35 = .ok (.iload_n 1, 1) := by decide +kernel
theorem dX5_wantedIn_36 : decode cX5_wantedIn 36 = .ok (.aload_n 0, 1) := by decide +kernel
theorem dX5_wantedIn_37 : decode cX5_wantedIn 37 = .ok (.getfield 24, 3) := by decide +kernel
theorem dX5_wantedIn_40 : decode cX5_wantedIn 40 = .ok (.if_icmp .ge 11, 3) := by decide +kernel
theorem dX5_wantedIn_43 : decode cX5_wantedIn 43 = .ok (.iload_n 1, 1) := by decide +kernel
theorem dX5_wantedIn_44 : decode cX5_wantedIn 44 = .ok (.aload_n 0, 1) := by decide +kernel
theorem dX5_wantedIn_45 : decode cX5_wantedIn 45 = .ok (.getfield 27, 3) := by decide +kernel
theorem dX5_wantedIn_48 : decode cX5_wantedIn 48 = .ok (.if_icmp .gt 7, 3) := by decide +kernel
theorem dX5_wantedIn_51 : decode cX5_wantedIn 51 = .ok (.iconst 1, 1) := by decide +kernel
theorem dX5_wantedIn_52 : decode cX5_wantedIn 52 = .ok (.goto 4, 3) := by decide +kernel
theorem dX5_wantedIn_55 : decode cX5_wantedIn 55 = .ok (.iconst 0, 1) := by decide +kernel
theorem dX5_wantedIn_56 : decode cX5_wantedIn 56 = .ok (.istore_n 2, 1) := by decide +kernel
theorem dX5_wantedIn_57 : decode cX5_wantedIn 57 = .ok (.iload_n 2, 1) := by decide +kernel
theorem dX5_wantedIn_58 : decode cX5_wantedIn 58 = .ok (.ifCond .ne 5, 3) := by decide +kernel
theorem dX5_wantedIn_61 : decode cX5_wantedIn 61 = .ok (.iconst 0, 1) := by decide +kernel
theorem dX5_wantedIn_62 : decode cX5_wantedIn 62 = .ok (.ireturn, 1) := by decide +kernel
theorem dX5_wantedIn_63 : decode cX5_wantedIn 63 = .ok (.aload_n 0, 1) := by decide +kernel
theorem dX5_wantedIn_64 : decode cX5_wantedIn 64 = .ok (.getfield 9, 3) := by decide +kernel
theorem dX5_wantedIn_67 : decode cX5_wantedIn 67 = .ok (.iconst 2, 1) := by decide +kernel
theorem dX5_wantedIn_68 : decode cX5_wantedIn 68 = .ok (.if_icmp .ne 22, 3) := by decide +kernel
theorem dX5_wantedIn_71 : decode cX5_wantedIn 71 = .ok (.iload_n 1, 1) := by decide +kernel
theorem dX5_wantedIn_72 : decode cX5_wantedIn 72 = .ok (.iconst 5, 1) := by decide +kernel
theorem dX5_wantedIn_73 : decode cX5_wantedIn 73 = .ok (.bipush 8, 2) := by decide +kernel
theorem dX5_wantedIn_75 : decode cX5_wantedIn 75 = .ok (.invokestatic 30, 3) := by decide +kernel
theorem dX5_wantedIn_78 : decode cX5_wantedIn 78 = .ok (.ifCond .eq 12, 3) := by decide +kernel
theorem dX5_wantedIn_81 : decode cX5_wantedIn 81 = .ok (.iconst 2, 1) := by decide +kernel
theorem dX5_wantedIn_82 : decode cX5_wantedIn 82 = .ok (.aload_n 0, 1) := by decide +kernel
theorem dX5_wantedIn_83 : decode cX5_wantedIn 83 = .ok (.getfield 18, 3) := by decide +kernel
theorem dX5_wantedIn_86 : decode cX5_wantedIn 86 = .ok (.imul, 1) := by decide +kernel
theorem dX5_wantedIn_87 : decode cX5_wantedIn 87 = .ok (.goto 7, 3) := by decide +kernel
theorem dX5_wantedIn_90 : decode cX5_wantedIn 90 = .ok (.aload_n 0, 1) := by decide +kernel
theorem dX5_wantedIn_91 : decode cX5_wantedIn 91 = .ok (.getfield 18, 3) := by decide +kernel
theorem dX5_wantedIn_94 : decode cX5_wantedIn 94 = .ok (.ireturn, 1) := by decide +kernel
theorem dX5_gainOf_0 : decode cX5_gainOf 0 = .ok (.iload_n 1, 1) := by decide +kernel
theorem dX5_gainOf_1 : decode cX5_gainOf 1 = .ok (.aload_n 0, 1) := by decide +kernel
theorem dX5_gainOf_2 : decode cX5_gainOf 2 = .ok (.getfield 21, 3) := by decide +kernel
theorem dX5_gainOf_5 : decode cX5_gainOf 5 = .ok (.imul, 1) := by decide +kernel
theorem dX5_gainOf_6 : decode cX5_gainOf 6 = .ok (.istore_n 3, 1) := by decide +kernel
theorem dX5_gainOf_7 : decode cX5_gainOf 7 = .ok (.iload_n 3, 1) := by decide +kernel
theorem dX5_gainOf_8 : decode cX5_gainOf 8 = .ok (.iload_n 2, 1) := by decide +kernel
theorem dX5_gainOf_9 : decode cX5_gainOf 9 = .ok (.iload_n 1, 1) := by decide +kernel
theorem dX5_gainOf_10 : decode cX5_gainOf 10 = .ok (.isub, 1) := by decide +kernel
theorem dX5_gainOf_11 : decode cX5_gainOf 11 = .ok (.aload_n 0, 1) := by decide +kernel
theorem dX5_gainOf_12 : decode cX5_gainOf 12 = .ok (.getfield 21, 3) := by decide +kernel
theorem dX5_gainOf_15 : decode cX5_gainOf 15 = .ok (.imul, 1) := by decide +kernel
theorem dX5_gainOf_16 : decode cX5_gainOf 16 = .ok (.isub, 1) := by decide +kernel
theorem dX5_gainOf_17 : decode cX5_gainOf 17 = .ok (.istore 4, 2) := by decide +kernel
theorem dX5_gainOf_19 : decode cX5_gainOf 19 = .ok (.aload_n 0, 1) := by decide +kernel
theorem dX5_gainOf_20 : decode cX5_gainOf 20 = .ok (.getfield 9, 3) := by decide +kernel
theorem dX5_gainOf_23 : decode cX5_gainOf 23 = .ok (.tableswitch 62 1 4 #[29, 62, 32, 56], 29) := by decide +kernel
theorem dX5_gainOf_52 : decode cX5_gainOf 52 = .ok (.iload 4, 2) := by decide +kernel
theorem dX5_gainOf_54 : decode cX5_gainOf 54 = .ok (.ireturn, 1) := by decide +kernel
theorem dX5_gainOf_55 : decode cX5_gainOf 55 = .ok (.iload_n 2, 1) := by decide +kernel
theorem dX5_gainOf_56 : decode cX5_gainOf 56 = .ok (.ifCond .le 20, 3) := by decide +kernel
theorem dX5_gainOf_59 : decode cX5_gainOf 59 = .ok (.iload_n 1, 1) := by decide +kernel
theorem dX5_gainOf_60 : decode cX5_gainOf 60 = .ok (.iload_n 2, 1) := by decide +kernel
theorem dX5_gainOf_61 : decode cX5_gainOf 61 = .ok (.if_icmp .ne 15, 3) := by decide +kernel
theorem dX5_gainOf_64 : decode cX5_gainOf 64 = .ok (.iload 4, 2) := by decide +kernel
theorem dX5_gainOf_66 : decode cX5_gainOf 66 = .ok (.aload_n 0, 1) := by decide +kernel
theorem dX5_gainOf_67 : decode cX5_gainOf 67 = .ok (.getfield 21, 3) := by decide +kernel
theorem dX5_gainOf_70 : decode cX5_gainOf 70 = .ok (.iconst 2, 1) := by decide +kernel
theorem dX5_gainOf_71 : decode cX5_gainOf 71 = .ok (.idiv, 1) := by decide +kernel
theorem dX5_gainOf_72 : decode cX5_gainOf 72 = .ok (.iadd, 1) := by decide +kernel
theorem dX5_gainOf_73 : decode cX5_gainOf 73 = .ok (.goto 5, 3) := by decide +kernel
theorem dX5_gainOf_76 : decode cX5_gainOf 76 = .ok (.iload 4, 2) := by decide +kernel
theorem dX5_gainOf_78 : decode cX5_gainOf 78 = .ok (.ireturn, 1) := by decide +kernel
theorem dX5_gainOf_79 : decode cX5_gainOf 79 = .ok (.aload_n 0, 1) := by decide +kernel
theorem dX5_gainOf_80 : decode cX5_gainOf 80 = .ok (.iload_n 1, 1) := by decide +kernel
theorem dX5_gainOf_81 : decode cX5_gainOf 81 = .ok (.invokevirtual 34, 3) := by decide +kernel
theorem dX5_gainOf_84 : decode cX5_gainOf 84 = .ok (.ireturn, 1) := by decide +kernel
theorem dX5_gainOf_85 : decode cX5_gainOf 85 = .ok (.iload_n 3, 1) := by decide +kernel
theorem dX5_gainOf_86 : decode cX5_gainOf 86 = .ok (.ireturn, 1) := by decide +kernel
theorem dX5_trickleOf_0 : decode cX5_trickleOf 0 = .ok (.iconst 0, 1) := by decide +kernel
theorem dX5_trickleOf_1 : decode cX5_trickleOf 1 = .ok (.istore_n 2, 1) := by decide +kernel
theorem dX5_trickleOf_2 : decode cX5_trickleOf 2 = .ok (.aload_n 0, 1) := by decide +kernel
theorem dX5_trickleOf_3 : decode cX5_trickleOf 3 = .ok (.getfield 21, 3) := by decide +kernel
theorem dX5_trickleOf_6 : decode cX5_trickleOf 6 = .ok (.istore_n 3, 1) := by decide +kernel
theorem dX5_trickleOf_7 : decode cX5_trickleOf 7 = .ok (.iconst 0, 1) := by decide +kernel
theorem dX5_trickleOf_8 : decode cX5_trickleOf 8 = .ok (.istore 4, 2) := by decide +kernel
theorem dX5_trickleOf_10 : decode cX5_trickleOf 10 = .ok (.iload 4, 2) := by decide +kernel
theorem dX5_trickleOf_12 : decode cX5_trickleOf 12 = .ok (.iload_n 1, 1) := by decide +kernel
theorem dX5_trickleOf_13 : decode cX5_trickleOf 13 = .ok (.if_icmp .ge 21, 3) := by decide +kernel
theorem dX5_trickleOf_16 : decode cX5_trickleOf 16 = .ok (.iload_n 3, 1) := by decide +kernel
theorem dX5_trickleOf_17 : decode cX5_trickleOf 17 = .ok (.ifCond .le 17, 3) := by decide +kernel
theorem dX5_trickleOf_20 : decode cX5_trickleOf 20 = .ok (.iload_n 2, 1) := by decide +kernel
theorem dX5_trickleOf_21 : decode cX5_trickleOf 21 = .ok (.iload_n 3, 1) := by decide +kernel
theorem dX5_trickleOf_22 : decode cX5_trickleOf 22 = .ok (.iadd, 1) := by decide +kernel
theorem dX5_trickleOf_23 : decode cX5_trickleOf 23 = .ok (.istore_n 2, 1) := by decide +kernel
theorem dX5_trickleOf_24 : decode cX5_trickleOf 24 = .ok (.iload_n 3, 1) := by decide +kernel
theorem dX5_trickleOf_25 : decode cX5_trickleOf 25 = .ok (.iconst 2, 1) := by decide +kernel
theorem dX5_trickleOf_26 : decode cX5_trickleOf 26 = .ok (.idiv, 1) := by decide +kernel
theorem dX5_trickleOf_27 : decode cX5_trickleOf 27 = .ok (.istore_n 3, 1) := by decide +kernel
theorem dX5_trickleOf_28 : decode cX5_trickleOf 28 = .ok (.iinc 4 1, 3) := by decide +kernel
theorem dX5_trickleOf_31 : decode cX5_trickleOf 31 = .ok (.goto (-21), 3) := by decide +kernel
theorem dX5_trickleOf_34 : decode cX5_trickleOf 34 = .ok (.iload_n 2, 1) := by decide +kernel
theorem dX5_trickleOf_35 : decode cX5_trickleOf 35 = .ok (.ireturn, 1) := by decide +kernel
theorem dX6_init_0 : decode cX6_init 0 = .ok (.aload_n 0, 1) := by decide +kernel
theorem dX6_init_1 : decode cX6_init 1 = .ok (.invokespecial 3, 3) := by decide +kernel
theorem dX6_init_4 : decode cX6_init 4 = .ok (.aload_n 0, 1) := by decide +kernel
theorem dX6_init_5 : decode cX6_init 5 = .ok (.iconst 0, 1) := by decide +kernel
theorem dX6_init_6 : decode cX6_init 6 = .ok (.putfield 9, 3) := by decide +kernel
theorem dX6_init_9 : decode cX6_init 9 = .ok (.aload_n 0, 1) := by decide +kernel
theorem dX6_init_10 : decode cX6_init 10 = .ok (.iload_n 1, 1) := by decide +kernel
theorem dX6_init_11 : decode cX6_init 11 = .ok (.putfield 15, 3) := by decide +kernel
theorem dX6_init_14 : decode cX6_init 14 = .ok (.aload_n 0, 1) := by decide +kernel
theorem dX6_init_15 : decode cX6_init 15 = .ok (.iload_n 2, 1) := by decide +kernel
theorem dX6_init_16 : decode cX6_init 16 = .ok (.putfield 18, 3) := by decide +kernel
theorem dX6_init_19 : decode cX6_init 19 = .ok (.aload_n 0, 1) := by decide +kernel
theorem dX6_init_20 : decode cX6_init 20 = .ok (.iload_n 1, 1) := by decide +kernel
theorem dX6_init_21 : decode cX6_init 21 = .ok (.iload_n 2, 1) := by decide +kernel
theorem dX6_init_22 : decode cX6_init 22 = .ok (.imul, 1) := by decide +kernel
theorem dX6_init_23 : decode cX6_init 23 = .ok (.newarray .int, 2) := by decide +kernel
theorem dX6_init_25 : decode cX6_init 25 = .ok (.putfield 21, 3) := by decide +kernel
theorem dX6_init_28 : decode cX6_init 28 = .ok (.return_, 1) := by decide +kernel
theorem dX6_clear_0 : decode cX6_clear 0 = .ok (.aload_n 0, 1) := by decide +kernel
theorem dX6_clear_1 : decode cX6_clear 1 = .ok (.iconst 0, 1) := by decide +kernel
theorem dX6_clear_2 : decode cX6_clear 2 = .ok (.putfield 9, 3) := by decide +kernel
theorem dX6_clear_5 : decode cX6_clear 5 = .ok (.aload_n 0, 1) := by decide +kernel
theorem dX6_clear_6 : decode cX6_clear 6 = .ok (.getfield 9, 3) := by decide +kernel
theorem dX6_clear_9 : decode cX6_clear 9 = .ok (.ireturn, 1) := by decide +kernel
theorem dX6_add_0 : decode cX6_add 0 = .ok (.aload_n 0, 1) := by decide +kernel
theorem dX6_add_1 : decode cX6_add 1 = .ok (.iload_n 1, 1) := by decide +kernel
theorem dX6_add_2 : decode cX6_add 2 = .ok (.iconst 0, 1) := by decide +kernel
theorem dX6_add_3 : decode cX6_add 3 = .ok (.iconst 0, 1) := by decide +kernel
theorem dX6_add_4 : decode cX6_add 4 = .ok (.iconst 0, 1) := by decide +kernel
theorem dX6_add_5 : decode cX6_add 5 = .ok (.invokevirtual 25, 3) := by decide +kernel
theorem dX6_add_8 : decode cX6_add 8 = .ok (.ireturn, 1) := by decide +kernel
theorem dX6_add__0 : decode cX6_add_ 0 = .ok (.aload_n 0, 1) := by decide +kernel
theorem dX6_add__1 : decode cX6_add_ 1 = .ok (.iload_n 1, 1) := by decide +kernel
theorem dX6_add__2 : decode cX6_add_ 2 = .ok (.iload_n 2, 1) := by decide +kernel
theorem dX6_add__3 : decode cX6_add_ 3 = .ok (.iconst 0, 1) := by decide +kernel
theorem dX6_add__4 : decode cX6_add_ 4 = .ok (.iconst 0, 1) := by decide +kernel
theorem dX6_add__5 : decode cX6_add_ 5 = .ok (.invokevirtual 25, 3) := by decide +kernel
theorem dX6_add__8 : decode cX6_add_ 8 = .ok (.ireturn, 1) := by decide +kernel
theorem dX6_add___0 : decode cX6_add__ 0 = .ok (.aload_n 0, 1) := by decide +kernel
theorem dX6_add___1 : decode cX6_add__ 1 = .ok (.iload_n 1, 1) := by decide +kernel
theorem dX6_add___2 : decode cX6_add__ 2 = .ok (.iload_n 2, 1) := by decide +kernel
theorem dX6_add___3 : decode cX6_add__ 3 = .ok (.iload_n 3, 1) := by decide +kernel
theorem dX6_add___4 : decode cX6_add__ 4 = .ok (.iconst 0, 1) := by decide +kernel
theorem dX6_add___5 : decode cX6_add__ 5 = .ok (.invokevirtual 25, 3) := by decide +kernel
theorem dX6_add___8 : decode cX6_add__ 8 = .ok (.ireturn, 1) := by decide +kernel
theorem dX6_add____0 : decode cX6_add___ 0 = .ok (.aload_n 0, 1) := by decide +kernel
theorem dX6_add____1 : decode cX6_add___ 1 = .ok (.getfield 9, 3) := by decide +kernel
theorem dX6_add____4 : decode cX6_add___ 4 = .ok (.aload_n 0, 1) := by decide +kernel
theorem dX6_add____5 : decode cX6_add___ 5 = .ok (.getfield 18, 3) := by decide +kernel
theorem dX6_add____8 : decode cX6_add___ 8 = .ok (.if_icmp .lt 6, 3) := by decide +kernel
theorem dX6_add____11 : decode cX6_add___ 11 = .ok (.bipush (-4), 2) := by decide +kernel
theorem dX6_add____13 : decode cX6_add___ 13 = .ok (.ireturn, 1) := by decide +kernel
theorem dX6_add____14 : decode cX6_add___ 14 = .ok (.aload_n 0, 1) := by decide +kernel
theorem dX6_add____15 : decode cX6_add___ 15 = .ok (.dup, 1) := by decide +kernel
theorem dX6_add____16 : decode cX6_add___ 16 = .ok (.getfield 9, 3) := by decide +kernel
theorem dX6_add____19 : decode cX6_add___ 19 = .ok (.iconst 1, 1) := by decide +kernel
theorem dX6_add____20 : decode cX6_add___ 20 = .ok (.iadd, 1) := by decide +kernel
theorem dX6_add____21 : decode cX6_add___ 21 = .ok (.putfield 9, 3) := by decide +kernel
theorem dX6_add____24 : decode cX6_add___ 24 = .ok (.aload_n 0, 1) := by decide +kernel
theorem dX6_add____25 : decode cX6_add___ 25 = .ok (.iconst 0, 1) := by decide +kernel
theorem dX6_add____26 : decode cX6_add___ 26 = .ok (.iload_n 1, 1) := by decide +kernel
theorem dX6_add____27 : decode cX6_add___ 27 = .ok (.invokevirtual 29, 3) := by decide +kernel
theorem dX6_add____30 : decode cX6_add___ 30 = .ok (.aload_n 0, 1) := by decide +kernel
theorem dX6_add____31 : decode cX6_add___ 31 = .ok (.iconst 1, 1) := by decide +kernel
theorem dX6_add____32 : decode cX6_add___ 32 = .ok (.iload_n 2, 1) := by decide +kernel
theorem dX6_add____33 : decode cX6_add___ 33 = .ok (.invokevirtual 29, 3) := by decide +kernel
theorem dX6_add____36 : decode cX6_add___ 36 = .ok (.aload_n 0, 1) := by decide +kernel
theorem dX6_add____37 : decode cX6_add___ 37 = .ok (.iconst 2, 1) := by decide +kernel
theorem dX6_add____38 : decode cX6_add___ 38 = .ok (.iload_n 3, 1) := by decide +kernel
theorem dX6_add____39 : decode cX6_add___ 39 = .ok (.invokevirtual 29, 3) := by decide +kernel
theorem dX6_add____42 : decode cX6_add___ 42 = .ok (.aload_n 0, 1) := by decide +kernel
theorem dX6_add____43 : decode cX6_add___ 43 = .ok (.iconst 3, 1) := by decide +kernel
theorem dX6_add____44 : decode cX6_add___ 44 = .ok (.iload 4, 2) := by decide +kernel
theorem dX6_add____46 : decode cX6_add___ 46 = .ok (.invokevirtual 29, 3) := by decide +kernel
theorem dX6_add____49 : decode cX6_add___ 49 = .ok (.aload_n 0, 1) := by decide +kernel
theorem dX6_add____50 : decode cX6_add___ 50 = .ok (.getfield 9, 3) := by decide +kernel
theorem dX6_add____53 : decode cX6_add___ 53 = .ok (.ireturn, 1) := by decide +kernel
theorem dX6_setInLast_0 : decode cX6_setInLast 0 = .ok (.iload_n 1, 1) := by decide +kernel
theorem dX6_setInLast_1 : decode cX6_setInLast 1 = .ok (.aload_n 0, 1) := by decide +kernel
theorem dX6_setInLast_2 : decode cX6_setInLast 2 = .ok (.getfield 15, 3) := by decide +kernel
theorem dX6_setInLast_5 : decode cX6_setInLast 5 = .ok (.if_icmp .ge 22, 3) := by decide +kernel
theorem dX6_setInLast_8 : decode cX6_setInLast 8 = .ok (.aload_n 0, 1) := by decide +kernel
theorem dX6_setInLast_9 : decode cX6_setInLast 9 = .ok (.getfield 21, 3) := by decide +kernel
theorem dX6_setInLast_12 : decode cX6_setInLast 12 = .ok (.aload_n 0, 1) := by decide +kernel
theorem dX6_setInLast_13 : decode cX6_setInLast 13 = .ok (.getfield 9, 3) := by decide +kernel
theorem dX6_setInLast_16 : decode cX6_setInLast 16 = .ok (.iconst 1, 1) := by decide +kernel
theorem dX6_setInLast_17 : decode cX6_setInLast 17 = .ok (.isub, 1) := by decide +kernel
theorem dX6_setInLast_18 : decode cX6_setInLast 18 = .ok (.aload_n 0, 1) := by decide +kernel
theorem dX6_setInLast_19 : decode cX6_setInLast 19 = .ok (.getfield 15, 3) := by decide +kernel
theorem dX6_setInLast_22 : decode cX6_setInLast 22 = .ok (.imul, 1) := by decide +kernel
theorem dX6_setInLast_23 : decode cX6_setInLast 23 = .ok (.iload_n 1, 1) := by decide +kernel
theorem dX6_setInLast_24 : decode cX6_setInLast 24 = .ok (.iadd, 1) := by decide +kernel
theorem dX6_setInLast_25 : decode cX6_setInLast 25 = .ok (.iload_n 2, 1) := by decide +kernel
theorem dX6_setInLast_26 : decode cX6_setInLast 26 = .ok (.iastore, 1) := by decide +kernel
theorem dX6_setInLast_27 : decode cX6_setInLast 27 = .ok (.return_, 1) := by decide +kernel
theorem dX6_at_0 : decode cX6_at 0 = .ok (.iload_n 1, 1) := by decide +kernel
theorem dX6_at_1 : decode cX6_at 1 = .ok (.iconst 0, 1) := by decide +kernel
theorem dX6_at_2 : decode cX6_at 2 = .ok (.aload_n 0, 1) := by decide +kernel
theorem dX6_at_3 : decode cX6_at 3 = .ok (.getfield 9, 3) := by decide +kernel
theorem dX6_at_6 : decode cX6_at 6 = .ok (.iconst 1, 1) := by decide +kernel
theorem dX6_at_7 : decode cX6_at 7 = .ok (.isub, 1) := by decide +kernel
theorem dX6_at_8 : decode cX6_at 8 = .ok (.invokestatic 33, 3) := by decide +kernel
theorem dX6_at_11 : decode cX6_at 11 = .ok (.ifCond .eq 17, 3) := by decide +kernel
theorem dX6_at_14 : decode cX6_at 14 = .ok (.iload_n 2, 1) := by decide +kernel
theorem dX6_at_15 : decode cX6_at 15 = .ok (.iconst 0, 1) := by decide +kernel
theorem dX6_at_16 : decode cX6_at 16 = .ok (.aload_n 0, 1) := by decide +kernel
theorem dX6_at_17 : decode cX6_at 17 = .ok (.getfield 15, 3) := by decide +kernel
theorem dX6_at_20 : decode cX6_at 20 = .ok (.iconst 1, 1) := by decide +kernel
theorem dX6_at_21 : decode cX6_at 21 = .ok (.isub, 1) := by decide +kernel
theorem dX6_at_22 : decode cX6_at 22 = .ok (.invokestatic 33, 3) := by decide +kernel
theorem dX6_at_25 : decode cX6_at 25 = .ok (.ifCond .ne 5, 3) := by decide +kernel
theorem dX6_at_28 : decode cX6_at 28 = .ok (.iconst (-1), 1) := by decide +kernel
theorem dX6_at_29 : decode cX6_at 29 = .ok (.ireturn, 1) := by decide +kernel
theorem dX6_at_30 : decode cX6_at 30 = .ok (.aload_n 0, 1) := by decide +kernel
theorem dX6_at_31 : decode cX6_at 31 = .ok (.getfield 21, 3) := by decide +kernel
theorem dX6_at_34 : decode cX6_at 34 = .ok (.iload_n 1, 1) := by decide +kernel
theorem dX6_at_35 : decode cX6_at 35 = .ok (.aload_n 0, 1) := by decide +kernel
theorem dX6_at_36 : decode cX6_at 36 = .ok (.getfield 15, 3) := by decide +kernel
theorem dX6_at_39 : decode cX6_at 39 = .ok (.imul, 1) := by decide +kernel
theorem dX6_at_40 : decode cX6_at 40 = .ok (.iload_n 2, 1) := by decide +kernel
theorem dX6_at_41 : decode cX6_at 41 = .ok (.iadd, 1) := by decide +kernel
theorem dX6_at_42 : decode cX6_at 42 = .ok (.iaload, 1) := by decide +kernel
theorem dX6_at_43 : decode cX6_at 43 = .ok (.ireturn, 1) := by decide +kernel
theorem dX6_copyFrom_0 : decode cX6_copyFrom 0 = .ok (.aload_n 0, 1) := by decide +kernel
theorem dX6_copyFrom_1 : decode cX6_copyFrom 1 = .ok (.getfield 21, 3) := by decide +kernel
theorem dX6_copyFrom_4 : decode cX6_copyFrom 4 = .ok (.arraylength, 1) := by decide +kernel
theorem dX6_copyFrom_5 : decode cX6_copyFrom 5 = .ok (.aload_n 1, 1) := by decide +kernel
theorem dX6_copyFrom_6 : decode cX6_copyFrom 6 = .ok (.getfield 21, 3) := by decide +kernel
theorem dX6_copyFrom_9 : decode cX6_copyFrom 9 = .ok (.arraylength, 1) := by decide +kernel
theorem dX6_copyFrom_10 : decode cX6_copyFrom 10 = .ok (.invokestatic 37, 3) := by decide +kernel
theorem dX6_copyFrom_13 : decode cX6_copyFrom 13 = .ok (.istore_n 2, 1) := by decide +kernel
theorem dX6_copyFrom_14 : decode cX6_copyFrom 14 = .ok (.aload_n 1, 1) := by decide +kernel
theorem dX6_copyFrom_15 : decode cX6_copyFrom 15 = .ok (.getfield 21, 3) := by decide +kernel
theorem dX6_copyFrom_18 : decode cX6_copyFrom 18 = .ok (.iconst 0, 1) := by decide +kernel
theorem dX6_copyFrom_19 : decode cX6_copyFrom 19 = .ok (.aload_n 0, 1) := by decide +kernel
theorem dX6_copyFrom_20 : decode cX6_copyFrom 20 = .ok (.getfield 21, 3) := by decide +kernel
theorem dX6_copyFrom_23 : decode cX6_copyFrom 23 = .ok (.iconst 0, 1) := by decide +kernel
theorem dX6_copyFrom_24 : decode cX6_copyFrom 24 = .ok (.iload_n 2, 1) := by decide +kernel
theorem dX6_copyFrom_25 : decode cX6_copyFrom 25 = .ok (.invokestatic 43, 3) := by decide +kernel
theorem dX6_copyFrom_28 : decode cX6_copyFrom 28 = .ok (.aload_n 0, 1) := by decide +kernel
theorem dX6_copyFrom_29 : decode cX6_copyFrom 29 = .ok (.aload_n 1, 1) := by decide +kernel
theorem dX6_copyFrom_30 : decode cX6_copyFrom 30 = .ok (.getfield 9, 3) := by decide +kernel
theorem dX6_copyFrom_33 : decode cX6_copyFrom 33 = .ok (.aload_n 0, 1) := by decide +kernel
theorem dX6_copyFrom_34 : decode cX6_copyFrom 34 = .ok (.getfield 18, 3) := by decide +kernel
theorem dX6_copyFrom_37 : decode cX6_copyFrom 37 = .ok (.invokestatic 37, 3) := by decide +kernel
theorem dX6_copyFrom_40 : decode cX6_copyFrom 40 = .ok (.putfield 9, 3) := by decide +kernel
theorem dX6_copyFrom_43 : decode cX6_copyFrom 43 = .ok (.return_, 1) := by decide +kernel
theorem dX7_init_0 : decode cX7_init 0 = .ok (.aload_n 0, 1) := by decide +kernel
theorem dX7_init_1 : decode cX7_init 1 = .ok (.invokespecial 3, 3) := by decide +kernel
theorem dX7_init_4 : decode cX7_init 4 = .ok (.aload_n 0, 1) := by decide +kernel
theorem dX7_init_5 : decode cX7_init 5 = .ok (.iconst 0, 1) := by decide +kernel
theorem dX7_init_6 : decode cX7_init 6 = .ok (.putfield 9, 3) := by decide +kernel
theorem dX7_init_9 : decode cX7_init 9 = .ok (.aload_n 0, 1) := by decide +kernel
theorem dX7_init_10 : decode cX7_init 10 = .ok (.iconst 0, 1) := by decide +kernel
theorem dX7_init_11 : decode cX7_init 11 = .ok (.putfield 15, 3) := by decide +kernel
theorem dX7_init_14 : decode cX7_init 14 = .ok (.aload_n 0, 1) := by decide +kernel
theorem dX7_init_15 : decode cX7_init 15 = .ok (.iconst 0, 1) := by decide +kernel
theorem dX7_init_16 : decode cX7_init 16 = .ok (.putfield 18, 3) := by decide +kernel
theorem dX7_init_19 : decode cX7_init 19 = .ok (.aload_n 0, 1) := by decide +kernel
theorem dX7_init_20 : decode cX7_init 20 = .ok (.iconst 0, 1) := by decide +kernel
theorem dX7_init_21 : decode cX7_init 21 = .ok (.putfield 21, 3) := by decide +kernel
theorem dX7_init_24 : decode cX7_init 24 = .ok (.aload_n 0, 1) := by decide +kernel
theorem dX7_init_25 : decode cX7_init 25 = .ok (.iconst 0, 1) := by decide +kernel
theorem dX7_init_26 : decode cX7_init 26 = .ok (.putfield 24, 3) := by decide +kernel
theorem dX7_init_29 : decode cX7_init 29 = .ok (.aload_n 0, 1) := by decide +kernel
theorem dX7_init_30 : decode cX7_init 30 = .ok (.iconst 0, 1) := by decide +kernel
theorem dX7_init_31 : decode cX7_init 31 = .ok (.putfield 27, 3) := by decide +kernel
theorem dX7_init_34 : decode cX7_init 34 = .ok (.return_, 1) := by decide +kernel
theorem dX7_go_0 : decode cX7_go 0 = .ok (.aload_n 0, 1) := by decide +kernel
theorem dX7_go_1 : decode cX7_go 1 = .ok (.aload_n 1, 1) := by decide +kernel
theorem dX7_go_2 : decode cX7_go 2 = .ok (.iload_n 2, 1) := by decide +kernel
theorem dX7_go_3 : decode cX7_go 3 = .ok (.iload_n 3, 1) := by decide +kernel
theorem dX7_go_4 : decode cX7_go 4 = .ok (.invokevirtual 30, 3) := by decide +kernel
theorem dX7_go_7 : decode cX7_go 7 = .ok (.putfield 9, 3) := by decide +kernel
theorem dX7_go_10 : decode cX7_go 10 = .ok (.aload_n 0, 1) := by decide +kernel
theorem dX7_go_11 : decode cX7_go 11 = .ok (.iload_n 3, 1) := by decide +kernel
theorem dX7_go_12 : decode cX7_go 12 = .ok (.aload_n 0, 1) := by decide +kernel
theorem dX7_go_13 : decode cX7_go 13 = .ok (.getfield 9, 3) := by decide +kernel
theorem dX7_go_16 : decode cX7_go 16 = .ok (.isub, 1) := by decide +kernel
theorem dX7_go_17 : decode cX7_go 17 = .ok (.iload 4, 2) := by decide +kernel
theorem dX7_go_19 : decode cX7_go 19 = .ok (.iadd, 1) := by decide +kernel
theorem dX7_go_20 : decode cX7_go 20 = .ok (.putfield 15, 3) := by decide +kernel
theorem dX7_go_23 : decode cX7_go 23 = .ok (.aload_n 0, 1) := by decide +kernel
theorem dX7_go_24 : decode cX7_go 24 = .ok (.iload 5, 2) := by decide +kernel
theorem dX7_go_26 : decode cX7_go 26 = .ok (.aload_n 0, 1) := by decide +kernel
theorem dX7_go_27 : decode cX7_go 27 = .ok (.getfield 15, 3) := by decide +kernel
theorem dX7_go_30 : decode cX7_go 30 = .ok (.invokestatic 36, 3) := by decide +kernel
theorem dX7_go_33 : decode cX7_go 33 = .ok (.putfield 18, 3) := by decide +kernel
theorem dX7_go_36 : decode cX7_go 36 = .ok (.aload_n 0, 1) := by decide +kernel
theorem dX7_go_37 : decode cX7_go 37 = .ok (.getfield 15, 3) := by decide +kernel
theorem dX7_go_40 : decode cX7_go 40 = .ok (.aload_n 0, 1) := by decide +kernel
theorem dX7_go_41 : decode cX7_go 41 = .ok (.getfield 18, 3) := by decide +kernel
theorem dX7_go_44 : decode cX7_go 44 = .ok (.isub, 1) := by decide +kernel
theorem dX7_go_45 : decode cX7_go 45 = .ok (.istore 6, 2) := by decide +kernel
theorem dX7_go_47 : decode cX7_go 47 = .ok (.aload_n 0, 1) := by decide +kernel
theorem dX7_go_48 : decode cX7_go 48 = .ok (.iload 6, 2) := by decide +kernel
theorem dX7_go_50 : decode cX7_go 50 = .ok (.aload_n 1, 1) := by decide +kernel
theorem dX7_go_51 : decode cX7_go 51 = .ok (.iload_n 2, 1) := by decide +kernel
theorem dX7_go_52 : decode cX7_go 52 = .ok (.invokevirtual 41, 3) := by decide +kernel
theorem dX7_go_55 : decode cX7_go 55 = .ok (.invokestatic 36, 3) := by decide +kernel
theorem dX7_go_58 : decode cX7_go 58 = .ok (.putfield 24, 3) := by decide +kernel
theorem dX7_go_61 : decode cX7_go 61 = .ok (.aload_n 0, 1) := by decide +kernel
theorem dX7_go_62 : decode cX7_go 62 = .ok (.iload 6, 2) := by decide +kernel
theorem dX7_go_64 : decode cX7_go 64 = .ok (.aload_n 0, 1) := by decide +kernel
theorem dX7_go_65 : decode cX7_go 65 = .ok (.getfield 24, 3) := by decide +kernel
theorem dX7_go_68 : decode cX7_go 68 = .ok (.isub, 1) := by decide +kernel
theorem dX7_go_69 : decode cX7_go 69 = .ok (.putfield 21, 3) := by decide +kernel
theorem dX7_go_72 : decode cX7_go 72 = .ok (.aload_n 0, 1) := by decide +kernel
theorem dX7_go_73 : decode cX7_go 73 = .ok (.aload_n 1, 1) := by decide +kernel
theorem dX7_go_74 : decode cX7_go 74 = .ok (.iload_n 2, 1) := by decide +kernel
theorem dX7_go_75 : decode cX7_go 75 = .ok (.aload_n 0, 1) := by decide +kernel
theorem dX7_go_76 : decode cX7_go 76 = .ok (.getfield 18, 3) := by decide +kernel
theorem dX7_go_79 : decode cX7_go 79 = .ok (.invokevirtual 45, 3) := by decide +kernel
theorem dX7_go_82 : decode cX7_go 82 = .ok (.aload_n 1, 1) := by decide +kernel
theorem dX7_go_83 : decode cX7_go 83 = .ok (.getfield 48, 3) := by decide +kernel
theorem dX7_go_86 : decode cX7_go 86 = .ok (.aload_n 0, 1) := by decide +kernel
theorem dX7_go_87 : decode cX7_go 87 = .ok (.getfield 21, 3) := by decide +kernel
theorem dX7_go_90 : decode cX7_go 90 = .ok (.imul, 1) := by decide +kernel
theorem dX7_go_91 : decode cX7_go 91 = .ok (.isub, 1) := by decide +kernel
theorem dX7_go_92 : decode cX7_go 92 = .ok (.putfield 27, 3) := by decide +kernel
theorem dX7_go_95 : decode cX7_go 95 = .ok (.return_, 1) := by decide +kernel
theorem dX7_tell_0 : decode cX7_tell 0 = .ok (.iload_n 1, 1) := by decide +kernel
theorem dX7_tell_1 : decode cX7_tell 1 = .ok (.tableswitch 75 0 5 #[39, 45, 51, 57, 63, 69], 39) := by decide +kernel
theorem dX7_tell_40 : decode cX7_tell 40 = .ok (.aload_n 0, 1) := by decide +kernel
theorem dX7_tell_41 : decode cX7_tell 41 = .ok (.getfield 9, 3) := by decide +kernel
theorem dX7_tell_44 : decode cX7_tell 44 = .ok (.i2l, 1) := by decide +kernel
theorem dX7_tell_45 : decode cX7_tell 45 = .ok (.lreturn, 1) := by decide +kernel
theorem dX7_tell_46 : decode cX7_tell 46 = .ok (.aload_n 0, 1) := by decide +kernel
theorem dX7_tell_47 : decode cX7_tell 47 = .ok (.getfield 15, 3) := by decide +kernel
theorem dX7_tell_50 : decode cX7_tell 50 = .ok (.i2l, 1) := by decide +kernel
theorem dX7_tell_51 : decode cX7_tell 51 = .ok (.lreturn, 1) := by decide +kernel
theorem dX7_tell_52 : decode cX7_tell 52 = .ok (.aload_n 0, 1) := by decide +kernel
theorem dX7_tell_53 : decode cX7_tell 53 = .ok (.getfield 18, 3) := by decide +kernel
theorem dX7_tell_56 : decode cX7_tell 56 = .ok (.i2l, 1) := by decide +kernel
theorem dX7_tell_57 : decode cX7_tell 57 = .ok (.lreturn, 1) := by decide +kernel
theorem dX7_tell_58 : decode cX7_tell 58 = .ok (.aload_n 0, 1) := by decide +kernel
theorem dX7_tell_59 : decode cX7_tell 59 = .ok (.getfield 21, 3) := by decide +kernel
theorem dX7_tell_62 : decode cX7_tell 62 = .ok (.i2l, 1) := by decide +kernel
theorem dX7_tell_63 : decode cX7_tell 63 = .ok (.lreturn, 1) := by decide +kernel
theorem dX7_tell_64 : decode cX7_tell 64 = .ok (.aload_n 0, 1) := by decide +kernel
theorem dX7_tell_65 : decode cX7_tell 65 = .ok (.getfield 24, 3) := by decide +kernel
theorem dX7_tell_68 : decode cX7_tell 68 = .ok (.i2l, 1) := by decide +kernel
theorem dX7_tell_69 : decode cX7_tell 69 = .ok (.lreturn, 1) := by decide +kernel
theorem dX7_tell_70 : decode cX7_tell 70 = .ok (.aload_n 0, 1) := by decide +kernel
theorem dX7_tell_71 : decode cX7_tell 71 = .ok (.getfield 27, 3) := by decide +kernel
theorem dX7_tell_74 : decode cX7_tell 74 = .ok (.i2l, 1) := by decide +kernel
theorem dX7_tell_75 : decode cX7_tell 75 = .ok (.lreturn, 1) := by decide +kernel
theorem dX7_tell_76 : decode cX7_tell 76 = .ok (.ldc2_w 51, 3) := by decide +kernel
theorem dX7_tell_79 : decode cX7_tell 79 = .ok (.lreturn, 1) := by decide +kernel
theorem dX8_init_0 : decode cX8_init 0 = .ok (.aload_n 0, 1) := by decide +kernel
theorem dX8_init_1 : decode cX8_init 1 = .ok (.invokespecial 3, 3) := by decide +kernel
theorem dX8_init_4 : decode cX8_init 4 = .ok (.aload_n 0, 1) := by decide +kernel
theorem dX8_init_5 : decode cX8_init 5 = .ok (.new 9, 3) := by decide +kernel
theorem dX8_init_8 : decode cX8_init 8 = .ok (.dup, 1) := by decide +kernel
theorem dX8_init_9 : decode cX8_init 9 = .ok (.invokespecial 11, 3) := by decide +kernel
theorem dX8_init_12 : decode cX8_init 12 = .ok (.putfield 12, 3) := by decide +kernel
theorem dX8_init_15 : decode cX8_init 15 = .ok (.aload_n 0, 1) := by decide +kernel
theorem dX8_init_16 : decode cX8_init 16 = .ok (.new 18, 3) := by decide +kernel
theorem dX8_init_19 : decode cX8_init 19 = .ok (.dup, 1) := by decide +kernel
theorem dX8_init_20 : decode cX8_init 20 = .ok (.iconst 4, 1) := by decide +kernel
theorem dX8_init_21 : decode cX8_init 21 = .ok (.iconst 5, 1) := by decide +kernel
theorem dX8_init_22 : decode cX8_init 22 = .ok (.invokespecial 20, 3) := by decide +kernel
theorem dX8_init_25 : decode cX8_init 25 = .ok (.putfield 23, 3) := by decide +kernel
theorem dX8_init_28 : decode cX8_init 28 = .ok (.aload_n 0, 1) := by decide +kernel
theorem dX8_init_29 : decode cX8_init 29 = .ok (.new 18, 3) := by decide +kernel
theorem dX8_init_32 : decode cX8_init 32 = .ok (.dup, 1) := by decide +kernel
theorem dX8_init_33 : decode cX8_init 33 = .ok (.iconst 2, 1) := by decide +kernel
theorem dX8_init_34 : decode cX8_init 34 = .ok (.bipush 8, 2) := by decide +kernel
theorem dX8_init_36 : decode cX8_init 36 = .ok (.invokespecial 20, 3) := by decide +kernel
theorem dX8_init_39 : decode cX8_init 39 = .ok (.putfield 27, 3) := by decide +kernel
theorem dX8_init_42 : decode cX8_init 42 = .ok (.aload_n 0, 1) := by decide +kernel
theorem dX8_init_43 : decode cX8_init 43 = .ok (.new 18, 3) := by decide +kernel
theorem dX8_init_46 : decode cX8_init 46 = .ok (.dup, 1) := by decide +kernel
theorem dX8_init_47 : decode cX8_init 47 = .ok (.iconst 3, 1) := by decide +kernel
theorem dX8_init_48 : decode cX8_init 48 = .ok (.bipush 8, 2) := by decide +kernel
theorem dX8_init_50 : decode cX8_init 50 = .ok (.invokespecial 20, 3) := by decide +kernel
theorem dX8_init_53 : decode cX8_init 53 = .ok (.putfield 30, 3) := by decide +kernel
theorem dX8_init_56 : decode cX8_init 56 = .ok (.return_, 1) := by decide +kernel
theorem dX8_copyFrom_0 : decode cX8_copyFrom 0 = .ok (.aload_n 0, 1) := by decide +kernel
theorem dX8_copyFrom_1 : decode cX8_copyFrom 1 = .ok (.getfield 12, 3) := by decide +kernel
theorem dX8_copyFrom_4 : decode cX8_copyFrom 4 = .ok (.aload_n 1, 1) := by decide +kernel
theorem dX8_copyFrom_5 : decode cX8_copyFrom 5 = .ok (.getfield 12, 3) := by decide +kernel
theorem dX8_copyFrom_8 : decode cX8_copyFrom 8 = .ok (.invokevirtual 33, 3) := by decide +kernel
theorem dX8_copyFrom_11 : decode cX8_copyFrom 11 = .ok (.aload_n 0, 1) := by decide +kernel
theorem dX8_copyFrom_12 : decode cX8_copyFrom 12 = .ok (.getfield 23, 3) := by decide +kernel
theorem dX8_copyFrom_15 : decode cX8_copyFrom 15 = .ok (.aload_n 1, 1) := by decide +kernel
theorem dX8_copyFrom_16 : decode cX8_copyFrom 16 = .ok (.getfield 23, 3) := by decide +kernel
theorem dX8_copyFrom_19 : decode cX8_copyFrom 19 = .ok (.invokevirtual 37, 3) := by decide +kernel
theorem dX8_copyFrom_22 : decode cX8_copyFrom 22 = .ok (.aload_n 0, 1) := by decide +kernel
theorem dX8_copyFrom_23 : decode cX8_copyFrom 23 = .ok (.getfield 27, 3) := by decide +kernel
theorem dX8_copyFrom_26 : decode cX8_copyFrom 26 = .ok (.aload_n 1, 1) := by decide +kernel
theorem dX8_copyFrom_27 : decode cX8_copyFrom 27 = .ok (.getfield 27, 3) := by decide +kernel
theorem dX8_copyFrom_30 : decode cX8_copyFrom 30 = .ok (.invokevirtual 37, 3) := by decide +kernel
theorem dX8_copyFrom_33 : decode cX8_copyFrom 33 = .ok (.aload_n 0, 1) := by decide +kernel
theorem dX8_copyFrom_34 : decode cX8_copyFrom 34 = .ok (.getfield 30, 3) := by decide +kernel
theorem dX8_copyFrom_37 : decode cX8_copyFrom 37 = .ok (.aload_n 1, 1) := by decide +kernel
theorem dX8_copyFrom_38 : decode cX8_copyFrom 38 = .ok (.getfield 30, 3) := by decide +kernel
theorem dX8_copyFrom_41 : decode cX8_copyFrom 41 = .ok (.invokevirtual 37, 3) := by decide +kernel
theorem dX8_copyFrom_44 : decode cX8_copyFrom 44 = .ok (.return_, 1) := by decide +kernel
theorem dX9_init_0 : decode cX9_init 0 = .ok (.aload_n 0, 1) := by decide +kernel
theorem dX9_init_1 : decode cX9_init 1 = .ok (.invokespecial 3, 3) := by decide +kernel
theorem dX9_init_4 : decode cX9_init 4 = .ok (.aload_n 0, 1) := by decide +kernel
theorem dX9_init_5 : decode cX9_init 5 = .ok (.iconst (-1), 1) := by decide +kernel
theorem dX9_init_6 : decode cX9_init 6 = .ok (.putfield 9, 3) := by decide +kernel
theorem dX9_init_9 : decode cX9_init 9 = .ok (.aload_n 0, 1) := by decide +kernel
theorem dX9_init_10 : decode cX9_init 10 = .ok (.iconst 0, 1) := by decide +kernel
theorem dX9_init_11 : decode cX9_init 11 = .ok (.putfield 15, 3) := by decide +kernel
theorem dX9_init_14 : decode cX9_init 14 = .ok (.aload_n 0, 1) := by decide +kernel
theorem dX9_init_15 : decode cX9_init 15 = .ok (.bipush 60, 2) := by decide +kernel
theorem dX9_init_17 : decode cX9_init 17 = .ok (.newarray .long, 2) := by decide +kernel
theorem dX9_init_19 : decode cX9_init 19 = .ok (.putfield 18, 3) := by decide +kernel
theorem dX9_init_22 : decode cX9_init 22 = .ok (.return_, 1) := by decide +kernel
theorem dX9_become_0 : decode cX9_become 0 = .ok (.aload_n 0, 1) := by decide +kernel
theorem dX9_become_1 : decode cX9_become 1 = .ok (.iload_n 1, 1) := by decide +kernel
theorem dX9_become_2 : decode cX9_become 2 = .ok (.putfield 9, 3) := by decide +kernel
theorem dX9_become_5 : decode cX9_become 5 = .ok (.aload_n 0, 1) := by decide +kernel
theorem dX9_become_6 : decode cX9_become 6 = .ok (.iload_n 2, 1) := by decide +kernel
theorem dX9_become_7 : decode cX9_become 7 = .ok (.putfield 15, 3) := by decide +kernel
theorem dX9_become_10 : decode cX9_become 10 = .ok (.iconst 0, 1) := by decide +kernel
theorem dX9_become_11 : decode cX9_become 11 = .ok (.istore_n 3, 1) := by decide +kernel
theorem dX9_become_12 : decode cX9_become 12 = .ok (.iload_n 3, 1) := by decide +kernel
theorem dX9_become_13 : decode cX9_become 13 = .ok (.bipush 60, 2) := by decide +kernel
theorem dX9_become_15 : decode cX9_become 15 = .ok (.if_icmp .ge 16, 3) := by decide +kernel
theorem dX9_become_18 : decode cX9_become 18 = .ok (.aload_n 0, 1) := by decide +kernel
theorem dX9_become_19 : decode cX9_become 19 = .ok (.getfield 18, 3) := by decide +kernel
theorem dX9_become_22 : decode cX9_become 22 = .ok (.iload_n 3, 1) := by decide +kernel
theorem dX9_become_23 : decode cX9_become 23 = .ok (.lconst 0, 1) := by decide +kernel
theorem dX9_become_24 : decode cX9_become 24 = .ok (.lastore, 1) := by decide +kernel
theorem dX9_become_25 : decode cX9_become 25 = .ok (.iinc 3 1, 3) := by decide +kernel
theorem dX9_become_28 : decode cX9_become 28 = .ok (.goto (-16), 3) := by decide +kernel
theorem dX9_become_31 : decode cX9_become 31 = .ok (.return_, 1) := by decide +kernel
theorem dX9_hasPlace_0 : decode cX9_hasPlace 0 = .ok (.iload_n 1, 1) := by decide +kernel
theorem dX9_hasPlace_1 : decode cX9_hasPlace 1 = .ok (.iconst 0, 1) := by decide +kernel
theorem dX9_hasPlace_2 : decode cX9_hasPlace 2 = .ok (.aload_n 0, 1) := by decide +kernel
theorem dX9_hasPlace_3 : decode cX9_hasPlace 3 = .ok (.getfield 15, 3) := by decide +kernel
theorem dX9_hasPlace_6 : decode cX9_hasPlace 6 = .ok (.iconst 1, 1) := by decide +kernel
theorem dX9_hasPlace_7 : decode cX9_hasPlace 7 = .ok (.isub, 1) := by decide +kernel
theorem dX9_hasPlace_8 : decode cX9_hasPlace 8 = .ok (.invokestatic 22, 3) := by decide +kernel
theorem dX9_hasPlace_11 : decode cX9_hasPlace 11 = .ok (.ireturn, 1) := by decide +kernel
theorem dX9_hasRange_0 : decode cX9_hasRange 0 = .ok (.iload_n 1, 1) := by decide +kernel
theorem dX9_hasRange_1 : decode cX9_hasRange 1 = .ok (.ifCond .lt 21, 3) := by decide +kernel
theorem dX9_hasRange_4 : decode cX9_hasRange 4 = .ok (.iload_n 2, 1) := by decide +kernel
theorem dX9_hasRange_5 : decode cX9_hasRange 5 = .ok (.ifCond .lt 17, 3) := by decide +kernel
theorem dX9_hasRange_8 : decode cX9_hasRange 8 = .ok (.iload_n 2, 1) := by decide +kernel
theorem dX9_hasRange_9 : decode cX9_hasRange 9 = .ok (.aload_n 0, 1) := by decide +kernel
theorem dX9_hasRange_10 : decode cX9_hasRange 10 = .ok (.getfield 15, 3) := by decide +kernel
theorem dX9_hasRange_13 : decode cX9_hasRange 13 = .ok (.iload_n 1, 1) := by decide +kernel
theorem dX9_hasRange_14 : decode cX9_hasRange 14 = .ok (.isub, 1) := by decide +kernel
theorem dX9_hasRange_15 : decode cX9_hasRange 15 = .ok (.if_icmp .gt 7, 3) := by decide +kernel
theorem dX9_hasRange_18 : decode cX9_hasRange 18 = .ok (.iconst 1, 1) := by decide +kernel
theorem dX9_hasRange_19 : decode cX9_hasRange 19 = .ok (.goto 4, 3) := by decide +kernel
theorem dX9_hasRange_22 : decode cX9_hasRange 22 = .ok (.iconst 0, 1) := by decide +kernel
theorem dX9_hasRange_23 : decode cX9_hasRange 23 = .ok (.ireturn, 1) := by decide +kernel
theorem dX9_asItem_0 : decode cX9_asItem 0 = .ok (.aload_n 0, 1) := by decide +kernel
theorem dX9_asItem_1 : decode cX9_asItem 1 = .ok (.getfield 9, 3) := by decide +kernel
theorem dX9_asItem_4 : decode cX9_asItem 4 = .ok (.tableswitch 48 0 3 #[32, 37, 42, 46], 32) := by decide +kernel
theorem dX9_asItem_36 : decode cX9_asItem 36 = .ok (.lload_n 1, 1) := by decide +kernel
theorem dX9_asItem_37 : decode cX9_asItem 37 = .ok (.l2i, 1) := by decide +kernel
theorem dX9_asItem_38 : decode cX9_asItem 38 = .ok (.i2b, 1) := by decide +kernel
theorem dX9_asItem_39 : decode cX9_asItem 39 = .ok (.i2l, 1) := by decide +kernel
theorem dX9_asItem_40 : decode cX9_asItem 40 = .ok (.lreturn, 1) := by decide +kernel
theorem dX9_asItem_41 : decode cX9_asItem 41 = .ok (.lload_n 1, 1) := by decide +kernel
theorem dX9_asItem_42 : decode cX9_asItem 42 = .ok (.l2i, 1) := by decide +kernel
theorem dX9_asItem_43 : decode cX9_asItem 43 = .ok (.i2s, 1) := by decide +kernel
theorem dX9_asItem_44 : decode cX9_asItem 44 = .ok (.i2l, 1) := by decide +kernel
theorem dX9_asItem_45 : decode cX9_asItem 45 = .ok (.lreturn, 1) := by decide +kernel
theorem dX9_asItem_46 : decode cX9_asItem 46 = .ok (.lload_n 1, 1) := by decide +kernel
theorem dX9_asItem_47 : decode cX9_asItem 47 = .ok (.l2i, 1) := by decide +kernel
theorem dX9_asItem_48 : decode cX9_asItem 48 = .ok (.i2l, 1) := by decide +kernel
theorem dX9_asItem_49 : decode cX9_asItem 49 = .ok (.lreturn, 1) := by decide +kernel
theorem dX9_asItem_50 : decode cX9_asItem 50 = .ok (.lload_n 1, 1) := by decide +kernel
theorem dX9_asItem_51 : decode cX9_asItem 51 = .ok (.lreturn, 1) := by decide +kernel
theorem dX9_asItem_52 : decode cX9_asItem 52 = .ok (.lload_n 1, 1) := by decide +kernel
theorem dX9_asItem_53 : decode cX9_asItem 53 = .ok (.lconst 0, 1) := by decide +kernel
theorem dX9_asItem_54 : decode cX9_asItem 54 = .ok (.lcmp, 1) := by decide +kernel
theorem dX9_asItem_55 : decode cX9_asItem 55 = .ok (.ifCond .eq 7, 3) := by decide +kernel
theorem dX9_asItem_58 : decode cX9_asItem 58 = .ok (.lconst 1, 1) := by decide +kernel
theorem dX9_asItem_59 : decode cX9_asItem 59 = .ok (.goto 4, 3) := by decide +kernel
theorem dX9_asItem_62 : decode cX9_asItem 62 = .ok (.lconst 0, 1) := by decide +kernel
theorem dX9_asItem_63 : decode cX9_asItem 63 = .ok (.lreturn, 1) := by decide +kernel
theorem dX10_init_0 : decode cX10_init 0 = .ok (.aload_n 0, 1) := by decide +kernel
theorem dX10_init_1 : decode cX10_init 1 = .ok (.invokespecial 5, 3) := by decide +kernel
theorem dX10_init_4 : decode cX10_init 4 = .ok (.aload_n 0, 1) := by decide +kernel
theorem dX10_init_5 : decode cX10_init 5 = .ok (.new 11, 3) := by decide +kernel
theorem dX10_init_8 : decode cX10_init 8 = .ok (.dup, 1) := by decide +kernel
theorem dX10_init_9 : decode cX10_init 9 = .ok (.invokespecial 13, 3) := by decide +kernel
theorem dX10_init_12 : decode cX10_init 12 = .ok (.putfield 14, 3) := by decide +kernel
theorem dX10_init_15 : decode cX10_init 15 = .ok (.aload_n 0, 1) := by decide +kernel
theorem dX10_init_16 : decode cX10_init 16 = .ok (.new 11, 3) := by decide +kernel
theorem dX10_init_19 : decode cX10_init 19 = .ok (.dup, 1) := by decide +kernel
theorem dX10_init_20 : decode cX10_init 20 = .ok (.invokespecial 13, 3) := by decide +kernel
theorem dX10_init_23 : decode cX10_init 23 = .ok (.putfield 18, 3) := by decide +kernel
theorem dX10_init_26 : decode cX10_init 26 = .ok (.aload_n 0, 1) := by decide +kernel
theorem dX10_init_27 : decode cX10_init 27 = .ok (.iconst 0, 1) := by decide +kernel
theorem dX10_init_28 : decode cX10_init 28 = .ok (.putfield 21, 3) := by decide +kernel
theorem dX10_init_31 : decode cX10_init 31 = .ok (.aload_n 0, 1) := by decide +kernel
theorem dX10_init_32 : decode cX10_init 32 = .ok (.new 25, 3) := by decide +kernel
theorem dX10_init_35 : decode cX10_init 35 = .ok (.dup, 1) := by decide +kernel
theorem dX10_init_36 : decode cX10_init 36 = .ok (.invokespecial 27, 3) := by decide +kernel
theorem dX10_init_39 : decode cX10_init 39 = .ok (.putfield 28, 3) := by decide +kernel
theorem dX10_init_42 : decode cX10_init 42 = .ok (.aload_n 0, 1) := by decide +kernel
theorem dX10_init_43 : decode cX10_init 43 = .ok (.new 32, 3) := by decide +kernel
theorem dX10_init_46 : decode cX10_init 46 = .ok (.dup, 1) := by decide +kernel
theorem dX10_init_47 : decode cX10_init 47 = .ok (.invokespecial 34, 3) := by decide +kernel
theorem dX10_init_50 : decode cX10_init 50 = .ok (.putfield 35, 3) := by decide +kernel
theorem dX10_init_53 : decode cX10_init 53 = .ok (.aload_n 0, 1) := by decide +kernel
theorem dX10_init_54 : decode cX10_init 54 = .ok (.new 32, 3) := by decide +kernel
theorem dX10_init_57 : decode cX10_init 57 = .ok (.dup, 1) := by decide +kernel
theorem dX10_init_58 : decode cX10_init 58 = .ok (.invokespecial 34, 3) := by decide +kernel
theorem dX10_init_61 : decode cX10_init 61 = .ok (.putfield 39, 3) := by decide +kernel
theorem dX10_init_64 : decode cX10_init 64 = .ok (.aload_n 0, 1) := by decide +kernel
theorem dX10_init_65 : decode cX10_init 65 = .ok (.iconst 0, 1) := by decide +kernel
theorem dX10_init_66 : decode cX10_init 66 = .ok (.putfield 42, 3) := by decide +kernel
theorem dX10_init_69 : decode cX10_init 69 = .ok (.aload_n 0, 1) := by decide +kernel
theorem dX10_init_70 : decode cX10_init 70 = .ok (.iconst 0, 1) := by decide +kernel
theorem dX10_init_71 : decode cX10_init 71 = .ok (.putfield 45, 3) := by decide +kernel
theorem dX10_init_74 : decode cX10_init 74 = .ok (.aload_n 0, 1) := by decide +kernel
theorem dX10_init_75 : decode cX10_init 75 = .ok (.iconst 0, 1) := by decide +kernel
theorem dX10_init_76 : decode cX10_init 76 = .ok (.putfield 48, 3) := by decide +kernel
theorem dX10_init_79 : decode cX10_init 79 = .ok (.aload_n 0, 1) := by decide +kernel
theorem dX10_init_80 : decode cX10_init 80 = .ok (.bipush (-5), 2) := by decide +kernel
theorem dX10_init_82 : decode cX10_init 82 = .ok (.putfield 52, 3) := by decide +kernel
theorem dX10_init_85 : decode cX10_init 85 = .ok (.aload_n 0, 1) := by decide +kernel
theorem dX10_init_86 : decode cX10_init 86 = .ok (.new 55, 3) := by decide +kernel
theorem dX10_init_89 : decode cX10_init 89 = .ok (.dup, 1) := by decide +kernel
theorem dX10_init_90 : decode cX10_init 90 = .ok (.invokespecial 57, 3) := by decide +kernel
theorem dX10_init_93 : decode cX10_init 93 = .ok (.putfield 58, 3) := by decide +kernel
theorem dX10_init_96 : decode cX10_init 96 = .ok (.aload_n 0, 1) := by decide +kernel
theorem dX10_init_97 : decode cX10_init 97 = .ok (.new 62, 3) := by decide +kernel
theorem dX10_init_100 : decode cX10_init 100 = .ok (.dup, 1) := by decide +kernel
theorem dX10_init_101 : decode cX10_init 101 = .ok (.invokespecial 64, 3) := by decide +kernel
theorem dX10_init_104 : decode cX10_init 104 = .ok (.putfield 65, 3) := by decide +kernel
theorem dX10_init_107 : decode cX10_init 107 = .ok (.aload_n 0, 1) := by decide +kernel
theorem dX10_init_108 : decode cX10_init 108 = .ok (.new 69, 3) := by decide +kernel
theorem dX10_init_111 : decode cX10_init 111 = .ok (.dup, 1) := by decide +kernel
theorem dX10_init_112 : decode cX10_init 112 = .ok (.invokespecial 71, 3) := by decide +kernel
theorem dX10_init_115 : decode cX10_init 115 = .ok (.putfield 72, 3) := by decide +kernel
theorem dX10_init_118 : decode cX10_init 118 = .ok (.aload_n 0, 1) := by decide +kernel
theorem dX10_init_119 : decode cX10_init 119 = .ok (.iconst 4, 1) := by decide +kernel
theorem dX10_init_120 : decode cX10_init 120 = .ok (.anewarray 76, 3) := by decide +kernel
theorem dX10_init_123 : decode cX10_init 123 = .ok (.putfield 78, 3) := by decide +kernel
theorem dX10_init_126 : decode cX10_init 126 = .ok (.aload_n 0, 1) := by decide +kernel
theorem dX10_init_127 : decode cX10_init 127 = .ok (.new 76, 3) := by decide +kernel
theorem dX10_init_130 : decode cX10_init 130 = .ok (.dup, 1) := by decide +kernel
theorem dX10_init_131 : decode cX10_init 131 = .ok (.iconst 1, 1) := by decide +kernel
theorem dX10_init_132 : decode cX10_init 132 = .ok (.bipush 100, 2) := by decide +kernel
theorem dX10_init_134 : decode cX10_init 134 = .ok (.invokespecial 82, 3) := by decide +kernel
theorem dX10_init_137 : decode cX10_init 137 = .ok (.putfield 85, 3) := by decide +kernel
theorem dX10_init_140 : decode cX10_init 140 = .ok (.aload_n 0, 1) := by decide +kernel
theorem dX10_init_141 : decode cX10_init 141 = .ok (.new 89, 3) := by decide +kernel
theorem dX10_init_144 : decode cX10_init 144 = .ok (.dup, 1) := by decide +kernel
theorem dX10_init_145 : decode cX10_init 145 = .ok (.invokespecial 91, 3) := by decide +kernel
theorem dX10_init_148 : decode cX10_init 148 = .ok (.putfield 92, 3) := by decide +kernel
theorem dX10_init_151 : decode cX10_init 151 = .ok (.aload_n 0, 1) := by decide +kernel
theorem dX10_init_152 : decode cX10_init 152 = .ok (.bipush 6, 2) := by decide +kernel
theorem dX10_init_154 : decode cX10_init 154 = .ok (.anewarray 96, 3) := by decide +kernel
theorem dX10_init_157 : decode cX10_init 157 = .ok (.putfield 98, 3) := by decide +kernel
theorem dX10_init_160 : decode cX10_init 160 = .ok (.iconst 0, 1) := by decide +kernel
theorem dX10_init_161 : decode cX10_init 161 = .ok (.istore_n 1, 1) := by decide +kernel
theorem dX10_init_162 : decode cX10_init 162 = .ok (.iload_n 1, 1) := by decide +kernel
theorem dX10_init_163 : decode cX10_init 163 = .ok (.iconst 4, 1) := by decide +kernel
theorem dX10_init_164 : decode cX10_init 164 = .ok (.if_icmp .ge 25, 3) := by decide +kernel
theorem dX10_init_167 : decode cX10_init 167 = .ok (.aload_n 0, 1) := by decide +kernel
theorem dX10_init_168 : decode cX10_init 168 = .ok (.getfield 78, 3) := by decide +kernel
theorem dX10_init_171 : decode cX10_init 171 = .ok (.iload_n 1, 1) := by decide +kernel
theorem dX10_init_172 : decode cX10_init 172 = .ok (.new 76, 3) := by decide +kernel
theorem dX10_init_175 : decode cX10_init 175 = .ok (.dup, 1) := by decide +kernel
theorem dX10_init_176 : decode cX10_init 176 = .ok (.iconst 1, 1) := by decide +kernel
theorem dX10_init_177 : decode cX10_init 177 = .ok (.bipush 24, 2) := by decide +kernel
theorem dX10_init_179 : decode cX10_init 179 = .ok (.invokespecial 82, 3) := by decide +kernel
theorem dX10_init_182 : decode cX10_init 182 = .ok (.aastore, 1) := by decide +kernel
theorem dX10_init_183 : decode cX10_init 183 = .ok (.iinc 1 1, 3) := by decide +kernel
theorem dX10_init_186 : decode cX10_init 186 = .ok (.goto (-24), 3) := by decide +kernel
theorem dX10_init_189 : decode cX10_init 189 = .ok (.iconst 0, 1) := by decide +kernel
theorem dX10_init_190 : decode cX10_init 190 = .ok (.istore_n 1, 1) := by decide +kernel
theorem dX10_init_191 : decode cX10_init 191 = .ok (.iload_n 1, 1) := by decide +kernel
theorem dX10_init_192 : decode cX10_init 192 = .ok (.bipush 6, 2) := by decide +kernel
theorem dX10_init_194 : decode cX10_init 194 = .ok (.if_icmp .ge 22, 3) := by decide +kernel
theorem dX10_init_197 : decode cX10_init 197 = .ok (.aload_n 0, 1) := by decide +kernel
theorem dX10_init_198 : decode cX10_init 198 = .ok (.getfield 98, 3) := by decide +kernel
theorem dX10_init_201 : decode cX10_init 201 = .ok (.iload_n 1, 1) := by decide +kernel
theorem dX10_init_202 : decode cX10_init 202 = .ok (.new 96, 3) := by decide +kernel
theorem dX10_init_205 : decode cX10_init 205 = .ok (.dup, 1) := by decide +kernel
theorem dX10_init_206 : decode cX10_init 206 = .ok (.invokespecial 102, 3) := by decide +kernel
theorem dX10_init_209 : decode cX10_init 209 = .ok (.aastore, 1) := by decide +kernel
theorem dX10_init_210 : decode cX10_init 210 = .ok (.iinc 1 1, 3) := by decide +kernel
theorem dX10_init_213 : decode cX10_init 213 = .ok (.goto (-22), 3) := by decide +kernel
theorem dX10_init_216 : decode cX10_init 216 = .ok (.return_, 1) := by decide +kernel
theorem dX10_put_0 : decode cX10_put 0 = .ok (.aload_n 0, 1) := by decide +kernel
theorem dX10_put_1 : decode cX10_put 1 = .ok (.invokevirtual 103, 3) := by decide +kernel
theorem dX10_put_4 : decode cX10_put 4 = .ok (.aload_n 0, 1) := by decide +kernel
theorem dX10_put_5 : decode cX10_put 5 = .ok (.getfield 14, 3) := by decide +kernel
theorem dX10_put_8 : decode cX10_put 8 = .ok (.getfield 106, 3) := by decide +kernel
theorem dX10_put_11 : decode cX10_put 11 = .ok (.iload_n 1, 1) := by decide +kernel
theorem dX10_put_12 : decode cX10_put 12 = .ok (.iload_n 2, 1) := by decide +kernel
theorem dX10_put_13 : decode cX10_put 13 = .ok (.invokevirtual 109, 3) := by decide +kernel
theorem dX10_put_16 : decode cX10_put 16 = .ok (.ireturn, 1) := by decide +kernel
theorem dX10_inflow_0 : decode cX10_inflow 0 = .ok (.aload_n 0, 1) := by decide +kernel
theorem dX10_inflow_1 : decode cX10_inflow 1 = .ok (.invokevirtual 103, 3) := by decide +kernel
theorem dX10_inflow_4 : decode cX10_inflow 4 = .ok (.aload_n 0, 1) := by decide +kernel
theorem dX10_inflow_5 : decode cX10_inflow 5 = .ok (.getfield 14, 3) := by decide +kernel
theorem dX10_inflow_8 : decode cX10_inflow 8 = .ok (.getfield 106, 3) := by decide +kernel
theorem dX10_inflow_11 : decode cX10_inflow 11 = .ok (.iload_n 1, 1) := by decide +kernel
theorem dX10_inflow_12 : decode cX10_inflow 12 = .ok (.iload_n 2, 1) := by decide +kernel
theorem dX10_inflow_13 : decode cX10_inflow 13 = .ok (.iload_n 3, 1) := by decide +kernel
theorem dX10_inflow_14 : decode cX10_inflow 14 = .ok (.invokevirtual 113, 3) := by decide +kernel
theorem dX10_inflow_17 : decode cX10_inflow 17 = .ok (.ireturn, 1) := by decide +kernel
theorem dX10_part_0 : decode cX10_part 0 = .ok (.aload_n 0, 1) := by decide +kernel
theorem dX10_part_1 : decode cX10_part 1 = .ok (.invokevirtual 103, 3) := by decide +kernel
theorem dX10_part_4 : decode cX10_part 4 = .ok (.aload_n 0, 1) := by decide +kernel
theorem dX10_part_5 : decode cX10_part 5 = .ok (.getfield 14, 3) := by decide +kernel
theorem dX10_part_8 : decode cX10_part 8 = .ok (.getfield 106, 3) := by decide +kernel
theorem dX10_part_11 : decode cX10_part 11 = .ok (.iload_n 1, 1) := by decide +kernel
theorem dX10_part_12 : decode cX10_part 12 = .ok (.iload_n 2, 1) := by decide +kernel
theorem dX10_part_13 : decode cX10_part 13 = .ok (.iload_n 3, 1) := by decide +kernel
theorem dX10_part_14 : decode cX10_part 14 = .ok (.invokevirtual 117, 3) := by decide +kernel
theorem dX10_part_17 : decode cX10_part 17 = .ok (.ireturn, 1) := by decide +kernel
theorem dX10_month_0 : decode cX10_month 0 = .ok (.aload_n 0, 1) := by decide +kernel
theorem dX10_month_1 : decode cX10_month 1 = .ok (.invokevirtual 103, 3) := by decide +kernel
theorem dX10_month_4 : decode cX10_month 4 = .ok (.aload_n 0, 1) := by decide +kernel
theorem dX10_month_5 : decode cX10_month 5 = .ok (.getfield 14, 3) := by decide +kernel
theorem dX10_month_8 : decode cX10_month 8 = .ok (.getfield 106, 3) := by decide +kernel
theorem dX10_month_11 : decode cX10_month 11 = .ok (.iload_n 1, 1) := by decide +kernel
theorem dX10_month_12 : decode cX10_month 12 = .ok (.iload_n 2, 1) := by decide +kernel
theorem dX10_month_13 : decode cX10_month 13 = .ok (.iload_n 3, 1) := by decide +kernel
theorem dX10_month_14 : decode cX10_month 14 = .ok (.invokevirtual 120, 3) := by decide +kernel
theorem dX10_month_17 : decode cX10_month 17 = .ok (.ireturn, 1) := by decide +kernel
theorem dX10_demand_0 : decode cX10_demand 0 = .ok (.aload_n 0, 1) := by decide +kernel
theorem dX10_demand_1 : decode cX10_demand 1 = .ok (.invokevirtual 103, 3) := by decide +kernel
theorem dX10_demand_4 : decode cX10_demand 4 = .ok (.aload_n 0, 1) := by decide +kernel
theorem dX10_demand_5 : decode cX10_demand 5 = .ok (.getfield 14, 3) := by decide +kernel
theorem dX10_demand_8 : decode cX10_demand 8 = .ok (.getfield 106, 3) := by decide +kernel
theorem dX10_demand_11 : decode cX10_demand 11 = .ok (.iload_n 1, 1) := by decide +kernel
theorem dX10_demand_12 : decode cX10_demand 12 = .ok (.iload_n 2, 1) := by decide +kernel
theorem dX10_demand_13 : decode cX10_demand 13 = .ok (.iload_n 3, 1) := by decide +kernel
theorem dX10_demand_14 : decode cX10_demand 14 = .ok (.iload 4, 2) := by decide +kernel
theorem dX10_demand_16 : decode cX10_demand 16 = .ok (.iload 5, 2) := by decide +kernel
theorem dX10_demand_18 : decode cX10_demand 18 = .ok (.iload 6, 2) := by decide +kernel
theorem dX10_demand_20 : decode cX10_demand 20 = .ok (.invokevirtual 123, 3) := by decide +kernel
theorem dX10_demand_23 : decode cX10_demand 23 = .ok (.ireturn, 1) := by decide +kernel
theorem dX10_renew_0 : decode cX10_renew 0 = .ok (.aload_n 0, 1) := by decide +kernel
theorem dX10_renew_1 : decode cX10_renew 1 = .ok (.invokevirtual 103, 3) := by decide +kernel
theorem dX10_renew_4 : decode cX10_renew 4 = .ok (.aload_n 0, 1) := by decide +kernel
theorem dX10_renew_5 : decode cX10_renew 5 = .ok (.getfield 14, 3) := by decide +kernel
theorem dX10_renew_8 : decode cX10_renew 8 = .ok (.getfield 106, 3) := by decide +kernel
theorem dX10_renew_11 : decode cX10_renew 11 = .ok (.iload_n 1, 1) := by decide +kernel
theorem dX10_renew_12 : decode cX10_renew 12 = .ok (.iload_n 2, 1) := by decide +kernel
theorem dX10_renew_13 : decode cX10_renew 13 = .ok (.iload_n 3, 1) := by decide +kernel
theorem dX10_renew_14 : decode cX10_renew 14 = .ok (.invokevirtual 127, 3) := by decide +kernel
theorem dX10_renew_17 : decode cX10_renew 17 = .ok (.ireturn, 1) := by decide +kernel
theorem dX10_drop_0 : decode cX10_drop 0 = .ok (.aload_n 0, 1) := by decide +kernel
theorem dX10_drop_1 : decode cX10_drop 1 = .ok (.invokevirtual 103, 3) := by decide +kernel
theorem dX10_drop_4 : decode cX10_drop 4 = .ok (.aload_n 0, 1) := by decide +kernel
theorem dX10_drop_5 : decode cX10_drop 5 = .ok (.getfield 14, 3) := by decide +kernel
theorem dX10_drop_8 : decode cX10_drop 8 = .ok (.getfield 106, 3) := by decide +kernel
theorem dX10_drop_11 : decode cX10_drop 11 = .ok (.iload_n 1, 1) := by decide +kernel
theorem dX10_drop_12 : decode cX10_drop 12 = .ok (.invokevirtual 130, 3) := by decide +kernel
theorem dX10_drop_15 : decode cX10_drop 15 = .ok (.ireturn, 1) := by decide +kernel
theorem dX10_feed_0 : decode cX10_feed 0 = .ok (.iload_n 1, 1) := by decide +kernel
theorem dX10_feed_1 : decode cX10_feed 1 = .ok (.iconst 0, 1) := by decide +kernel
theorem dX10_feed_2 : decode cX10_feed 2 = .ok (.bipush 127, 2) := by decide +kernel
theorem dX10_feed_4 : decode cX10_feed 4 = .ok (.invokestatic 134, 3) := by decide +kernel
theorem dX10_feed_7 : decode cX10_feed 7 = .ok (.ifCond .ne 6, 3) := by decide +kernel
theorem dX10_feed_10 : decode cX10_feed 10 = .ok (.bipush (-2), 2) := by decide +kernel
theorem dX10_feed_12 : decode cX10_feed 12 = .ok (.ireturn, 1) := by decide +kernel
theorem dX10_feed_13 : decode cX10_feed 13 = .ok (.aload_n 0, 1) := by decide +kernel
theorem dX10_feed_14 : decode cX10_feed 14 = .ok (.getfield 85, 3) := by decide +kernel
theorem dX10_feed_17 : decode cX10_feed 17 = .ok (.iload_n 1, 1) := by decide +kernel
theorem dX10_feed_18 : decode cX10_feed 18 = .ok (.invokevirtual 138, 3) := by decide +kernel
theorem dX10_feed_21 : decode cX10_feed 21 = .ok (.ireturn, 1) := by decide +kernel
theorem dX10_read_0 : decode cX10_read 0 = .ok (.aload_n 0, 1) := by decide +kernel
theorem dX10_read_1 : decode cX10_read 1 = .ok (.invokevirtual 103, 3) := by decide +kernel
theorem dX10_read_4 : decode cX10_read 4 = .ok (.aload_n 0, 1) := by decide +kernel
theorem dX10_read_5 : decode cX10_read 5 = .ok (.getfield 92, 3) := by decide +kernel
theorem dX10_read_8 : decode cX10_read 8 = .ok (.aload_n 0, 1) := by decide +kernel
theorem dX10_read_9 : decode cX10_read 9 = .ok (.getfield 85, 3) := by decide +kernel
theorem dX10_read_12 : decode cX10_read 12 = .ok (.invokevirtual 141, 3) := by decide +kernel
theorem dX10_read_15 : decode cX10_read 15 = .ok (.istore_n 1, 1) := by decide +kernel
theorem dX10_read_16 : decode cX10_read 16 = .ok (.aload_n 0, 1) := by decide +kernel
theorem dX10_read_17 : decode cX10_read 17 = .ok (.getfield 85, 3) := by decide +kernel
theorem dX10_read_20 : decode cX10_read 20 = .ok (.invokevirtual 145, 3) := by decide +kernel
theorem dX10_read_23 : decode cX10_read 23 = .ok (.pop, 1) := by decide +kernel
theorem dX10_read_24 : decode cX10_read 24 = .ok (.iload_n 1, 1) := by decide +kernel
theorem dX10_read_25 : decode cX10_read 25 = .ok (.bipush (-5), 2) := by decide +kernel
theorem dX10_read_27 : decode cX10_read 27 = .ok (.if_icmp .ne 20, 3) := by decide +kernel
theorem dX10_read_30 : decode cX10_read 30 = .ok (.aload_n 0, 1) := by decide +kernel
theorem dX10_read_31 : decode cX10_read 31 = .ok (.getfield 92, 3) := by decide +kernel
theorem dX10_read_34 : decode cX10_read 34 = .ok (.aload_n 0, 1) := by decide +kernel
theorem dX10_read_35 : decode cX10_read 35 = .ok (.getfield 14, 3) := by decide +kernel
theorem dX10_read_38 : decode cX10_read 38 = .ok (.getfield 106, 3) := by decide +kernel
theorem dX10_read_41 : decode cX10_read 41 = .ok (.invokevirtual 149, 3) := by decide +kernel
theorem dX10_read_44 : decode cX10_read 44 = .ok (.goto 7, 3) := by decide +kernel
theorem dX10_read_47 : decode cX10_read 47 = .ok (.bipush (-10), 2) := by decide +kernel
theorem dX10_read_49 : decode cX10_read 49 = .ok (.iload_n 1, 1) := by decide +kernel
theorem dX10_read_50 : decode cX10_read 50 = .ok (.isub, 1) := by decide +kernel
theorem dX10_read_51 : decode cX10_read 51 = .ok (.ireturn, 1) := by decide +kernel
theorem dX10_told_0 : decode cX10_told 0 = .ok (.iload_n 1, 1) := by decide +kernel
theorem dX10_told_1 : decode cX10_told 1 = .ok (.iconst 4, 1) := by decide +kernel
theorem dX10_told_2 : decode cX10_told 2 = .ok (.if_icmp .ne 16, 3) := by decide +kernel
theorem dX10_told_5 : decode cX10_told 5 = .ok (.aload_n 0, 1) := by decide +kernel
theorem dX10_told_6 : decode cX10_told 6 = .ok (.getfield 14, 3) := by decide +kernel
theorem dX10_told_9 : decode cX10_told 9 = .ok (.getfield 106, 3) := by decide +kernel
theorem dX10_told_12 : decode cX10_told 12 = .ok (.getfield 153, 3) := by decide +kernel
theorem dX10_told_15 : decode cX10_told 15 = .ok (.goto 14, 3) := by decide +kernel
theorem dX10_told_18 : decode cX10_told 18 = .ok (.aload_n 0, 1) := by decide +kernel
theorem dX10_told_19 : decode cX10_told 19 = .ok (.getfield 14, 3) := by decide +kernel
theorem dX10_told_22 : decode cX10_told 22 = .ok (.getfield 106, 3) := by decide +kernel
theorem dX10_told_25 : decode cX10_told 25 = .ok (.iload_n 1, 1) := by decide +kernel
theorem dX10_told_26 : decode cX10_told 26 = .ok (.invokevirtual 156, 3) := by decide +kernel
theorem dX10_told_29 : decode cX10_told 29 = .ok (.ireturn, 1) := by decide +kernel
theorem dX10_monthOf_0 : decode cX10_monthOf 0 = .ok (.iload_n 1, 1) := by decide +kernel
theorem dX10_monthOf_1 : decode cX10_monthOf 1 = .ok (.iconst 0, 1) := by decide +kernel
theorem dX10_monthOf_2 : decode cX10_monthOf 2 = .ok (.bipush 11, 2) := by decide +kernel
theorem dX10_monthOf_4 : decode cX10_monthOf 4 = .ok (.invokestatic 134, 3) := by decide +kernel
theorem dX10_monthOf_7 : decode cX10_monthOf 7 = .ok (.ifCond .ne 5, 3) := by decide +kernel
theorem dX10_monthOf_10 : decode cX10_monthOf 10 = .ok (.iconst (-1), 1) := by decide +kernel
theorem dX10_monthOf_11 : decode cX10_monthOf 11 = .ok (.ireturn, 1) := by decide +kernel
theorem dX10_monthOf_12 : decode cX10_monthOf 12 = .ok (.iload_n 2, 1) := by decide +kernel
theorem dX10_monthOf_13 : decode cX10_monthOf 13 = .ok (.tableswitch 90 0 5 #[39, 39, 39, 52, 65, 78], 39) := by decide +kernel
theorem dX10_monthOf_52 : decode cX10_monthOf 52 = .ok (.aload_n 0, 1) := by decide +kernel
theorem dX10_monthOf_53 : decode cX10_monthOf 53 = .ok (.getfield 14, 3) := by decide +kernel
theorem dX10_monthOf_56 : decode cX10_monthOf 56 = .ok (.getfield 106, 3) := by decide +kernel
theorem dX10_monthOf_59 : decode cX10_monthOf 59 = .ok (.iload_n 1, 1) := by decide +kernel
theorem dX10_monthOf_60 : decode cX10_monthOf 60 = .ok (.iload_n 2, 1) := by decide +kernel
theorem dX10_monthOf_61 : decode cX10_monthOf 61 = .ok (.invokevirtual 159, 3) := by decide +kernel
theorem dX10_monthOf_64 : decode cX10_monthOf 64 = .ok (.ireturn, 1) := by decide +kernel
theorem dX10_monthOf_65 : decode cX10_monthOf 65 = .ok (.aload_n 0, 1) := by decide +kernel
theorem dX10_monthOf_66 : decode cX10_monthOf 66 = .ok (.getfield 14, 3) := by decide +kernel
theorem dX10_monthOf_69 : decode cX10_monthOf 69 = .ok (.getfield 106, 3) := by decide +kernel
theorem dX10_monthOf_72 : decode cX10_monthOf 72 = .ok (.getfield 162, 3) := by decide +kernel
theorem dX10_monthOf_75 : decode cX10_monthOf 75 = .ok (.iload_n 1, 1) := by decide +kernel
theorem dX10_monthOf_76 : decode cX10_monthOf 76 = .ok (.iaload, 1) := by decide +kernel
theorem dX10_monthOf_77 : decode cX10_monthOf 77 = .ok (.ireturn, 1) := by decide +kernel
theorem dX10_monthOf_78 : decode cX10_monthOf 78 = .ok (.aload_n 0, 1) := by decide +kernel
theorem dX10_monthOf_79 : decode cX10_monthOf 79 = .ok (.getfield 14, 3) := by decide +kernel
theorem dX10_monthOf_82 : decode cX10_monthOf 82 = .ok (.getfield 106, 3) := by decide +kernel
theorem dX10_monthOf_85 : decode cX10_monthOf 85 = .ok (.getfield 166, 3) := by decide +kernel
theorem dX10_monthOf_88 : decode cX10_monthOf 88 = .ok (.iload_n 1, 1) := by decide +kernel
theorem dX10_monthOf_89 : decode cX10_monthOf 89 = .ok (.iaload, 1) := by decide +kernel
theorem dX10_monthOf_90 : decode cX10_monthOf 90 = .ok (.ireturn, 1) := by decide +kernel
theorem dX10_monthOf_91 : decode cX10_monthOf 91 = .ok (.aload_n 0, 1) := by decide +kernel
theorem dX10_monthOf_92 : decode cX10_monthOf 92 = .ok (.getfield 14, 3) := by decide +kernel
theorem dX10_monthOf_95 : decode cX10_monthOf 95 = .ok (.getfield 106, 3) := by decide +kernel
theorem dX10_monthOf_98 : decode cX10_monthOf 98 = .ok (.iload_n 1, 1) := by decide +kernel
theorem dX10_monthOf_99 : decode cX10_monthOf 99 = .ok (.invokevirtual 169, 3) := by decide +kernel
theorem dX10_monthOf_102 : decode cX10_monthOf 102 = .ok (.ireturn, 1) := by decide +kernel
theorem dX10_monthOf_103 : decode cX10_monthOf 103 = .ok (.iconst (-1), 1) := by decide +kernel
theorem dX10_monthOf_104 : decode cX10_monthOf 104 = .ok (.ireturn, 1) := by decide +kernel
theorem dX10_partOf_0 : decode cX10_partOf 0 = .ok (.iload_n 1, 1) := by decide +kernel
theorem dX10_partOf_1 : decode cX10_partOf 1 = .ok (.invokestatic 172, 3) := by decide +kernel
theorem dX10_partOf_4 : decode cX10_partOf 4 = .ok (.ifCond .eq 12, 3) := by decide +kernel
theorem dX10_partOf_7 : decode cX10_partOf 7 = .ok (.iload_n 2, 1) := by decide +kernel
theorem dX10_partOf_8 : decode cX10_partOf 8 = .ok (.iconst 0, 1) := by decide +kernel
theorem dX10_partOf_9 : decode cX10_partOf 9 = .ok (.iconst 3, 1) := by decide +kernel
theorem dX10_partOf_10 : decode cX10_partOf 10 = .ok (.invokestatic 134, 3) := by decide +kernel
theorem dX10_partOf_13 : decode cX10_partOf 13 = .ok (.ifCond .ne 5, 3) := by decide +kernel
theorem dX10_partOf_16 : decode cX10_partOf 16 = .ok (.iconst (-1), 1) := by decide +kernel
theorem dX10_partOf_17 : decode cX10_partOf 17 = .ok (.ireturn, 1) := by decide +kernel
theorem dX10_partOf_18 : decode cX10_partOf 18 = .ok (.iload_n 2, 1) := by decide +kernel
theorem dX10_partOf_19 : decode cX10_partOf 19 = .ok (.iconst 3, 1) := by decide +kernel
theorem dX10_partOf_20 : decode cX10_partOf 20 = .ok (.if_icmp .ne 17, 3) := by decide +kernel
theorem dX10_partOf_23 : decode cX10_partOf 23 = .ok (.aload_n 0, 1) := by decide +kernel
theorem dX10_partOf_24 : decode cX10_partOf 24 = .ok (.getfield 14, 3) := by decide +kernel
theorem dX10_partOf_27 : decode cX10_partOf 27 = .ok (.getfield 106, 3) := by decide +kernel
theorem dX10_partOf_30 : decode cX10_partOf 30 = .ok (.iload_n 1, 1) := by decide +kernel
theorem dX10_partOf_31 : decode cX10_partOf 31 = .ok (.invokevirtual 176, 3) := by decide +kernel
theorem dX10_partOf_34 : decode cX10_partOf 34 = .ok (.goto 19, 3) := by decide +kernel
theorem dX10_partOf_37 : decode cX10_partOf 37 = .ok (.aload_n 0, 1) := by decide +kernel
theorem dX10_partOf_38 : decode cX10_partOf 38 = .ok (.getfield 14, 3) := by decide +kernel
theorem dX10_partOf_41 : decode cX10_partOf 41 = .ok (.getfield 106, 3) := by decide +kernel
theorem dX10_partOf_44 : decode cX10_partOf 44 = .ok (.getfield 179, 3) := by decide +kernel
theorem dX10_partOf_47 : decode cX10_partOf 47 = .ok (.iload_n 1, 1) := by decide +kernel
theorem dX10_partOf_48 : decode cX10_partOf 48 = .ok (.iconst 3, 1) := by decide +kernel
theorem dX10_partOf_49 : decode cX10_partOf 49 = .ok (.imul, 1) := by decide +kernel
theorem dX10_partOf_50 : decode cX10_partOf 50 = .ok (.iload_n 2, 1) := by decide +kernel
theorem dX10_partOf_51 : decode cX10_partOf 51 = .ok (.iadd, 1) := by decide +kernel
theorem dX10_partOf_52 : decode cX10_partOf 52 = .ok (.iaload, 1) := by decide +kernel
theorem dX10_partOf_53 : decode cX10_partOf 53 = .ok (.ireturn, 1) := by decide +kernel
theorem dX10_demandOf_0 : decode cX10_demandOf 0 = .ok (.aload_n 0, 1) := by decide +kernel
theorem dX10_demandOf_1 : decode cX10_demandOf 1 = .ok (.getfield 14, 3) := by decide +kernel
theorem dX10_demandOf_4 : decode cX10_demandOf 4 = .ok (.getfield 106, 3) := by decide +kernel
theorem dX10_demandOf_7 : decode cX10_demandOf 7 = .ok (.iload_n 1, 1) := by decide +kernel
theorem dX10_demandOf_8 : decode cX10_demandOf 8 = .ok (.invokevirtual 182, 3) := by decide +kernel
theorem dX10_demandOf_11 : decode cX10_demandOf 11 = .ok (.ifCond .ne 5, 3) := by decide +kernel
theorem dX10_demandOf_14 : decode cX10_demandOf 14 = .ok (.iconst (-1), 1) := by decide +kernel
theorem dX10_demandOf_15 : decode cX10_demandOf 15 = .ok (.ireturn, 1) := by decide +kernel
theorem dX10_demandOf_16 : decode cX10_demandOf 16 = .ok (.iload_n 2, 1) := by decide +kernel
theorem dX10_demandOf_17 : decode cX10_demandOf 17 = .ok (.bipush 6, 2) := by decide +kernel
theorem dX10_demandOf_19 : decode cX10_demandOf 19 = .ok (.if_icmp .ne 17, 3) := by decide +kernel
theorem dX10_demandOf_22 : decode cX10_demandOf 22 = .ok (.aload_n 0, 1) := by decide +kernel
theorem dX10_demandOf_23 : decode cX10_demandOf 23 = .ok (.getfield 14, 3) := by decide +kernel
theorem dX10_demandOf_26 : decode cX10_demandOf 26 = .ok (.getfield 106, 3) := by decide +kernel
theorem dX10_demandOf_29 : decode cX10_demandOf 29 = .ok (.iload_n 1, 1) := by decide +kernel
theorem dX10_demandOf_30 : decode cX10_demandOf 30 = .ok (.invokevirtual 185, 3) := by decide +kernel
theorem dX10_demandOf_33 : decode cX10_demandOf 33 = .ok (.goto 19, 3) := by decide +kernel
theorem dX10_demandOf_36 : decode cX10_demandOf 36 = .ok (.aload_n 0, 1) := by decide +kernel
theorem dX10_demandOf_37 : decode cX10_demandOf 37 = .ok (.getfield 14, 3) := by decide +kernel
theorem dX10_demandOf_40 : decode cX10_demandOf 40 = .ok (.getfield 106, 3) := by decide +kernel
theorem dX10_demandOf_43 : decode cX10_demandOf 43 = .ok (.getfield 188, 3) := by decide +kernel
theorem dX10_demandOf_46 : decode cX10_demandOf 46 = .ok (.iload_n 1, 1) := by decide +kernel
theorem dX10_demandOf_47 : decode cX10_demandOf 47 = .ok (.aaload, 1) := by decide +kernel
theorem dX10_demandOf_48 : decode cX10_demandOf 48 = .ok (.iload_n 2, 1) := by decide +kernel
theorem dX10_demandOf_49 : decode cX10_demandOf 49 = .ok (.invokevirtual 192, 3) := by decide +kernel
theorem dX10_demandOf_52 : decode cX10_demandOf 52 = .ok (.ireturn, 1) := by decide +kernel
theorem dX10_taken_0 : decode cX10_taken 0 = .ok (.aload_n 0, 1) := by decide +kernel
theorem dX10_taken_1 : decode cX10_taken 1 = .ok (.getfield 14, 3) := by decide +kernel
theorem dX10_taken_4 : decode cX10_taken 4 = .ok (.getfield 106, 3) := by decide +kernel
theorem dX10_taken_7 : decode cX10_taken 7 = .ok (.iload_n 1, 1) := by decide +kernel
theorem dX10_taken_8 : decode cX10_taken 8 = .ok (.invokevirtual 182, 3) := by decide +kernel
theorem dX10_taken_11 : decode cX10_taken 11 = .ok (.ifCond .ne 5, 3) := by decide +kernel
theorem dX10_taken_14 : decode cX10_taken 14 = .ok (.iconst (-1), 1) := by decide +kernel
theorem dX10_taken_15 : decode cX10_taken 15 = .ok (.ireturn, 1) := by decide +kernel
theorem dX10_taken_16 : decode cX10_taken 16 = .ok (.iload_n 2, 1) := by decide +kernel
theorem dX10_taken_17 : decode cX10_taken 17 = .ok (.iconst 0, 1) := by decide +kernel
theorem dX10_taken_18 : decode cX10_taken 18 = .ok (.iconst 4, 1) := by decide +kernel
theorem dX10_taken_19 : decode cX10_taken 19 = .ok (.invokestatic 134, 3) := by decide +kernel
theorem dX10_taken_22 : decode cX10_taken 22 = .ok (.ifCond .ne 6, 3) := by decide +kernel
theorem dX10_taken_25 : decode cX10_taken 25 = .ok (.bipush (-2), 2) := by decide +kernel
theorem dX10_taken_27 : decode cX10_taken 27 = .ok (.ireturn, 1) := by decide +kernel
theorem dX10_taken_28 : decode cX10_taken 28 = .ok (.aload_n 0, 1) := by decide +kernel
theorem dX10_taken_29 : decode cX10_taken 29 = .ok (.getfield 14, 3) := by decide +kernel
theorem dX10_taken_32 : decode cX10_taken 32 = .ok (.getfield 106, 3) := by decide +kernel
theorem dX10_taken_35 : decode cX10_taken 35 = .ok (.getfield 188, 3) := by decide +kernel
theorem dX10_taken_38 : decode cX10_taken 38 = .ok (.iload_n 1, 1) := by decide +kernel
theorem dX10_taken_39 : decode cX10_taken 39 = .ok (.aaload, 1) := by decide +kernel
theorem dX10_taken_40 : decode cX10_taken 40 = .ok (.getfield 197, 3) := by decide +kernel
theorem dX10_taken_43 : decode cX10_taken 43 = .ok (.istore_n 3, 1) := by decide +kernel
theorem dX10_taken_44 : decode cX10_taken 44 = .ok (.iload_n 3, 1) := by decide +kernel
theorem dX10_taken_45 : decode cX10_taken 45 = .ok (.iload_n 2, 1) := by decide +kernel
theorem dX10_taken_46 : decode cX10_taken 46 = .ok (.invokestatic 200, 3) := by decide +kernel
theorem dX10_taken_49 : decode cX10_taken 49 = .ok (.ifCond .eq 7, 3) := by decide +kernel
theorem dX10_taken_52 : decode cX10_taken 52 = .ok (.iload_n 3, 1) := by decide +kernel
theorem dX10_taken_53 : decode cX10_taken 53 = .ok (.goto 5, 3) := by decide +kernel
theorem dX10_taken_56 : decode cX10_taken 56 = .ok (.bipush (-12), 2) := by decide +kernel
theorem dX10_taken_58 : decode cX10_taken 58 = .ok (.ireturn, 1) := by decide +kernel
theorem dX10_wanted_0 : decode cX10_wanted 0 = .ok (.aload_n 0, 1) := by decide +kernel
theorem dX10_wanted_1 : decode cX10_wanted 1 = .ok (.getfield 14, 3) := by decide +kernel
theorem dX10_wanted_4 : decode cX10_wanted 4 = .ok (.getfield 106, 3) := by decide +kernel
theorem dX10_wanted_7 : decode cX10_wanted 7 = .ok (.iload_n 1, 1) := by decide +kernel
theorem dX10_wanted_8 : decode cX10_wanted 8 = .ok (.invokevirtual 182, 3) := by decide +kernel
theorem dX10_wanted_11 : decode cX10_wanted 11 = .ok (.ifCond .eq 13, 3) := by decide +kernel
theorem dX10_wanted_14 : decode cX10_wanted 14 = .ok (.iload_n 2, 1) := by decide +kernel
theorem dX10_wanted_15 : decode cX10_wanted 15 = .ok (.iconst 0, 1) := by decide +kernel
theorem dX10_wanted_16 : decode cX10_wanted 16 = .ok (.bipush 11, 2) := by decide +kernel
theorem dX10_wanted_18 : decode cX10_wanted 18 = .ok (.invokestatic 134, 3) := by decide +kernel
theorem dX10_wanted_21 : decode cX10_wanted 21 = .ok (.ifCond .ne 5, 3) := by decide +kernel
theorem dX10_wanted_24 : decode cX10_wanted 24 = .ok (.iconst (-1), 1) := by decide +kernel
theorem dX10_wanted_25 : decode cX10_wanted 25 = .ok (.ireturn, 1) := by decide +kernel
theorem dX10_wanted_26 : decode cX10_wanted 26 = .ok (.aload_n 0, 1) := by decide +kernel
theorem dX10_wanted_27 : decode cX10_wanted 27 = .ok (.getfield 14, 3) := by decide +kernel
theorem dX10_wanted_30 : decode cX10_wanted 30 = .ok (.getfield 106, 3) := by decide +kernel
theorem dX10_wanted_33 : decode cX10_wanted 33 = .ok (.getfield 188, 3) := by decide +kernel
theorem dX10_wanted_36 : decode cX10_wanted 36 = .ok (.iload_n 1, 1) := by decide +kernel
theorem dX10_wanted_37 : decode cX10_wanted 37 = .ok (.aaload, 1) := by decide +kernel
theorem dX10_wanted_38 : decode cX10_wanted 38 = .ok (.iload_n 2, 1) := by decide +kernel
theorem dX10_wanted_39 : decode cX10_wanted 39 = .ok (.invokevirtual 204, 3) := by decide +kernel
theorem dX10_wanted_42 : decode cX10_wanted 42 = .ok (.ireturn, 1) := by decide +kernel
theorem dX10_served_0 : decode cX10_served 0 = .ok (.aload_n 0, 1) := by decide +kernel
theorem dX10_served_1 : decode cX10_served 1 = .ok (.getfield 14, 3) := by decide +kernel
theorem dX10_served_4 : decode cX10_served 4 = .ok (.getfield 106, 3) := by decide +kernel
theorem dX10_served_7 : decode cX10_served 7 = .ok (.iload_n 1, 1) := by decide +kernel
theorem dX10_served_8 : decode cX10_served 8 = .ok (.invokevirtual 182, 3) := by decide +kernel
theorem dX10_served_11 : decode cX10_served 11 = .ok (.ifCond .eq 27, 3) := by decide +kernel
theorem dX10_served_14 : decode cX10_served 14 = .ok (.iload_n 2, 1) := by decide +kernel
theorem dX10_served_15 : decode cX10_served 15 = .ok (.iconst 0, 1) := by decide +kernel
theorem dX10_served_16 : decode cX10_served 16 = .ok (.bipush 11, 2) := by decide +kernel
theorem dX10_served_18 : decode cX10_served 18 = .ok (.invokestatic 134, 3) := by decide +kernel
theorem dX10_served_21 : decode cX10_served 21 = .ok (.ifCond .eq 17, 3) := by decide +kernel
theorem dX10_served_24 : decode cX10_served 24 = .ok (.iload_n 3, 1) := by decide +kernel
theorem dX10_served_25 : decode cX10_served 25 = .ok (.ifCond .lt 13, 3) := by decide +kernel
theorem dX10_served_28 : decode cX10_served 28 = .ok (.iload 4, 2) := by decide +kernel
theorem dX10_served_30 : decode cX10_served 30 = .ok (.iconst 0, 1) := by decide +kernel
theorem dX10_served_31 : decode cX10_served 31 = .ok (.iconst 1, 1) := by decide +kernel
theorem dX10_served_32 : decode cX10_served 32 = .ok (.invokestatic 134, 3) := by decide +kernel
theorem dX10_served_35 : decode cX10_served 35 = .ok (.ifCond .ne 7, 3) := by decide +kernel
theorem dX10_served_38 : decode cX10_served 38 = .ok (.ldc2_w 207, 3) := by decide +kernel
theorem dX10_served_41 : decode cX10_served 41 = .ok (.lreturn, 1) := by decide +kernel
theorem dX10_served_42 : decode cX10_served 42 = .ok (.aload_n 0, 1) := by decide +kernel
theorem dX10_served_43 : decode cX10_served 43 = .ok (.getfield 14, 3) := by decide +kernel
theorem dX10_served_46 : decode cX10_served 46 = .ok (.getfield 106, 3) := by decide +kernel
theorem dX10_served_49 : decode cX10_served 49 = .ok (.iload_n 1, 1) := by decide +kernel
theorem dX10_served_50 : decode cX10_served 50 = .ok (.iload_n 2, 1) := by decide +kernel
theorem dX10_served_51 : decode cX10_served 51 = .ok (.iload_n 3, 1) := by decide +kernel
theorem dX10_served_52 : decode cX10_served 52 = .ok (.invokevirtual 209, 3) := by decide +kernel
theorem dX10_served_55 : decode cX10_served 55 = .ok (.istore 5, 2) := by decide +kernel
theorem dX10_served_57 : decode cX10_served 57 = .ok (.iload 4, 2) := by decide +kernel
theorem dX10_served_59 : decode cX10_served 59 = .ok (.ifCond .ne 9, 3) := by decide +kernel
theorem dX10_served_62 : decode cX10_served 62 = .ok (.iload 5, 2) := by decide +kernel
theorem dX10_served_64 : decode cX10_served 64 = .ok (.i2l, 1) := by decide +kernel
theorem dX10_served_65 : decode cX10_served 65 = .ok (.goto 37, 3) := by decide +kernel
theorem dX10_served_68 : decode cX10_served 68 = .ok (.aload_n 0, 1) := by decide +kernel
theorem dX10_served_69 : decode cX10_served 69 = .ok (.getfield 14, 3) := by decide +kernel
theorem dX10_served_72 : decode cX10_served 72 = .ok (.getfield 106, 3) := by decide +kernel
theorem dX10_served_75 : decode cX10_served 75 = .ok (.getfield 188, 3) := by decide +kernel
theorem dX10_served_78 : decode cX10_served 78 = .ok (.iload_n 1, 1) := by decide +kernel
theorem dX10_served_79 : decode cX10_served 79 = .ok (.aaload, 1) := by decide +kernel
theorem dX10_served_80 : decode cX10_served 80 = .ok (.iload 5, 2) := by decide +kernel
theorem dX10_served_82 : decode cX10_served 82 = .ok (.aload_n 0, 1) := by decide +kernel
theorem dX10_served_83 : decode cX10_served 83 = .ok (.getfield 14, 3) := by decide +kernel
theorem dX10_served_86 : decode cX10_served 86 = .ok (.getfield 106, 3) := by decide +kernel
theorem dX10_served_89 : decode cX10_served 89 = .ok (.getfield 188, 3) := by decide +kernel
theorem dX10_served_92 : decode cX10_served 92 = .ok (.iload_n 1, 1) := by decide +kernel
theorem dX10_served_93 : decode cX10_served 93 = .ok (.aaload, 1) := by decide +kernel
theorem dX10_served_94 : decode cX10_served 94 = .ok (.iload_n 2, 1) := by decide +kernel
theorem dX10_served_95 : decode cX10_served 95 = .ok (.invokevirtual 204, 3) := by decide +kernel
theorem dX10_served_98 : decode cX10_served 98 = .ok (.invokevirtual 212, 3) := by decide +kernel
theorem dX10_served_101 : decode cX10_served 101 = .ok (.i2l, 1) := by decide +kernel
theorem dX10_served_102 : decode cX10_served 102 = .ok (.lreturn, 1) := by decide +kernel
theorem dX10_step_0 : decode cX10_step 0 = .ok (.iload_n 1, 1) := by decide +kernel
theorem dX10_step_1 : decode cX10_step 1 = .ok (.iconst 0, 1) := by decide +kernel
theorem dX10_step_2 : decode cX10_step 2 = .ok (.bipush 11, 2) := by decide +kernel
theorem dX10_step_4 : decode cX10_step 4 = .ok (.invokestatic 134, 3) := by decide +kernel
theorem dX10_step_7 : decode cX10_step 7 = .ok (.ifCond .eq 36, 3) := by decide +kernel
theorem dX10_step_10 : decode cX10_step 10 = .ok (.iload 5, 2) := by decide +kernel
theorem dX10_step_12 : decode cX10_step 12 = .ok (.iconst 0, 1) := by decide +kernel
theorem dX10_step_13 : decode cX10_step 13 = .ok (.iconst 5, 1) := by decide +kernel
theorem dX10_step_14 : decode cX10_step 14 = .ok (.invokestatic 134, 3) := by decide +kernel
theorem dX10_step_17 : decode cX10_step 17 = .ok (.ifCond .eq 26, 3) := by decide +kernel
theorem dX10_step_20 : decode cX10_step 20 = .ok (.aload_n 0, 1) := by decide +kernel
theorem dX10_step_21 : decode cX10_step 21 = .ok (.iload_n 2, 1) := by decide +kernel
theorem dX10_step_22 : decode cX10_step 22 = .ok (.invokevirtual 215, 3) := by decide +kernel
theorem dX10_step_25 : decode cX10_step 25 = .ok (.ifCond .eq 18, 3) := by decide +kernel
theorem dX10_step_28 : decode cX10_step 28 = .ok (.iload_n 3, 1) := by decide +kernel
theorem dX10_step_29 : decode cX10_step 29 = .ok (.iconst 0, 1) := by decide +kernel
theorem dX10_step_30 : decode cX10_step 30 = .ok (.bipush 99, 2) := by decide +kernel
theorem dX10_step_32 : decode cX10_step 32 = .ok (.invokestatic 134, 3) := by decide +kernel
theorem dX10_step_35 : decode cX10_step 35 = .ok (.ifCond .eq 8, 3) := by decide +kernel
theorem dX10_step_38 : decode cX10_step 38 = .ok (.iload 4, 2) := by decide +kernel
theorem dX10_step_40 : decode cX10_step 40 = .ok (.ifCond .ge 7, 3) := by decide +kernel
theorem dX10_step_43 : decode cX10_step 43 = .ok (.ldc2_w 207, 3) := by decide +kernel
theorem dX10_step_46 : decode cX10_step 46 = .ok (.lreturn, 1) := by decide +kernel
theorem dX10_step_47 : decode cX10_step 47 = .ok (.aload_n 0, 1) := by decide +kernel
theorem dX10_step_48 : decode cX10_step 48 = .ok (.getfield 65, 3) := by decide +kernel
theorem dX10_step_51 : decode cX10_step 51 = .ok (.aload_n 0, 1) := by decide +kernel
theorem dX10_step_52 : decode cX10_step 52 = .ok (.getfield 14, 3) := by decide +kernel
theorem dX10_step_55 : decode cX10_step 55 = .ok (.getfield 106, 3) := by decide +kernel
theorem dX10_step_58 : decode cX10_step 58 = .ok (.iload_n 1, 1) := by decide +kernel
theorem dX10_step_59 : decode cX10_step 59 = .ok (.iload_n 2, 1) := by decide +kernel
theorem dX10_step_60 : decode cX10_step 60 = .ok (.iload_n 3, 1) := by decide +kernel
theorem dX10_step_61 : decode cX10_step 61 = .ok (.iload 4, 2) := by decide +kernel
theorem dX10_step_63 : decode cX10_step 63 = .ok (.invokevirtual 218, 3) := by decide +kernel
theorem dX10_step_66 : decode cX10_step 66 = .ok (.aload_n 0, 1) := by decide +kernel
theorem dX10_step_67 : decode cX10_step 67 = .ok (.getfield 65, 3) := by decide +kernel
theorem dX10_step_70 : decode cX10_step 70 = .ok (.iload 5, 2) := by decide +kernel
theorem dX10_step_72 : decode cX10_step 72 = .ok (.invokevirtual 222, 3) := by decide +kernel
theorem dX10_step_75 : decode cX10_step 75 = .ok (.lreturn, 1) := by decide +kernel
theorem dX10_best_0 : decode cX10_best 0 = .ok (.iload_n 1, 1) := by decide +kernel
theorem dX10_best_1 : decode cX10_best 1 = .ok (.iconst 0, 1) := by decide +kernel
theorem dX10_best_2 : decode cX10_best 2 = .ok (.aload_n 0, 1) := by decide +kernel
theorem dX10_best_3 : decode cX10_best 3 = .ok (.getfield 14, 3) := by decide +kernel
theorem dX10_best_6 : decode cX10_best 6 = .ok (.getfield 106, 3) := by decide +kernel
theorem dX10_best_9 : decode cX10_best 9 = .ok (.getfield 225, 3) := by decide +kernel
theorem dX10_best_12 : decode cX10_best 12 = .ok (.invokestatic 134, 3) := by decide +kernel
theorem dX10_best_15 : decode cX10_best 15 = .ok (.ifCond .eq 18, 3) := by decide +kernel
theorem dX10_best_18 : decode cX10_best 18 = .ok (.aload_n 0, 1) := by decide +kernel
theorem dX10_best_19 : decode cX10_best 19 = .ok (.iload_n 2, 1) := by decide +kernel
theorem dX10_best_20 : decode cX10_best 20 = .ok (.invokevirtual 215, 3) := by decide +kernel
theorem dX10_best_23 : decode cX10_best 23 = .ok (.ifCond .eq 10, 3) := by decide +kernel
theorem dX10_best_26 : decode cX10_best 26 = .ok (.iload_n 3, 1) := by decide +kernel
theorem dX10_best_27 : decode cX10_best 27 = .ok (.invokestatic 172, 3) := by decide +kernel
theorem dX10_best_30 : decode cX10_best 30 = .ok (.ifCond .ne 7, 3) := by decide +kernel
theorem dX10_best_33 : decode cX10_best 33 = .ok (.ldc2_w 207, 3) := by decide +kernel
theorem dX10_best_36 : decode cX10_best 36 = .ok (.lreturn, 1) := by decide +kernel
theorem dX10_best_37 : decode cX10_best 37 = .ok (.aload_n 0, 1) := by decide +kernel
theorem dX10_best_38 : decode cX10_best 38 = .ok (.invokevirtual 228, 3) := by decide +kernel
theorem dX10_best_41 : decode cX10_best 41 = .ok (.aload_n 0, 1) := by decide +kernel
theorem dX10_best_42 : decode cX10_best 42 = .ok (.getfield 35, 3) := by decide +kernel
theorem dX10_best_45 : decode cX10_best 45 = .ok (.iload_n 1, 1) := by decide +kernel
theorem dX10_best_46 : decode cX10_best 46 = .ok (.iload_n 2, 1) := by decide +kernel
theorem dX10_best_47 : decode cX10_best 47 = .ok (.iload_n 3, 1) := by decide +kernel
theorem dX10_best_48 : decode cX10_best 48 = .ok (.invokevirtual 231, 3) := by decide +kernel
theorem dX10_best_51 : decode cX10_best 51 = .ok (.invokestatic 235, 3) := by decide +kernel
theorem dX10_best_54 : decode cX10_best 54 = .ok (.i2l, 1) := by decide +kernel
theorem dX10_best_55 : decode cX10_best 55 = .ok (.lreturn, 1) := by decide +kernel
theorem dX10_release_0 : decode cX10_release 0 = .ok (.aload_n 0, 1) := by decide +kernel
theorem dX10_release_1 : decode cX10_release 1 = .ok (.getfield 14, 3) := by decide +kernel
theorem dX10_release_4 : decode cX10_release 4 = .ok (.getfield 106, 3) := by decide +kernel
theorem dX10_release_7 : decode cX10_release 7 = .ok (.iload_n 1, 1) := by decide +kernel
theorem dX10_release_8 : decode cX10_release 8 = .ok (.iload_n 2, 1) := by decide +kernel
theorem dX10_release_9 : decode cX10_release 9 = .ok (.invokevirtual 239, 3) := by decide +kernel
theorem dX10_release_12 : decode cX10_release 12 = .ok (.ifCond .eq 10, 3) := by decide +kernel
theorem dX10_release_15 : decode cX10_release 15 = .ok (.iload_n 3, 1) := by decide +kernel
theorem dX10_release_16 : decode cX10_release 16 = .ok (.invokestatic 172, 3) := by decide +kernel
theorem dX10_release_19 : decode cX10_release 19 = .ok (.ifCond .ne 5, 3) := by decide +kernel
theorem dX10_release_22 : decode cX10_release 22 = .ok (.iconst (-1), 1) := by decide +kernel
theorem dX10_release_23 : decode cX10_release 23 = .ok (.ireturn, 1) := by decide +kernel
theorem dX10_release_24 : decode cX10_release 24 = .ok (.aload_n 0, 1) := by decide +kernel
theorem dX10_release_25 : decode cX10_release 25 = .ok (.invokevirtual 228, 3) := by decide +kernel
theorem dX10_release_28 : decode cX10_release 28 = .ok (.aload_n 0, 1) := by decide +kernel
theorem dX10_release_29 : decode cX10_release 29 = .ok (.getfield 35, 3) := by decide +kernel
theorem dX10_release_32 : decode cX10_release 32 = .ok (.iload_n 1, 1) := by decide +kernel
theorem dX10_release_33 : decode cX10_release 33 = .ok (.iload_n 2, 1) := by decide +kernel
theorem dX10_release_34 : decode cX10_release 34 = .ok (.iload_n 3, 1) := by decide +kernel
theorem dX10_release_35 : decode cX10_release 35 = .ok (.invokevirtual 242, 3) := by decide +kernel
theorem dX10_release_38 : decode cX10_release 38 = .ok (.ireturn, 1) := by decide +kernel
theorem dX10_would_0 : decode cX10_would 0 = .ok (.aload_n 0, 1) := by decide +kernel
theorem dX10_would_1 : decode cX10_would 1 = .ok (.getfield 14, 3) := by decide +kernel
theorem dX10_would_4 : decode cX10_would 4 = .ok (.getfield 106, 3) := by decide +kernel
theorem dX10_would_7 : decode cX10_would 7 = .ok (.iload_n 1, 1) := by decide +kernel
theorem dX10_would_8 : decode cX10_would 8 = .ok (.iload_n 2, 1) := by decide +kernel
theorem dX10_would_9 : decode cX10_would 9 = .ok (.invokevirtual 239, 3) := by decide +kernel
theorem dX10_would_12 : decode cX10_would 12 = .ok (.ifCond .eq 21, 3) := by decide +kernel
theorem dX10_would_15 : decode cX10_would 15 = .ok (.iload_n 3, 1) := by decide +kernel
theorem dX10_would_16 : decode cX10_would 16 = .ok (.invokestatic 172, 3) := by decide +kernel
theorem dX10_would_19 : decode cX10_would 19 = .ok (.ifCond .eq 14, 3) := by decide +kernel
theorem dX10_would_22 : decode cX10_would 22 = .ok (.iload 4, 2) := by decide +kernel
theorem dX10_would_24 : decode cX10_would 24 = .ok (.iconst 0, 1) := by decide +kernel
theorem dX10_would_25 : decode cX10_would 25 = .ok (.bipush 20, 2) := by decide +kernel
theorem dX10_would_27 : decode cX10_would 27 = .ok (.invokestatic 134, 3) := by decide +kernel
theorem dX10_would_30 : decode cX10_would 30 = .ok (.ifCond .ne 7, 3) := by decide +kernel
theorem dX10_would_33 : decode cX10_would 33 = .ok (.ldc2_w 207, 3) := by decide +kernel
theorem dX10_would_36 : decode cX10_would 36 = .ok (.lreturn, 1) := by decide +kernel
theorem dX10_would_37 : decode cX10_would 37 = .ok (.aload_n 0, 1) := by decide +kernel
theorem dX10_would_38 : decode cX10_would 38 = .ok (.invokevirtual 228, 3) := by decide +kernel
theorem dX10_would_41 : decode cX10_would 41 = .ok (.aload_n 0, 1) := by decide +kernel
theorem dX10_would_42 : decode cX10_would 42 = .ok (.getfield 35, 3) := by decide +kernel
theorem dX10_would_45 : decode cX10_would 45 = .ok (.aload_n 0, 1) := by decide +kernel
theorem dX10_would_46 : decode cX10_would 46 = .ok (.getfield 14, 3) := by decide +kernel
theorem dX10_would_49 : decode cX10_would 49 = .ok (.getfield 106, 3) := by decide +kernel
theorem dX10_would_52 : decode cX10_would 52 = .ok (.iload_n 1, 1) := by decide +kernel
theorem dX10_would_53 : decode cX10_would 53 = .ok (.iload_n 2, 1) := by decide +kernel
theorem dX10_would_54 : decode cX10_would 54 = .ok (.iload_n 3, 1) := by decide +kernel
theorem dX10_would_55 : decode cX10_would 55 = .ok (.iload 4, 2) := by decide +kernel
theorem dX10_would_57 : decode cX10_would 57 = .ok (.invokevirtual 245, 3) := by decide +kernel
theorem dX10_would_60 : decode cX10_would 60 = .ok (.invokestatic 235, 3) := by decide +kernel
theorem dX10_would_63 : decode cX10_would 63 = .ok (.i2l, 1) := by decide +kernel
theorem dX10_would_64 : decode cX10_would 64 = .ok (.lreturn, 1) := by decide +kernel
theorem dX10_after_0 : decode cX10_after 0 = .ok (.iload_n 2, 1) := by decide +kernel
theorem dX10_after_1 : decode cX10_after 1 = .ok (.invokestatic 172, 3) := by decide +kernel
theorem dX10_after_4 : decode cX10_after 4 = .ok (.ifCond .eq 20, 3) := by decide +kernel
theorem dX10_after_7 : decode cX10_after 7 = .ok (.iload_n 3, 1) := by decide +kernel
theorem dX10_after_8 : decode cX10_after 8 = .ok (.invokestatic 172, 3) := by decide +kernel
theorem dX10_after_11 : decode cX10_after 11 = .ok (.ifCond .eq 13, 3) := by decide +kernel
theorem dX10_after_14 : decode cX10_after 14 = .ok (.iload_n 1, 1) := by decide +kernel
theorem dX10_after_15 : decode cX10_after 15 = .ok (.iconst 0, 1) := by decide +kernel
theorem dX10_after_16 : decode cX10_after 16 = .ok (.bipush 12, 2) := by decide +kernel
theorem dX10_after_18 : decode cX10_after 18 = .ok (.invokestatic 134, 3) := by decide +kernel
theorem dX10_after_21 : decode cX10_after 21 = .ok (.ifCond .ne 7, 3) := by decide +kernel
theorem dX10_after_24 : decode cX10_after 24 = .ok (.ldc2_w 207, 3) := by decide +kernel
theorem dX10_after_27 : decode cX10_after 27 = .ok (.lreturn, 1) := by decide +kernel
theorem dX10_after_28 : decode cX10_after 28 = .ok (.aload_n 0, 1) := by decide +kernel
theorem dX10_after_29 : decode cX10_after 29 = .ok (.getfield 58, 3) := by decide +kernel
theorem dX10_after_32 : decode cX10_after 32 = .ok (.aload_n 0, 1) := by decide +kernel
theorem dX10_after_33 : decode cX10_after 33 = .ok (.getfield 14, 3) := by decide +kernel
theorem dX10_after_36 : decode cX10_after 36 = .ok (.getfield 106, 3) := by decide +kernel
theorem dX10_after_39 : decode cX10_after 39 = .ok (.invokevirtual 249, 3) := by decide +kernel
theorem dX10_after_42 : decode cX10_after 42 = .ok (.aload_n 0, 1) := by decide +kernel
theorem dX10_after_43 : decode cX10_after 43 = .ok (.getfield 58, 3) := by decide +kernel
theorem dX10_after_46 : decode cX10_after 46 = .ok (.iload_n 1, 1) := by decide +kernel
theorem dX10_after_47 : decode cX10_after 47 = .ok (.iload_n 2, 1) := by decide +kernel
theorem dX10_after_48 : decode cX10_after 48 = .ok (.iload_n 3, 1) := by decide +kernel
theorem dX10_after_49 : decode cX10_after 49 = .ok (.invokevirtual 253, 3) := by decide +kernel
theorem dX10_after_52 : decode cX10_after 52 = .ok (.invokestatic 235, 3) := by decide +kernel
theorem dX10_after_55 : decode cX10_after 55 = .ok (.i2l, 1) := by decide +kernel
theorem dX10_after_56 : decode cX10_after 56 = .ok (.lreturn, 1) := by decide +kernel
theorem dX10_way_0 : decode cX10_way 0 = .ok (.iload_n 1, 1) := by decide +kernel
theorem dX10_way_1 : decode cX10_way 1 = .ok (.invokestatic 172, 3) := by decide +kernel
theorem dX10_way_4 : decode cX10_way 4 = .ok (.ifCond .eq 24, 3) := by decide +kernel
theorem dX10_way_7 : decode cX10_way 7 = .ok (.iload_n 2, 1) := by decide +kernel
theorem dX10_way_8 : decode cX10_way 8 = .ok (.iconst 1, 1) := by decide +kernel
theorem dX10_way_9 : decode cX10_way 9 = .ok (.bipush 8, 2) := by decide +kernel
theorem dX10_way_11 : decode cX10_way 11 = .ok (.invokestatic 134, 3) := by decide +kernel
theorem dX10_way_14 : decode cX10_way 14 = .ok (.ifCond .eq 14, 3) := by decide +kernel
theorem dX10_way_17 : decode cX10_way 17 = .ok (.iload_n 3, 1) := by decide +kernel
theorem dX10_way_18 : decode cX10_way 18 = .ok (.iconst 0, 1) := by decide +kernel
theorem dX10_way_19 : decode cX10_way 19 = .ok (.iload_n 2, 1) := by decide +kernel
theorem dX10_way_20 : decode cX10_way 20 = .ok (.iconst 1, 1) := by decide +kernel
theorem dX10_way_21 : decode cX10_way 21 = .ok (.isub, 1) := by decide +kernel
theorem dX10_way_22 : decode cX10_way 22 = .ok (.invokestatic 134, 3) := by decide +kernel
theorem dX10_way_25 : decode cX10_way 25 = .ok (.ifCond .ne 5, 3) := by decide +kernel
theorem dX10_way_28 : decode cX10_way 28 = .ok (.iconst (-1), 1) := by decide +kernel
theorem dX10_way_29 : decode cX10_way 29 = .ok (.ireturn, 1) := by decide +kernel
theorem dX10_way_30 : decode cX10_way 30 = .ok (.aload_n 0, 1) := by decide +kernel
theorem dX10_way_31 : decode cX10_way 31 = .ok (.getfield 58, 3) := by decide +kernel
theorem dX10_way_34 : decode cX10_way 34 = .ok (.aload_n 0, 1) := by decide +kernel
theorem dX10_way_35 : decode cX10_way 35 = .ok (.getfield 14, 3) := by decide +kernel
theorem dX10_way_38 : decode cX10_way 38 = .ok (.getfield 106, 3) := by decide +kernel
theorem dX10_way_41 : decode cX10_way 41 = .ok (.invokevirtual 249, 3) := by decide +kernel
theorem dX10_way_44 : decode cX10_way 44 = .ok (.aload_n 0, 1) := by decide +kernel
theorem dX10_way_45 : decode cX10_way 45 = .ok (.getfield 58, 3) := by decide +kernel
theorem dX10_way_48 : decode cX10_way 48 = .ok (.iload_n 1, 1) := by decide +kernel
theorem dX10_way_49 : decode cX10_way 49 = .ok (.iload_n 2, 1) := by decide +kernel
theorem dX10_way_50 : decode cX10_way 50 = .ok (.invokevirtual 256, 3) := by decide +kernel
theorem dX10_way_53 : decode cX10_way 53 = .ok (.aload_n 0, 1) := by decide +kernel
theorem dX10_way_54 : decode cX10_way 54 = .ok (.getfield 58, 3) := by decide +kernel
theorem dX10_way_57 : decode cX10_way 57 = .ok (.getfield 259, 3) := by decide +kernel
theorem dX10_way_60 : decode cX10_way 60 = .ok (.iload_n 3, 1) := by decide +kernel
theorem dX10_way_61 : decode cX10_way 61 = .ok (.iaload, 1) := by decide +kernel
theorem dX10_way_62 : decode cX10_way 62 = .ok (.ireturn, 1) := by decide +kernel
theorem dX10_chance_0 : decode cX10_chance 0 = .ok (.iload_n 1, 1) := by decide +kernel
theorem dX10_chance_1 : decode cX10_chance 1 = .ok (.invokestatic 172, 3) := by decide +kernel
theorem dX10_chance_4 : decode cX10_chance 4 = .ok (.ifCond .eq 13, 3) := by decide +kernel
theorem dX10_chance_7 : decode cX10_chance 7 = .ok (.iload_n 2, 1) := by decide +kernel
theorem dX10_chance_8 : decode cX10_chance 8 = .ok (.iconst 1, 1) := by decide +kernel
theorem dX10_chance_9 : decode cX10_chance 9 = .ok (.bipush 8, 2) := by decide +kernel
theorem dX10_chance_11 : decode cX10_chance 11 = .ok (.invokestatic 134, 3) := by decide +kernel
theorem dX10_chance_14 : decode cX10_chance 14 = .ok (.ifCond .ne 7, 3) := by decide +kernel
theorem dX10_chance_17 : decode cX10_chance 17 = .ok (.ldc2_w 207, 3) := by decide +kernel
theorem dX10_chance_20 : decode cX10_chance 20 = .ok (.lreturn, 1) := by decide +kernel
theorem dX10_chance_21 : decode cX10_chance 21 = .ok (.aload_n 0, 1) := by decide +kernel
theorem dX10_chance_22 : decode cX10_chance 22 = .ok (.getfield 58, 3) := by decide +kernel
theorem dX10_chance_25 : decode cX10_chance 25 = .ok (.aload_n 0, 1) := by decide +kernel
theorem dX10_chance_26 : decode cX10_chance 26 = .ok (.getfield 14, 3) := by decide +kernel
theorem dX10_chance_29 : decode cX10_chance 29 = .ok (.getfield 106, 3) := by decide +kernel
theorem dX10_chance_32 : decode cX10_chance 32 = .ok (.invokevirtual 249, 3) := by decide +kernel
theorem dX10_chance_35 : decode cX10_chance 35 = .ok (.aload_n 0, 1) := by decide +kernel
theorem dX10_chance_36 : decode cX10_chance 36 = .ok (.getfield 58, 3) := by decide +kernel
theorem dX10_chance_39 : decode cX10_chance 39 = .ok (.iload_n 1, 1) := by decide +kernel
theorem dX10_chance_40 : decode cX10_chance 40 = .ok (.iload_n 2, 1) := by decide +kernel
theorem dX10_chance_41 : decode cX10_chance 41 = .ok (.invokevirtual 256, 3) := by decide +kernel
theorem dX10_chance_44 : decode cX10_chance 44 = .ok (.aload_n 0, 1) := by decide +kernel
theorem dX10_chance_45 : decode cX10_chance 45 = .ok (.getfield 58, 3) := by decide +kernel
theorem dX10_chance_48 : decode cX10_chance 48 = .ok (.getfield 262, 3) := by decide +kernel
theorem dX10_chance_51 : decode cX10_chance 51 = .ok (.invokestatic 235, 3) := by decide +kernel
theorem dX10_chance_54 : decode cX10_chance 54 = .ok (.i2l, 1) := by decide +kernel
theorem dX10_chance_55 : decode cX10_chance 55 = .ok (.lreturn, 1) := by decide +kernel
theorem dX10_worth_0 : decode cX10_worth 0 = .ok (.aload_n 0, 1) := by decide +kernel
theorem dX10_worth_1 : decode cX10_worth 1 = .ok (.iload_n 1, 1) := by decide +kernel
theorem dX10_worth_2 : decode cX10_worth 2 = .ok (.iload_n 2, 1) := by decide +kernel
theorem dX10_worth_3 : decode cX10_worth 3 = .ok (.invokevirtual 266, 3) := by decide +kernel
theorem dX10_worth_6 : decode cX10_worth 6 = .ok (.ifCond .eq 19, 3) := by decide +kernel
theorem dX10_worth_9 : decode cX10_worth 9 = .ok (.aload_n 0, 1) := by decide +kernel
theorem dX10_worth_10 : decode cX10_worth 10 = .ok (.iload_n 3, 1) := by decide +kernel
theorem dX10_worth_11 : decode cX10_worth 11 = .ok (.invokevirtual 215, 3) := by decide +kernel
theorem dX10_worth_14 : decode cX10_worth 14 = .ok (.ifCond .eq 11, 3) := by decide +kernel
theorem dX10_worth_17 : decode cX10_worth 17 = .ok (.iload 4, 2) := by decide +kernel
theorem dX10_worth_19 : decode cX10_worth 19 = .ok (.invokestatic 172, 3) := by decide +kernel
theorem dX10_worth_22 : decode cX10_worth 22 = .ok (.ifCond .ne 7, 3) := by decide +kernel
theorem dX10_worth_25 : decode cX10_worth 25 = .ok (.ldc2_w 207, 3) := by decide +kernel
theorem dX10_worth_28 : decode cX10_worth 28 = .ok (.lreturn, 1) := by decide +kernel
theorem dX10_worth_29 : decode cX10_worth 29 = .ok (.aload_n 0, 1) := by decide +kernel
theorem dX10_worth_30 : decode cX10_worth 30 = .ok (.getfield 28, 3) := by decide +kernel
theorem dX10_worth_33 : decode cX10_worth 33 = .ok (.aload_n 0, 1) := by decide +kernel
theorem dX10_worth_34 : decode cX10_worth 34 = .ok (.getfield 14, 3) := by decide +kernel
theorem dX10_worth_37 : decode cX10_worth 37 = .ok (.getfield 106, 3) := by decide +kernel
theorem dX10_worth_40 : decode cX10_worth 40 = .ok (.invokevirtual 269, 3) := by decide +kernel
theorem dX10_worth_43 : decode cX10_worth 43 = .ok (.iload_n 1, 1) := by decide +kernel
theorem dX10_worth_44 : decode cX10_worth 44 = .ok (.ifCond .ne 14, 3) := by decide +kernel
theorem dX10_worth_47 : decode cX10_worth 47 = .ok (.aload_n 0, 1) := by decide +kernel
theorem dX10_worth_48 : decode cX10_worth 48 = .ok (.getfield 28, 3) := by decide +kernel
theorem dX10_worth_51 : decode cX10_worth 51 = .ok (.iload_n 2, 1) := by decide +kernel
theorem dX10_worth_52 : decode cX10_worth 52 = .ok (.invokevirtual 272, 3) := by decide +kernel
theorem dX10_worth_55 : decode cX10_worth 55 = .ok (.goto 37, 3) := by decide +kernel
theorem dX10_worth_58 : decode cX10_worth 58 = .ok (.iload_n 1, 1) := by decide +kernel
theorem dX10_worth_59 : decode cX10_worth 59 = .ok (.iconst 1, 1) := by decide +kernel
theorem dX10_worth_60 : decode cX10_worth 60 = .ok (.if_icmp .ne 19, 3) := by decide +kernel
theorem dX10_worth_63 : decode cX10_worth 63 = .ok (.aload_n 0, 1) := by decide +kernel
theorem dX10_worth_64 : decode cX10_worth 64 = .ok (.getfield 28, 3) := by decide +kernel
theorem dX10_worth_67 : decode cX10_worth 67 = .ok (.dup, 1) := by decide +kernel
theorem dX10_worth_68 : decode cX10_worth 68 = .ok (.getfield 276, 3) := by decide +kernel
theorem dX10_worth_71 : decode cX10_worth 71 = .ok (.iconst 1, 1) := by decide +kernel
theorem dX10_worth_72 : decode cX10_worth 72 = .ok (.iadd, 1) := by decide +kernel
theorem dX10_worth_73 : decode cX10_worth 73 = .ok (.putfield 276, 3) := by decide +kernel
theorem dX10_worth_76 : decode cX10_worth 76 = .ok (.goto 16, 3) := by decide +kernel
theorem dX10_worth_79 : decode cX10_worth 79 = .ok (.aload_n 0, 1) := by decide +kernel
theorem dX10_worth_80 : decode cX10_worth 80 = .ok (.getfield 28, 3) := by decide +kernel
theorem dX10_worth_83 : decode cX10_worth 83 = .ok (.getfield 166, 3) := by decide +kernel
theorem dX10_worth_86 : decode cX10_worth 86 = .ok (.iload_n 2, 1) := by decide +kernel
theorem dX10_worth_87 : decode cX10_worth 87 = .ok (.dup2, 1) := by decide +kernel
theorem dX10_worth_88 : decode cX10_worth 88 = .ok (.iaload, 1) := by decide +kernel
theorem dX10_worth_89 : decode cX10_worth 89 = .ok (.iconst 1, 1) := by decide +kernel
theorem dX10_worth_90 : decode cX10_worth 90 = .ok (.iadd, 1) := by decide +kernel
theorem dX10_worth_91 : decode cX10_worth 91 = .ok (.iastore, 1) := by decide +kernel
theorem dX10_worth_92 : decode cX10_worth 92 = .ok (.aload_n 0, 1) := by decide +kernel
theorem dX10_worth_93 : decode cX10_worth 93 = .ok (.invokevirtual 228, 3) := by decide +kernel
theorem dX10_worth_96 : decode cX10_worth 96 = .ok (.aload_n 0, 1) := by decide +kernel
theorem dX10_worth_97 : decode cX10_worth 97 = .ok (.invokevirtual 279, 3) := by decide +kernel
theorem dX10_worth_100 : decode cX10_worth 100 = .ok (.aload_n 0, 1) := by decide +kernel
theorem dX10_worth_101 : decode cX10_worth 101 = .ok (.getfield 35, 3) := by decide +kernel
theorem dX10_worth_104 : decode cX10_worth 104 = .ok (.iconst 0, 1) := by decide +kernel
theorem dX10_worth_105 : decode cX10_worth 105 = .ok (.iload_n 3, 1) := by decide +kernel
theorem dX10_worth_106 : decode cX10_worth 106 = .ok (.iload 4, 2) := by decide +kernel
theorem dX10_worth_108 : decode cX10_worth 108 = .ok (.invokevirtual 231, 3) := by decide +kernel
theorem dX10_worth_111 : decode cX10_worth 111 = .ok (.fstore 5, 2) := by decide +kernel
theorem dX10_worth_113 : decode cX10_worth 113 = .ok (.aload_n 0, 1) := by decide +kernel
theorem dX10_worth_114 : decode cX10_worth 114 = .ok (.getfield 39, 3) := by decide +kernel
theorem dX10_worth_117 : decode cX10_worth 117 = .ok (.iconst 0, 1) := by decide +kernel
theorem dX10_worth_118 : decode cX10_worth 118 = .ok (.iload_n 3, 1) := by decide +kernel
theorem dX10_worth_119 : decode cX10_worth 119 = .ok (.iload 4, 2) := by decide +kernel
theorem dX10_worth_121 : decode cX10_worth 121 = .ok (.invokevirtual 231, 3) := by decide +kernel
theorem dX10_worth_124 : decode cX10_worth 124 = .ok (.fstore 6, 2) := by decide +kernel
theorem dX10_worth_126 : decode cX10_worth 126 = .ok (.iload_n 1, 1) := by decide +kernel
theorem dX10_worth_127 : decode cX10_worth 127 = .ok (.iconst 1, 1) := by decide +kernel
theorem dX10_worth_128 : decode cX10_worth 128 = .ok (.if_icmp .ne 11, 3) := by decide +kernel
theorem dX10_worth_131 : decode cX10_worth 131 = .ok (.fload 6, 2) := by decide +kernel
theorem dX10_worth_133 : decode cX10_worth 133 = .ok (.fload 5, 2) := by decide +kernel
theorem dX10_worth_135 : decode cX10_worth 135 = .ok (.fsub, 1) := by decide +kernel
theorem dX10_worth_136 : decode cX10_worth 136 = .ok (.goto 8, 3) := by decide +kernel
theorem dX10_worth_139 : decode cX10_worth 139 = .ok (.fload 5, 2) := by decide +kernel
theorem dX10_worth_141 : decode cX10_worth 141 = .ok (.fload 6, 2) := by decide +kernel
theorem dX10_worth_143 : decode cX10_worth 143 = .ok (.fsub, 1) := by decide +kernel
theorem dX10_worth_144 : decode cX10_worth 144 = .ok (.invokestatic 235, 3) := by decide +kernel
theorem dX10_worth_147 : decode cX10_worth 147 = .ok (.i2l, 1) := by decide +kernel
theorem dX10_worth_148 : decode cX10_worth 148 = .ok (.lreturn, 1) := by decide +kernel
theorem dX10_record_0 : decode cX10_record 0 = .ok (.iload_n 1, 1) := by decide +kernel
theorem dX10_record_1 : decode cX10_record 1 = .ok (.iconst 0, 1) := by decide +kernel
theorem dX10_record_2 : decode cX10_record 2 = .ok (.iconst 3, 1) := by decide +kernel
theorem dX10_record_3 : decode cX10_record 3 = .ok (.invokestatic 134, 3) := by decide +kernel
theorem dX10_record_6 : decode cX10_record 6 = .ok (.ifCond .ne 5, 3) := by decide +kernel
theorem dX10_record_9 : decode cX10_record 9 = .ok (.iconst (-1), 1) := by decide +kernel
theorem dX10_record_10 : decode cX10_record 10 = .ok (.ireturn, 1) := by decide +kernel
theorem dX10_record_11 : decode cX10_record 11 = .ok (.iload_n 2, 1) := by decide +kernel
theorem dX10_record_12 : decode cX10_record 12 = .ok (.iconst (-1), 1) := by decide +kernel
theorem dX10_record_13 : decode cX10_record 13 = .ok (.if_icmp .ne 13, 3) := by decide +kernel
theorem dX10_record_16 : decode cX10_record 16 = .ok (.aload_n 0, 1) := by decide +kernel
theorem dX10_record_17 : decode cX10_record 17 = .ok (.getfield 78, 3) := by decide +kernel
theorem dX10_record_20 : decode cX10_record 20 = .ok (.iload_n 1, 1) := by decide +kernel
theorem dX10_record_21 : decode cX10_record 21 = .ok (.aaload, 1) := by decide +kernel
theorem dX10_record_22 : decode cX10_record 22 = .ok (.invokevirtual 145, 3) := by decide +kernel
theorem dX10_record_25 : decode cX10_record 25 = .ok (.ireturn, 1) := by decide +kernel
theorem dX10_record_26 : decode cX10_record 26 = .ok (.iload_n 2, 1) := by decide +kernel
theorem dX10_record_27 : decode cX10_record 27 = .ok (.iconst 0, 1) := by decide +kernel
theorem dX10_record_28 : decode cX10_record 28 = .ok (.bipush 9, 2) := by decide +kernel
theorem dX10_record_30 : decode cX10_record 30 = .ok (.invokestatic 134, 3) := by decide +kernel
theorem dX10_record_33 : decode cX10_record 33 = .ok (.ifCond .ne 6, 3) := by decide +kernel
theorem dX10_record_36 : decode cX10_record 36 = .ok (.bipush (-2), 2) := by decide +kernel
theorem dX10_record_38 : decode cX10_record 38 = .ok (.ireturn, 1) := by decide +kernel
theorem dX10_record_39 : decode cX10_record 39 = .ok (.aload_n 0, 1) := by decide +kernel
theorem dX10_record_40 : decode cX10_record 40 = .ok (.getfield 78, 3) := by decide +kernel
theorem dX10_record_43 : decode cX10_record 43 = .ok (.iload_n 1, 1) := by decide +kernel
theorem dX10_record_44 : decode cX10_record 44 = .ok (.aaload, 1) := by decide +kernel
theorem dX10_record_45 : decode cX10_record 45 = .ok (.iload_n 2, 1) := by decide +kernel
theorem dX10_record_46 : decode cX10_record 46 = .ok (.invokevirtual 138, 3) := by decide +kernel
theorem dX10_record_49 : decode cX10_record 49 = .ok (.ireturn, 1) := by decide +kernel
theorem dX10_replay_0 : decode cX10_replay 0 = .ok (.aload_n 0, 1) := by decide +kernel
theorem dX10_replay_1 : decode cX10_replay 1 = .ok (.iload_n 1, 1) := by decide +kernel
theorem dX10_replay_2 : decode cX10_replay 2 = .ok (.iload_n 2, 1) := by decide +kernel
theorem dX10_replay_3 : decode cX10_replay 3 = .ok (.iload_n 3, 1) := by decide +kernel
theorem dX10_replay_4 : decode cX10_replay 4 = .ok (.invokevirtual 282, 3) := by decide +kernel
theorem dX10_replay_7 : decode cX10_replay 7 = .ok (.ifCond .eq 31, 3) := by decide +kernel
theorem dX10_replay_10 : decode cX10_replay 10 = .ok (.iload 4, 2) := by decide +kernel
theorem dX10_replay_12 : decode cX10_replay 12 = .ok (.iconst 0, 1) := by decide +kernel
theorem dX10_replay_13 : decode cX10_replay 13 = .ok (.aload_n 0, 1) := by decide +kernel
theorem dX10_replay_14 : decode cX10_replay 14 = .ok (.getfield 78, 3) := by decide +kernel
theorem dX10_replay_17 : decode cX10_replay 17 = .ok (.iload_n 1, 1) := by decide +kernel
theorem dX10_replay_18 : decode cX10_replay 18 = .ok (.aaload, 1) := by decide +kernel
theorem dX10_replay_19 : decode cX10_replay 19 = .ok (.getfield 285, 3) := by decide +kernel
theorem dX10_replay_22 : decode cX10_replay 22 = .ok (.invokestatic 134, 3) := by decide +kernel
theorem dX10_replay_25 : decode cX10_replay 25 = .ok (.ifCond .eq 13, 3) := by decide +kernel
theorem dX10_replay_28 : decode cX10_replay 28 = .ok (.iload 5, 2) := by decide +kernel
theorem dX10_replay_30 : decode cX10_replay 30 = .ok (.iconst 0, 1) := by decide +kernel
theorem dX10_replay_31 : decode cX10_replay 31 = .ok (.iconst 5, 1) := by decide +kernel
theorem dX10_replay_32 : decode cX10_replay 32 = .ok (.invokestatic 134, 3) := by decide +kernel
theorem dX10_replay_35 : decode cX10_replay 35 = .ok (.ifCond .ne 7, 3) := by decide +kernel
theorem dX10_replay_38 : decode cX10_replay 38 = .ok (.ldc2_w 207, 3) := by decide +kernel
theorem dX10_replay_41 : decode cX10_replay 41 = .ok (.lreturn, 1) := by decide +kernel
theorem dX10_replay_42 : decode cX10_replay 42 = .ok (.aload_n 0, 1) := by decide +kernel
theorem dX10_replay_43 : decode cX10_replay 43 = .ok (.iload_n 1, 1) := by decide +kernel
theorem dX10_replay_44 : decode cX10_replay 44 = .ok (.iload_n 2, 1) := by decide +kernel
theorem dX10_replay_45 : decode cX10_replay 45 = .ok (.iload_n 3, 1) := by decide +kernel
theorem dX10_replay_46 : decode cX10_replay 46 = .ok (.iload 4, 2) := by decide +kernel
theorem dX10_replay_48 : decode cX10_replay 48 = .ok (.invokevirtual 286, 3) := by decide +kernel
theorem dX10_replay_51 : decode cX10_replay 51 = .ok (.aload_n 0, 1) := by decide +kernel
theorem dX10_replay_52 : decode cX10_replay 52 = .ok (.getfield 72, 3) := by decide +kernel
theorem dX10_replay_55 : decode cX10_replay 55 = .ok (.iload 5, 2) := by decide +kernel
theorem dX10_replay_57 : decode cX10_replay 57 = .ok (.invokevirtual 290, 3) := by decide +kernel
theorem dX10_replay_60 : decode cX10_replay 60 = .ok (.lreturn, 1) := by decide +kernel
theorem dX10_sure_0 : decode cX10_sure 0 = .ok (.aload_n 0, 1) := by decide +kernel
theorem dX10_sure_1 : decode cX10_sure 1 = .ok (.iload_n 1, 1) := by decide +kernel
theorem dX10_sure_2 : decode cX10_sure 2 = .ok (.iload_n 2, 1) := by decide +kernel
theorem dX10_sure_3 : decode cX10_sure 3 = .ok (.iload_n 3, 1) := by decide +kernel
theorem dX10_sure_4 : decode cX10_sure 4 = .ok (.invokevirtual 282, 3) := by decide +kernel
theorem dX10_sure_7 : decode cX10_sure 7 = .ok (.ifCond .eq 28, 3) := by decide +kernel
theorem dX10_sure_10 : decode cX10_sure 10 = .ok (.aload_n 0, 1) := by decide +kernel
theorem dX10_sure_11 : decode cX10_sure 11 = .ok (.getfield 14, 3) := by decide +kernel
theorem dX10_sure_14 : decode cX10_sure 14 = .ok (.getfield 106, 3) := by decide +kernel
theorem dX10_sure_17 : decode cX10_sure 17 = .ok (.iload 4, 2) := by decide +kernel
theorem dX10_sure_19 : decode cX10_sure 19 = .ok (.invokevirtual 182, 3) := by decide +kernel
theorem dX10_sure_22 : decode cX10_sure 22 = .ok (.ifCond .eq 13, 3) := by decide +kernel
theorem dX10_sure_25 : decode cX10_sure 25 = .ok (.iload 5, 2) := by decide +kernel
theorem dX10_sure_27 : decode cX10_sure 27 = .ok (.iconst 0, 1) := by decide +kernel
theorem dX10_sure_28 : decode cX10_sure 28 = .ok (.iconst 1, 1) := by decide +kernel
theorem dX10_sure_29 : decode cX10_sure 29 = .ok (.invokestatic 134, 3) := by decide +kernel
theorem dX10_sure_32 : decode cX10_sure 32 = .ok (.ifCond .ne 7, 3) := by decide +kernel
theorem dX10_sure_35 : decode cX10_sure 35 = .ok (.ldc2_w 207, 3) := by decide +kernel
theorem dX10_sure_38 : decode cX10_sure 38 = .ok (.lreturn, 1) := by decide +kernel
theorem dX10_sure_39 : decode cX10_sure 39 = .ok (.aload_n 0, 1) := by decide +kernel
theorem dX10_sure_40 : decode cX10_sure 40 = .ok (.iload_n 1, 1) := by decide +kernel
theorem dX10_sure_41 : decode cX10_sure 41 = .ok (.iload_n 2, 1) := by decide +kernel
theorem dX10_sure_42 : decode cX10_sure 42 = .ok (.iload_n 3, 1) := by decide +kernel
theorem dX10_sure_43 : decode cX10_sure 43 = .ok (.aload_n 0, 1) := by decide +kernel
theorem dX10_sure_44 : decode cX10_sure 44 = .ok (.getfield 78, 3) := by decide +kernel
theorem dX10_sure_47 : decode cX10_sure 47 = .ok (.iload_n 1, 1) := by decide +kernel
theorem dX10_sure_48 : decode cX10_sure 48 = .ok (.aaload, 1) := by decide +kernel
theorem dX10_sure_49 : decode cX10_sure 49 = .ok (.getfield 285, 3) := by decide +kernel
theorem dX10_sure_52 : decode cX10_sure 52 = .ok (.invokevirtual 286, 3) := by decide +kernel
theorem dX10_sure_55 : decode cX10_sure 55 = .ok (.aload_n 0, 1) := by decide +kernel
theorem dX10_sure_56 : decode cX10_sure 56 = .ok (.getfield 72, 3) := by decide +kernel
theorem dX10_sure_59 : decode cX10_sure 59 = .ok (.aload_n 0, 1) := by decide +kernel
theorem dX10_sure_60 : decode cX10_sure 60 = .ok (.getfield 14, 3) := by decide +kernel
theorem dX10_sure_63 : decode cX10_sure 63 = .ok (.getfield 106, 3) := by decide +kernel
theorem dX10_sure_66 : decode cX10_sure 66 = .ok (.iload 4, 2) := by decide +kernel
theorem dX10_sure_68 : decode cX10_sure 68 = .ok (.invokevirtual 291, 3) := by decide +kernel
theorem dX10_sure_71 : decode cX10_sure 71 = .ok (.istore 6, 2) := by decide +kernel
theorem dX10_sure_73 : decode cX10_sure 73 = .ok (.aload_n 0, 1) := by decide +kernel
theorem dX10_sure_74 : decode cX10_sure 74 = .ok (.getfield 72, 3) := by decide +kernel
theorem dX10_sure_77 : decode cX10_sure 77 = .ok (.aload_n 0, 1) := by decide +kernel
theorem dX10_sure_78 : decode cX10_sure 78 = .ok (.getfield 14, 3) := by decide +kernel
theorem dX10_sure_81 : decode cX10_sure 81 = .ok (.getfield 106, 3) := by decide +kernel
theorem dX10_sure_84 : decode cX10_sure 84 = .ok (.iload 4, 2) := by decide +kernel
theorem dX10_sure_86 : decode cX10_sure 86 = .ok (.invokevirtual 295, 3) := by decide +kernel
theorem dX10_sure_89 : decode cX10_sure 89 = .ok (.istore 7, 2) := by decide +kernel
theorem dX10_sure_91 : decode cX10_sure 91 = .ok (.iload 6, 2) := by decide +kernel
theorem dX10_sure_93 : decode cX10_sure 93 = .ok (.ifCond .gt 7, 3) := by decide +kernel
theorem dX10_sure_96 : decode cX10_sure 96 = .ok (.ldc2_w 207, 3) := by decide +kernel
theorem dX10_sure_99 : decode cX10_sure 99 = .ok (.lreturn, 1) := by decide +kernel
theorem dX10_sure_100 : decode cX10_sure 100 = .ok (.iload 6, 2) := by decide +kernel
theorem dX10_sure_102 : decode cX10_sure 102 = .ok (.iload 7, 2) := by decide +kernel
theorem dX10_sure_104 : decode cX10_sure 104 = .ok (.invokestatic 298, 3) := by decide +kernel
theorem dX10_sure_107 : decode cX10_sure 107 = .ok (.istore 8, 2) := by decide +kernel
theorem dX10_sure_109 : decode cX10_sure 109 = .ok (.iload 5, 2) := by decide +kernel
theorem dX10_sure_111 : decode cX10_sure 111 = .ok (.ifCond .ne 12, 3) := by decide +kernel
theorem dX10_sure_114 : decode cX10_sure 114 = .ok (.iload 7, 2) := by decide +kernel
theorem dX10_sure_116 : decode cX10_sure 116 = .ok (.iload 8, 2) := by decide +kernel
theorem dX10_sure_118 : decode cX10_sure 118 = .ok (.idiv, 1) := by decide +kernel
theorem dX10_sure_119 : decode cX10_sure 119 = .ok (.i2l, 1) := by decide +kernel
theorem dX10_sure_120 : decode cX10_sure 120 = .ok (.goto 9, 3) := by decide +kernel
theorem dX10_sure_123 : decode cX10_sure 123 = .ok (.iload 6, 2) := by decide +kernel
theorem dX10_sure_125 : decode cX10_sure 125 = .ok (.iload 8, 2) := by decide +kernel
theorem dX10_sure_127 : decode cX10_sure 127 = .ok (.idiv, 1) := by decide +kernel
theorem dX10_sure_128 : decode cX10_sure 128 = .ok (.i2l, 1) := by decide +kernel
theorem dX10_sure_129 : decode cX10_sure 129 = .ok (.lreturn, 1) := by decide +kernel
theorem dX10_learn_0 : decode cX10_learn 0 = .ok (.iload_n 1, 1) := by decide +kernel
theorem dX10_learn_1 : decode cX10_learn 1 = .ok (.iconst 0, 1) := by decide +kernel
theorem dX10_learn_2 : decode cX10_learn 2 = .ok (.iconst 3, 1) := by decide +kernel
theorem dX10_learn_3 : decode cX10_learn 3 = .ok (.invokestatic 134, 3) := by decide +kernel
theorem dX10_learn_6 : decode cX10_learn 6 = .ok (.ifCond .ne 5, 3) := by decide +kernel
theorem dX10_learn_9 : decode cX10_learn 9 = .ok (.iconst (-1), 1) := by decide +kernel
theorem dX10_learn_10 : decode cX10_learn 10 = .ok (.ireturn, 1) := by decide +kernel
theorem dX10_learn_11 : decode cX10_learn 11 = .ok (.aload_n 0, 1) := by decide +kernel
theorem dX10_learn_12 : decode cX10_learn 12 = .ok (.getfield 78, 3) := by decide +kernel
theorem dX10_learn_15 : decode cX10_learn 15 = .ok (.iload_n 1, 1) := by decide +kernel
theorem dX10_learn_16 : decode cX10_learn 16 = .ok (.aaload, 1) := by decide +kernel
theorem dX10_learn_17 : decode cX10_learn 17 = .ok (.getfield 285, 3) := by decide +kernel
theorem dX10_learn_20 : decode cX10_learn 20 = .ok (.iconst 2, 1) := by decide +kernel
theorem dX10_learn_21 : decode cX10_learn 21 = .ok (.if_icmp .ge 6, 3) := by decide +kernel
theorem dX10_learn_24 : decode cX10_learn 24 = .ok (.bipush (-3), 2) := by decide +kernel
theorem dX10_learn_26 : decode cX10_learn 26 = .ok (.ireturn, 1) := by decide +kernel
theorem dX10_learn_27 : decode cX10_learn 27 = .ok (.aload_n 0, 1) := by decide +kernel
theorem dX10_learn_28 : decode cX10_learn 28 = .ok (.invokevirtual 103, 3) := by decide +kernel
theorem dX10_learn_31 : decode cX10_learn 31 = .ok (.aload_n 0, 1) := by decide +kernel
theorem dX10_learn_32 : decode cX10_learn 32 = .ok (.getfield 14, 3) := by decide +kernel
theorem dX10_learn_35 : decode cX10_learn 35 = .ok (.getfield 106, 3) := by decide +kernel
theorem dX10_learn_38 : decode cX10_learn 38 = .ok (.aload_n 0, 1) := by decide +kernel
theorem dX10_learn_39 : decode cX10_learn 39 = .ok (.getfield 78, 3) := by decide +kernel
theorem dX10_learn_42 : decode cX10_learn 42 = .ok (.iload_n 1, 1) := by decide +kernel
theorem dX10_learn_43 : decode cX10_learn 43 = .ok (.aaload, 1) := by decide +kernel
theorem dX10_learn_44 : decode cX10_learn 44 = .ok (.invokevirtual 301, 3) := by decide +kernel
theorem dX10_learn_47 : decode cX10_learn 47 = .ok (.aload_n 0, 1) := by decide +kernel
theorem dX10_learn_48 : decode cX10_learn 48 = .ok (.getfield 78, 3) := by decide +kernel
theorem dX10_learn_51 : decode cX10_learn 51 = .ok (.iload_n 1, 1) := by decide +kernel
theorem dX10_learn_52 : decode cX10_learn 52 = .ok (.aaload, 1) := by decide +kernel
theorem dX10_learn_53 : decode cX10_learn 53 = .ok (.getfield 285, 3) := by decide +kernel
theorem dX10_learn_56 : decode cX10_learn 56 = .ok (.ireturn, 1) := by decide +kernel
theorem dX10_see_0 : decode cX10_see 0 = .ok (.aload_n 0, 1) := by decide +kernel
theorem dX10_see_1 : decode cX10_see 1 = .ok (.iconst 0, 1) := by decide +kernel
theorem dX10_see_2 : decode cX10_see 2 = .ok (.putfield 45, 3) := by decide +kernel
theorem dX10_see_5 : decode cX10_see 5 = .ok (.iload_n 1, 1) := by decide +kernel
theorem dX10_see_6 : decode cX10_see 6 = .ok (.iconst (-1), 1) := by decide +kernel
theorem dX10_see_7 : decode cX10_see 7 = .ok (.if_icmp .ne 14, 3) := by decide +kernel
theorem dX10_see_10 : decode cX10_see 10 = .ok (.aload_n 0, 1) := by decide +kernel
theorem dX10_see_11 : decode cX10_see 11 = .ok (.getfield 14, 3) := by decide +kernel
theorem dX10_see_14 : decode cX10_see 14 = .ok (.getfield 305, 3) := by decide +kernel
theorem dX10_see_17 : decode cX10_see 17 = .ok (.invokevirtual 145, 3) := by decide +kernel
theorem dX10_see_20 : decode cX10_see 20 = .ok (.ireturn, 1) := by decide +kernel
theorem dX10_see_21 : decode cX10_see 21 = .ok (.aload_n 0, 1) := by decide +kernel
theorem dX10_see_22 : decode cX10_see 22 = .ok (.getfield 14, 3) := by decide +kernel
theorem dX10_see_25 : decode cX10_see 25 = .ok (.getfield 106, 3) := by decide +kernel
theorem dX10_see_28 : decode cX10_see 28 = .ok (.iload_n 1, 1) := by decide +kernel
theorem dX10_see_29 : decode cX10_see 29 = .ok (.iload_n 2, 1) := by decide +kernel
theorem dX10_see_30 : decode cX10_see 30 = .ok (.invokevirtual 239, 3) := by decide +kernel
theorem dX10_see_33 : decode cX10_see 33 = .ok (.ifCond .eq 10, 3) := by decide +kernel
theorem dX10_see_36 : decode cX10_see 36 = .ok (.iload_n 3, 1) := by decide +kernel
theorem dX10_see_37 : decode cX10_see 37 = .ok (.invokestatic 172, 3) := by decide +kernel
theorem dX10_see_40 : decode cX10_see 40 = .ok (.ifCond .ne 5, 3) := by decide +kernel
theorem dX10_see_43 : decode cX10_see 43 = .ok (.iconst (-1), 1) := by decide +kernel
theorem dX10_see_44 : decode cX10_see 44 = .ok (.ireturn, 1) := by decide +kernel
theorem dX10_see_45 : decode cX10_see 45 = .ok (.iload 4, 2) := by decide +kernel
theorem dX10_see_47 : decode cX10_see 47 = .ok (.iconst 0, 1) := by decide +kernel
theorem dX10_see_48 : decode cX10_see 48 = .ok (.bipush 20, 2) := by decide +kernel
theorem dX10_see_50 : decode cX10_see 50 = .ok (.invokestatic 134, 3) := by decide +kernel
theorem dX10_see_53 : decode cX10_see 53 = .ok (.ifCond .ne 6, 3) := by decide +kernel
theorem dX10_see_56 : decode cX10_see 56 = .ok (.bipush (-2), 2) := by decide +kernel
theorem dX10_see_58 : decode cX10_see 58 = .ok (.ireturn, 1) := by decide +kernel
theorem dX10_see_59 : decode cX10_see 59 = .ok (.aload_n 0, 1) := by decide +kernel
theorem dX10_see_60 : decode cX10_see 60 = .ok (.getfield 14, 3) := by decide +kernel
theorem dX10_see_63 : decode cX10_see 63 = .ok (.getfield 305, 3) := by decide +kernel
theorem dX10_see_66 : decode cX10_see 66 = .ok (.iload_n 1, 1) := by decide +kernel
theorem dX10_see_67 : decode cX10_see 67 = .ok (.iload_n 2, 1) := by decide +kernel
theorem dX10_see_68 : decode cX10_see 68 = .ok (.iload_n 3, 1) := by decide +kernel
theorem dX10_see_69 : decode cX10_see 69 = .ok (.iload 4, 2) := by decide +kernel
theorem dX10_see_71 : decode cX10_see 71 = .ok (.invokevirtual 308, 3) := by decide +kernel
theorem dX10_see_74 : decode cX10_see 74 = .ok (.ireturn, 1) := by decide +kernel
theorem dX10_fits_0 : decode cX10_fits 0 = .ok (.iload_n 1, 1) := by decide +kernel
theorem dX10_fits_1 : decode cX10_fits 1 = .ok (.iconst 0, 1) := by decide +kernel
theorem dX10_fits_2 : decode cX10_fits 2 = .ok (.iconst 1, 1) := by decide +kernel
theorem dX10_fits_3 : decode cX10_fits 3 = .ok (.invokestatic 134, 3) := by decide +kernel
theorem dX10_fits_6 : decode cX10_fits 6 = .ok (.ifCond .ne 5, 3) := by decide +kernel
theorem dX10_fits_9 : decode cX10_fits 9 = .ok (.iconst (-1), 1) := by decide +kernel
theorem dX10_fits_10 : decode cX10_fits 10 = .ok (.ireturn, 1) := by decide +kernel
theorem dX10_fits_11 : decode cX10_fits 11 = .ok (.aload_n 0, 1) := by decide +kernel
theorem dX10_fits_12 : decode cX10_fits 12 = .ok (.invokevirtual 311, 3) := by decide +kernel
theorem dX10_fits_15 : decode cX10_fits 15 = .ok (.iload_n 1, 1) := by decide +kernel
theorem dX10_fits_16 : decode cX10_fits 16 = .ok (.ifCond .ne 10, 3) := by decide +kernel
theorem dX10_fits_19 : decode cX10_fits 19 = .ok (.aload_n 0, 1) := by decide +kernel
theorem dX10_fits_20 : decode cX10_fits 20 = .ok (.getfield 48, 3) := by decide +kernel
theorem dX10_fits_23 : decode cX10_fits 23 = .ok (.goto 7, 3) := by decide +kernel
theorem dX10_fits_26 : decode cX10_fits 26 = .ok (.aload_n 0, 1) := by decide +kernel
theorem dX10_fits_27 : decode cX10_fits 27 = .ok (.getfield 52, 3) := by decide +kernel
theorem dX10_fits_30 : decode cX10_fits 30 = .ok (.ireturn, 1) := by decide +kernel
theorem dX10_plan_0 : decode cX10_plan 0 = .ok (.iload_n 1, 1) := by decide +kernel
theorem dX10_plan_1 : decode cX10_plan 1 = .ok (.iconst (-1), 1) := by decide +kernel
theorem dX10_plan_2 : decode cX10_plan 2 = .ok (.if_icmp .ne 14, 3) := by decide +kernel
theorem dX10_plan_5 : decode cX10_plan 5 = .ok (.aload_n 0, 1) := by decide +kernel
theorem dX10_plan_6 : decode cX10_plan 6 = .ok (.getfield 14, 3) := by decide +kernel
theorem dX10_plan_9 : decode cX10_plan 9 = .ok (.getfield 314, 3) := by decide +kernel
theorem dX10_plan_12 : decode cX10_plan 12 = .ok (.invokevirtual 145, 3) := by decide +kernel
theorem dX10_plan_15 : decode cX10_plan 15 = .ok (.ireturn, 1) := by decide +kernel
theorem dX10_plan_16 : decode cX10_plan 16 = .ok (.iload_n 1, 1) := by decide +kernel
theorem dX10_plan_17 : decode cX10_plan 17 = .ok (.iconst 0, 1) := by decide +kernel
theorem dX10_plan_18 : decode cX10_plan 18 = .ok (.iconst 3, 1) := by decide +kernel
theorem dX10_plan_19 : decode cX10_plan 19 = .ok (.invokestatic 134, 3) := by decide +kernel
theorem dX10_plan_22 : decode cX10_plan 22 = .ok (.ifCond .eq 22, 3) := by decide +kernel
theorem dX10_plan_25 : decode cX10_plan 25 = .ok (.iload_n 1, 1) := by decide +kernel
theorem dX10_plan_26 : decode cX10_plan 26 = .ok (.iconst 3, 1) := by decide +kernel
theorem dX10_plan_27 : decode cX10_plan 27 = .ok (.if_icmp .ne 19, 3) := by decide +kernel
theorem dX10_plan_30 : decode cX10_plan 30 = .ok (.aload_n 0, 1) := by decide +kernel
theorem dX10_plan_31 : decode cX10_plan 31 = .ok (.getfield 14, 3) := by decide +kernel
theorem dX10_plan_34 : decode cX10_plan 34 = .ok (.getfield 106, 3) := by decide +kernel
theorem dX10_plan_37 : decode cX10_plan 37 = .ok (.iload_n 2, 1) := by decide +kernel
theorem dX10_plan_38 : decode cX10_plan 38 = .ok (.invokevirtual 182, 3) := by decide +kernel
theorem dX10_plan_41 : decode cX10_plan 41 = .ok (.ifCond .ne 5, 3) := by decide +kernel
theorem dX10_plan_44 : decode cX10_plan 44 = .ok (.iconst (-1), 1) := by decide +kernel
theorem dX10_plan_45 : decode cX10_plan 45 = .ok (.ireturn, 1) := by decide +kernel
theorem dX10_plan_46 : decode cX10_plan 46 = .ok (.iload_n 1, 1) := by decide +kernel
theorem dX10_plan_47 : decode cX10_plan 47 = .ok (.ifCond .ne 16, 3) := by decide +kernel
theorem dX10_plan_50 : decode cX10_plan 50 = .ok (.iload_n 2, 1) := by decide +kernel
theorem dX10_plan_51 : decode cX10_plan 51 = .ok (.iconst 1, 1) := by decide +kernel
theorem dX10_plan_52 : decode cX10_plan 52 = .ok (.bipush 12, 2) := by decide +kernel
theorem dX10_plan_54 : decode cX10_plan 54 = .ok (.invokestatic 134, 3) := by decide +kernel
theorem dX10_plan_57 : decode cX10_plan 57 = .ok (.ifCond .ne 6, 3) := by decide +kernel
theorem dX10_plan_60 : decode cX10_plan 60 = .ok (.bipush (-2), 2) := by decide +kernel
theorem dX10_plan_62 : decode cX10_plan 62 = .ok (.ireturn, 1) := by decide +kernel
theorem dX10_plan_63 : decode cX10_plan 63 = .ok (.iload_n 1, 1) := by decide +kernel
theorem dX10_plan_64 : decode cX10_plan 64 = .ok (.iconst 1, 1) := by decide +kernel
theorem dX10_plan_65 : decode cX10_plan 65 = .ok (.if_icmp .eq 8, 3) := by decide +kernel
theorem dX10_plan_68 : decode cX10_plan 68 = .ok (.iload_n 1, 1) := by decide +kernel
theorem dX10_plan_69 : decode cX10_plan 69 = .ok (.iconst 2, 1) := by decide +kernel
theorem dX10_plan_70 : decode cX10_plan 70 = .ok (.if_icmp .ne 16, 3) := by decide +kernel
theorem dX10_plan_73 : decode cX10_plan 73 = .ok (.iload_n 2, 1) := by decide +kernel
theorem dX10_plan_74 : decode cX10_plan 74 = .ok (.iconst 0, 1) := by decide +kernel
theorem dX10_plan_75 : decode cX10_plan 75 = .ok (.bipush 9, 2) := by decide +kernel
theorem dX10_plan_77 : decode cX10_plan 77 = .ok (.invokestatic 134, 3) := by decide +kernel
theorem dX10_plan_80 : decode cX10_plan 80 = .ok (.ifCond .ne 6, 3) := by decide +kernel
theorem dX10_plan_83 : decode cX10_plan 83 = .ok (.bipush (-2), 2) := by decide +kernel
theorem dX10_plan_85 : decode cX10_plan 85 = .ok (.ireturn, 1) := by decide +kernel
theorem dX10_plan_86 : decode cX10_plan 86 = .ok (.aload_n 0, 1) := by decide +kernel
theorem dX10_plan_87 : decode cX10_plan 87 = .ok (.getfield 14, 3) := by decide +kernel
theorem dX10_plan_90 : decode cX10_plan 90 = .ok (.getfield 314, 3) := by decide +kernel
theorem dX10_plan_93 : decode cX10_plan 93 = .ok (.iload_n 1, 1) := by decide +kernel
theorem dX10_plan_94 : decode cX10_plan 94 = .ok (.iload_n 2, 1) := by decide +kernel
theorem dX10_plan_95 : decode cX10_plan 95 = .ok (.invokevirtual 317, 3) := by decide +kernel
theorem dX10_plan_98 : decode cX10_plan 98 = .ok (.ireturn, 1) := by decide +kernel
theorem dX10_ends_0 : decode cX10_ends 0 = .ok (.aload_n 0, 1) := by decide +kernel
theorem dX10_ends_1 : decode cX10_ends 1 = .ok (.iload_n 1, 1) := by decide +kernel
theorem dX10_ends_2 : decode cX10_ends 2 = .ok (.invokevirtual 215, 3) := by decide +kernel
theorem dX10_ends_5 : decode cX10_ends 5 = .ok (.ifCond .eq 10, 3) := by decide +kernel
theorem dX10_ends_8 : decode cX10_ends 8 = .ok (.iload_n 2, 1) := by decide +kernel
theorem dX10_ends_9 : decode cX10_ends 9 = .ok (.invokestatic 172, 3) := by decide +kernel
theorem dX10_ends_12 : decode cX10_ends 12 = .ok (.ifCond .ne 7, 3) := by decide +kernel
theorem dX10_ends_15 : decode cX10_ends 15 = .ok (.ldc2_w 207, 3) := by decide +kernel
theorem dX10_ends_18 : decode cX10_ends 18 = .ok (.lreturn, 1) := by decide +kernel
theorem dX10_ends_19 : decode cX10_ends 19 = .ok (.aload_n 0, 1) := by decide +kernel
theorem dX10_ends_20 : decode cX10_ends 20 = .ok (.getfield 28, 3) := by decide +kernel
theorem dX10_ends_23 : decode cX10_ends 23 = .ok (.aload_n 0, 1) := by decide +kernel
theorem dX10_ends_24 : decode cX10_ends 24 = .ok (.getfield 14, 3) := by decide +kernel
theorem dX10_ends_27 : decode cX10_ends 27 = .ok (.getfield 106, 3) := by decide +kernel
theorem dX10_ends_30 : decode cX10_ends 30 = .ok (.invokevirtual 269, 3) := by decide +kernel
theorem dX10_ends_33 : decode cX10_ends 33 = .ok (.iconst 0, 1) := by decide +kernel
theorem dX10_ends_34 : decode cX10_ends 34 = .ok (.istore_n 3, 1) := by decide +kernel
theorem dX10_ends_35 : decode cX10_ends 35 = .ok (.iload_n 3, 1) := by decide +kernel
theorem dX10_ends_36 : decode cX10_ends 36 = .ok (.aload_n 0, 1) := by decide +kernel
theorem dX10_ends_37 : decode cX10_ends 37 = .ok (.getfield 14, 3) := by decide +kernel
theorem dX10_ends_40 : decode cX10_ends 40 = .ok (.getfield 314, 3) := by decide +kernel
theorem dX10_ends_43 : decode cX10_ends 43 = .ok (.getfield 285, 3) := by decide +kernel
theorem dX10_ends_46 : decode cX10_ends 46 = .ok (.if_icmp .ge 40, 3) := by decide +kernel
theorem dX10_ends_49 : decode cX10_ends 49 = .ok (.aload_n 0, 1) := by decide +kernel
theorem dX10_ends_50 : decode cX10_ends 50 = .ok (.getfield 28, 3) := by decide +kernel
theorem dX10_ends_53 : decode cX10_ends 53 = .ok (.aload_n 0, 1) := by decide +kernel
theorem dX10_ends_54 : decode cX10_ends 54 = .ok (.getfield 14, 3) := by decide +kernel
theorem dX10_ends_57 : decode cX10_ends 57 = .ok (.getfield 314, 3) := by decide +kernel
theorem dX10_ends_60 : decode cX10_ends 60 = .ok (.iload_n 3, 1) := by decide +kernel
theorem dX10_ends_61 : decode cX10_ends 61 = .ok (.iconst 0, 1) := by decide +kernel
theorem dX10_ends_62 : decode cX10_ends 62 = .ok (.invokevirtual 319, 3) := by decide +kernel
theorem dX10_ends_65 : decode cX10_ends 65 = .ok (.aload_n 0, 1) := by decide +kernel
theorem dX10_ends_66 : decode cX10_ends 66 = .ok (.getfield 14, 3) := by decide +kernel
theorem dX10_ends_69 : decode cX10_ends 69 = .ok (.getfield 314, 3) := by decide +kernel
theorem dX10_ends_72 : decode cX10_ends 72 = .ok (.iload_n 3, 1) := by decide +kernel
theorem dX10_ends_73 : decode cX10_ends 73 = .ok (.iconst 1, 1) := by decide +kernel
theorem dX10_ends_74 : decode cX10_ends 74 = .ok (.invokevirtual 319, 3) := by decide +kernel
theorem dX10_ends_77 : decode cX10_ends 77 = .ok (.invokevirtual 322, 3) := by decide +kernel
theorem dX10_ends_80 : decode cX10_ends 80 = .ok (.iinc 3 1, 3) := by decide +kernel
theorem dX10_ends_83 : decode cX10_ends 83 = .ok (.goto (-48), 3) := by decide +kernel
theorem dX10_ends_86 : decode cX10_ends 86 = .ok (.aload_n 0, 1) := by decide +kernel
theorem dX10_ends_87 : decode cX10_ends 87 = .ok (.invokevirtual 279, 3) := by decide +kernel
theorem dX10_ends_90 : decode cX10_ends 90 = .ok (.aload_n 0, 1) := by decide +kernel
theorem dX10_ends_91 : decode cX10_ends 91 = .ok (.getfield 39, 3) := by decide +kernel
theorem dX10_ends_94 : decode cX10_ends 94 = .ok (.iconst 0, 1) := by decide +kernel
theorem dX10_ends_95 : decode cX10_ends 95 = .ok (.iload_n 1, 1) := by decide +kernel
theorem dX10_ends_96 : decode cX10_ends 96 = .ok (.aload_n 0, 1) := by decide +kernel
theorem dX10_ends_97 : decode cX10_ends 97 = .ok (.getfield 28, 3) := by decide +kernel
theorem dX10_ends_100 : decode cX10_ends 100 = .ok (.getfield 276, 3) := by decide +kernel
theorem dX10_ends_103 : decode cX10_ends 103 = .ok (.invokestatic 325, 3) := by decide +kernel
theorem dX10_ends_106 : decode cX10_ends 106 = .ok (.iload_n 2, 1) := by decide +kernel
theorem dX10_ends_107 : decode cX10_ends 107 = .ok (.invokevirtual 231, 3) := by decide +kernel
theorem dX10_ends_110 : decode cX10_ends 110 = .ok (.invokestatic 235, 3) := by decide +kernel
theorem dX10_ends_113 : decode cX10_ends 113 = .ok (.i2l, 1) := by decide +kernel
theorem dX10_ends_114 : decode cX10_ends 114 = .ok (.lreturn, 1) := by decide +kernel
theorem dX10_book_0 : decode cX10_book 0 = .ok (.iload_n 1, 1) := by decide +kernel
theorem dX10_book_1 : decode cX10_book 1 = .ok (.iconst (-1), 1) := by decide +kernel
theorem dX10_book_2 : decode cX10_book 2 = .ok (.if_icmp .ne 14, 3) := by decide +kernel
theorem dX10_book_5 : decode cX10_book 5 = .ok (.aload_n 0, 1) := by decide +kernel
theorem dX10_book_6 : decode cX10_book 6 = .ok (.getfield 14, 3) := by decide +kernel
theorem dX10_book_9 : decode cX10_book 9 = .ok (.getfield 330, 3) := by decide +kernel
theorem dX10_book_12 : decode cX10_book 12 = .ok (.invokevirtual 145, 3) := by decide +kernel
theorem dX10_book_15 : decode cX10_book 15 = .ok (.ireturn, 1) := by decide +kernel
theorem dX10_book_16 : decode cX10_book 16 = .ok (.iload_n 1, 1) := by decide +kernel
theorem dX10_book_17 : decode cX10_book 17 = .ok (.iconst 0, 1) := by decide +kernel
theorem dX10_book_18 : decode cX10_book 18 = .ok (.bipush 11, 2) := by decide +kernel
theorem dX10_book_20 : decode cX10_book 20 = .ok (.invokestatic 134, 3) := by decide +kernel
theorem dX10_book_23 : decode cX10_book 23 = .ok (.ifCond .ne 5, 3) := by decide +kernel
theorem dX10_book_26 : decode cX10_book 26 = .ok (.iconst (-1), 1) := by decide +kernel
theorem dX10_book_27 : decode cX10_book 27 = .ok (.ireturn, 1) := by decide +kernel
theorem dX10_book_28 : decode cX10_book 28 = .ok (.iload_n 2, 1) := by decide +kernel
theorem dX10_book_29 : decode cX10_book 29 = .ok (.iconst 0, 1) := by decide +kernel
theorem dX10_book_30 : decode cX10_book 30 = .ok (.bipush 12, 2) := by decide +kernel
theorem dX10_book_32 : decode cX10_book 32 = .ok (.invokestatic 134, 3) := by decide +kernel
theorem dX10_book_35 : decode cX10_book 35 = .ok (.ifCond .eq 13, 3) := by decide +kernel
theorem dX10_book_38 : decode cX10_book 38 = .ok (.iload_n 3, 1) := by decide +kernel
theorem dX10_book_39 : decode cX10_book 39 = .ok (.iconst 0, 1) := by decide +kernel
theorem dX10_book_40 : decode cX10_book 40 = .ok (.bipush 20, 2) := by decide +kernel
theorem dX10_book_42 : decode cX10_book 42 = .ok (.invokestatic 134, 3) := by decide +kernel
theorem dX10_book_45 : decode cX10_book 45 = .ok (.ifCond .ne 6, 3) := by decide +kernel
theorem dX10_book_48 : decode cX10_book 48 = .ok (.bipush (-2), 2) := by decide +kernel
theorem dX10_book_50 : decode cX10_book 50 = .ok (.ireturn, 1) := by decide +kernel
theorem dX10_book_51 : decode cX10_book 51 = .ok (.aload_n 0, 1) := by decide +kernel
theorem dX10_book_52 : decode cX10_book 52 = .ok (.getfield 14, 3) := by decide +kernel
theorem dX10_book_55 : decode cX10_book 55 = .ok (.getfield 330, 3) := by decide +kernel
theorem dX10_book_58 : decode cX10_book 58 = .ok (.iload_n 1, 1) := by decide +kernel
theorem dX10_book_59 : decode cX10_book 59 = .ok (.iload_n 2, 1) := by decide +kernel
theorem dX10_book_60 : decode cX10_book 60 = .ok (.iload_n 3, 1) := by decide +kernel
theorem dX10_book_61 : decode cX10_book 61 = .ok (.invokevirtual 333, 3) := by decide +kernel
theorem dX10_book_64 : decode cX10_book 64 = .ok (.ireturn, 1) := by decide +kernel
theorem dX10_looked_0 : decode cX10_looked 0 = .ok (.aload_n 0, 1) := by decide +kernel
theorem dX10_looked_1 : decode cX10_looked 1 = .ok (.getfield 14, 3) := by decide +kernel
theorem dX10_looked_4 : decode cX10_looked 4 = .ok (.getfield 330, 3) := by decide +kernel
theorem dX10_looked_7 : decode cX10_looked 7 = .ok (.getfield 285, 3) := by decide +kernel
theorem dX10_looked_10 : decode cX10_looked 10 = .ok (.ifCond .le 7, 3) := by decide +kernel
theorem dX10_looked_13 : decode cX10_looked 13 = .ok (.aload_n 0, 1) := by decide +kernel
theorem dX10_looked_14 : decode cX10_looked 14 = .ok (.invokevirtual 228, 3) := by decide +kernel
theorem dX10_looked_17 : decode cX10_looked 17 = .ok (.iconst 0, 1) := by decide +kernel
theorem dX10_looked_18 : decode cX10_looked 18 = .ok (.istore_n 1, 1) := by decide +kernel
theorem dX10_looked_19 : decode cX10_looked 19 = .ok (.iload_n 1, 1) := by decide +kernel
theorem dX10_looked_20 : decode cX10_looked 20 = .ok (.aload_n 0, 1) := by decide +kernel
theorem dX10_looked_21 : decode cX10_looked 21 = .ok (.getfield 14, 3) := by decide +kernel
theorem dX10_looked_24 : decode cX10_looked 24 = .ok (.getfield 330, 3) := by decide +kernel
theorem dX10_looked_27 : decode cX10_looked 27 = .ok (.getfield 285, 3) := by decide +kernel
theorem dX10_looked_30 : decode cX10_looked 30 = .ok (.if_icmp .ge 77, 3) := by decide +kernel
theorem dX10_looked_33 : decode cX10_looked 33 = .ok (.aload_n 0, 1) := by decide +kernel
theorem dX10_looked_34 : decode cX10_looked 34 = .ok (.getfield 14, 3) := by decide +kernel
theorem dX10_looked_37 : decode cX10_looked 37 = .ok (.getfield 330, 3) := by decide +kernel
theorem dX10_looked_40 : decode cX10_looked 40 = .ok (.iload_n 1, 1) := by decide +kernel
theorem dX10_looked_41 : decode cX10_looked 41 = .ok (.iconst 0, 1) := by decide +kernel
theorem dX10_looked_42 : decode cX10_looked 42 = .ok (.invokevirtual 319, 3) := by decide +kernel
theorem dX10_looked_45 : decode cX10_looked 45 = .ok (.istore_n 2, 1) := by decide +kernel
theorem dX10_looked_46 : decode cX10_looked 46 = .ok (.aload_n 0, 1) := by decide +kernel
theorem dX10_looked_47 : decode cX10_looked 47 = .ok (.getfield 14, 3) := by decide +kernel
theorem dX10_looked_50 : decode cX10_looked 50 = .ok (.getfield 330, 3) := by decide +kernel
theorem dX10_looked_53 : decode cX10_looked 53 = .ok (.iload_n 1, 1) := by decide +kernel
theorem dX10_looked_54 : decode cX10_looked 54 = .ok (.iconst 1, 1) := by decide +kernel
theorem dX10_looked_55 : decode cX10_looked 55 = .ok (.invokevirtual 319, 3) := by decide +kernel
theorem dX10_looked_58 : decode cX10_looked 58 = .ok (.istore_n 3, 1) := by decide +kernel
theorem dX10_looked_59 : decode cX10_looked 59 = .ok (.aload_n 0, 1) := by decide +kernel
theorem dX10_looked_60 : decode cX10_looked 60 = .ok (.getfield 14, 3) := by decide +kernel
theorem dX10_looked_63 : decode cX10_looked 63 = .ok (.getfield 106, 3) := by decide +kernel
theorem dX10_looked_66 : decode cX10_looked 66 = .ok (.iload_n 2, 1) := by decide +kernel
theorem dX10_looked_67 : decode cX10_looked 67 = .ok (.iload_n 3, 1) := by decide +kernel
theorem dX10_looked_68 : decode cX10_looked 68 = .ok (.invokevirtual 239, 3) := by decide +kernel
theorem dX10_looked_71 : decode cX10_looked 71 = .ok (.ifCond .eq 28, 3) := by decide +kernel
theorem dX10_looked_74 : decode cX10_looked 74 = .ok (.aload_n 0, 1) := by decide +kernel
theorem dX10_looked_75 : decode cX10_looked 75 = .ok (.getfield 35, 3) := by decide +kernel
theorem dX10_looked_78 : decode cX10_looked 78 = .ok (.iload_n 2, 1) := by decide +kernel
theorem dX10_looked_79 : decode cX10_looked 79 = .ok (.iload_n 3, 1) := by decide +kernel
theorem dX10_looked_80 : decode cX10_looked 80 = .ok (.iconst 1, 1) := by decide +kernel
theorem dX10_looked_81 : decode cX10_looked 81 = .ok (.invokevirtual 242, 3) := by decide +kernel
theorem dX10_looked_84 : decode cX10_looked 84 = .ok (.aload_n 0, 1) := by decide +kernel
theorem dX10_looked_85 : decode cX10_looked 85 = .ok (.getfield 14, 3) := by decide +kernel
theorem dX10_looked_88 : decode cX10_looked 88 = .ok (.getfield 330, 3) := by decide +kernel
theorem dX10_looked_91 : decode cX10_looked 91 = .ok (.iload_n 1, 1) := by decide +kernel
theorem dX10_looked_92 : decode cX10_looked 92 = .ok (.iconst 2, 1) := by decide +kernel
theorem dX10_looked_93 : decode cX10_looked 93 = .ok (.invokevirtual 319, 3) := by decide +kernel
theorem dX10_looked_96 : decode cX10_looked 96 = .ok (.if_icmp .eq 5, 3) := by decide +kernel
theorem dX10_looked_99 : decode cX10_looked 99 = .ok (.iload_n 1, 1) := by decide +kernel
theorem dX10_looked_100 : decode cX10_looked 100 = .ok (.ireturn, 1) := by decide +kernel
theorem dX10_looked_101 : decode cX10_looked 101 = .ok (.iinc 1 1, 3) := by decide +kernel
theorem dX10_looked_104 : decode cX10_looked 104 = .ok (.goto (-85), 3) := by decide +kernel
theorem dX10_looked_107 : decode cX10_looked 107 = .ok (.bipush (-5), 2) := by decide +kernel
theorem dX10_looked_109 : decode cX10_looked 109 = .ok (.ireturn, 1) := by decide +kernel
theorem dX10_judge_0 : decode cX10_judge 0 = .ok (.aload_n 0, 1) := by decide +kernel
theorem dX10_judge_1 : decode cX10_judge 1 = .ok (.iload_n 1, 1) := by decide +kernel
theorem dX10_judge_2 : decode cX10_judge 2 = .ok (.iload_n 2, 1) := by decide +kernel
theorem dX10_judge_3 : decode cX10_judge 3 = .ok (.iload_n 3, 1) := by decide +kernel
theorem dX10_judge_4 : decode cX10_judge 4 = .ok (.invokevirtual 282, 3) := by decide +kernel
theorem dX10_judge_7 : decode cX10_judge 7 = .ok (.ifCond .eq 11, 3) := by decide +kernel
theorem dX10_judge_10 : decode cX10_judge 10 = .ok (.iload 4, 2) := by decide +kernel
theorem dX10_judge_12 : decode cX10_judge 12 = .ok (.invokestatic 335, 3) := by decide +kernel
theorem dX10_judge_15 : decode cX10_judge 15 = .ok (.ifCond .ne 5, 3) := by decide +kernel
theorem dX10_judge_18 : decode cX10_judge 18 = .ok (.iconst (-1), 1) := by decide +kernel
theorem dX10_judge_19 : decode cX10_judge 19 = .ok (.ireturn, 1) := by decide +kernel
theorem dX10_judge_20 : decode cX10_judge 20 = .ok (.aload_n 0, 1) := by decide +kernel
theorem dX10_judge_21 : decode cX10_judge 21 = .ok (.getfield 98, 3) := by decide +kernel
theorem dX10_judge_24 : decode cX10_judge 24 = .ok (.iload 4, 2) := by decide +kernel
theorem dX10_judge_26 : decode cX10_judge 26 = .ok (.aaload, 1) := by decide +kernel
theorem dX10_judge_27 : decode cX10_judge 27 = .ok (.astore 6, 2) := by decide +kernel
theorem dX10_judge_29 : decode cX10_judge 29 = .ok (.aload 6, 2) := by decide +kernel
theorem dX10_judge_31 : decode cX10_judge 31 = .ok (.getfield 338, 3) := by decide +kernel
theorem dX10_judge_34 : decode cX10_judge 34 = .ok (.iconst (-1), 1) := by decide +kernel
theorem dX10_judge_35 : decode cX10_judge 35 = .ok (.if_icmp .eq 15, 3) := by decide +kernel
theorem dX10_judge_38 : decode cX10_judge 38 = .ok (.aload 6, 2) := by decide +kernel
theorem dX10_judge_40 : decode cX10_judge 40 = .ok (.getfield 338, 3) := by decide +kernel
theorem dX10_judge_43 : decode cX10_judge 43 = .ok (.iconst 3, 1) := by decide +kernel
theorem dX10_judge_44 : decode cX10_judge 44 = .ok (.if_icmp .eq 6, 3) := by decide +kernel
theorem dX10_judge_47 : decode cX10_judge 47 = .ok (.bipush (-12), 2) := by decide +kernel
theorem dX10_judge_49 : decode cX10_judge 49 = .ok (.ireturn, 1) := by decide +kernel
theorem dX10_judge_50 : decode cX10_judge 50 = .ok (.aload 6, 2) := by decide +kernel
theorem dX10_judge_52 : decode cX10_judge 52 = .ok (.getfield 338, 3) := by decide +kernel
theorem dX10_judge_55 : decode cX10_judge 55 = .ok (.iconst (-1), 1) := by decide +kernel
theorem dX10_judge_56 : decode cX10_judge 56 = .ok (.if_icmp .eq 8, 3) := by decide +kernel
theorem dX10_judge_59 : decode cX10_judge 59 = .ok (.iload 5, 2) := by decide +kernel
theorem dX10_judge_61 : decode cX10_judge 61 = .ok (.ifCond .ge 6, 3) := by decide +kernel
theorem dX10_judge_64 : decode cX10_judge 64 = .ok (.bipush 100, 2) := by decide +kernel
theorem dX10_judge_66 : decode cX10_judge 66 = .ok (.ireturn, 1) := by decide +kernel
theorem dX10_judge_67 : decode cX10_judge 67 = .ok (.aload_n 0, 1) := by decide +kernel
theorem dX10_judge_68 : decode cX10_judge 68 = .ok (.iload_n 1, 1) := by decide +kernel
theorem dX10_judge_69 : decode cX10_judge 69 = .ok (.iload_n 2, 1) := by decide +kernel
theorem dX10_judge_70 : decode cX10_judge 70 = .ok (.iload_n 3, 1) := by decide +kernel
theorem dX10_judge_71 : decode cX10_judge 71 = .ok (.aload_n 0, 1) := by decide +kernel
theorem dX10_judge_72 : decode cX10_judge 72 = .ok (.getfield 78, 3) := by decide +kernel
theorem dX10_judge_75 : decode cX10_judge 75 = .ok (.iload_n 1, 1) := by decide +kernel
theorem dX10_judge_76 : decode cX10_judge 76 = .ok (.aaload, 1) := by decide +kernel
theorem dX10_judge_77 : decode cX10_judge 77 = .ok (.getfield 285, 3) := by decide +kernel
theorem dX10_judge_80 : decode cX10_judge 80 = .ok (.invokevirtual 286, 3) := by decide +kernel
theorem dX10_judge_83 : decode cX10_judge 83 = .ok (.iconst 0, 1) := by decide +kernel
theorem dX10_judge_84 : decode cX10_judge 84 = .ok (.istore 7, 2) := by decide +kernel
theorem dX10_judge_86 : decode cX10_judge 86 = .ok (.iload 7, 2) := by decide +kernel
theorem dX10_judge_88 : decode cX10_judge 88 = .ok (.aload_n 0, 1) := by decide +kernel
theorem dX10_judge_89 : decode cX10_judge 89 = .ok (.getfield 72, 3) := by decide +kernel
theorem dX10_judge_92 : decode cX10_judge 92 = .ok (.getfield 341, 3) := by decide +kernel
theorem dX10_judge_95 : decode cX10_judge 95 = .ok (.if_icmp .gt 57, 3) := by decide +kernel
theorem dX10_judge_98 : decode cX10_judge 98 = .ok (.iload 7, 2) := by decide +kernel
theorem dX10_judge_100 : decode cX10_judge 100 = .ok (.aload 6, 2) := by decide +kernel
theorem dX10_judge_102 : decode cX10_judge 102 = .ok (.getfield 344, 3) := by decide +kernel
theorem dX10_judge_105 : decode cX10_judge 105 = .ok (.iload 5, 2) := by decide +kernel
theorem dX10_judge_107 : decode cX10_judge 107 = .ok (.isub, 1) := by decide +kernel
theorem dX10_judge_108 : decode cX10_judge 108 = .ok (.if_icmp .lt 9, 3) := by decide +kernel
theorem dX10_judge_111 : decode cX10_judge 111 = .ok (.bipush 100, 2) := by decide +kernel
theorem dX10_judge_113 : decode cX10_judge 113 = .ok (.iload 7, 2) := by decide +kernel
theorem dX10_judge_115 : decode cX10_judge 115 = .ok (.iadd, 1) := by decide +kernel
theorem dX10_judge_116 : decode cX10_judge 116 = .ok (.ireturn, 1) := by decide +kernel
theorem dX10_judge_117 : decode cX10_judge 117 = .ok (.aload 6, 2) := by decide +kernel
theorem dX10_judge_119 : decode cX10_judge 119 = .ok (.getfield 345, 3) := by decide +kernel
theorem dX10_judge_122 : decode cX10_judge 122 = .ok (.iload 5, 2) := by decide +kernel
theorem dX10_judge_124 : decode cX10_judge 124 = .ok (.iload 7, 2) := by decide +kernel
theorem dX10_judge_126 : decode cX10_judge 126 = .ok (.iadd, 1) := by decide +kernel
theorem dX10_judge_127 : decode cX10_judge 127 = .ok (.laload, 1) := by decide +kernel
theorem dX10_judge_128 : decode cX10_judge 128 = .ok (.aload_n 0, 1) := by decide +kernel
theorem dX10_judge_129 : decode cX10_judge 129 = .ok (.getfield 72, 3) := by decide +kernel
theorem dX10_judge_132 : decode cX10_judge 132 = .ok (.getfield 349, 3) := by decide +kernel
theorem dX10_judge_135 : decode cX10_judge 135 = .ok (.iload 7, 2) := by decide +kernel
theorem dX10_judge_137 : decode cX10_judge 137 = .ok (.iaload, 1) := by decide +kernel
theorem dX10_judge_138 : decode cX10_judge 138 = .ok (.i2l, 1) := by decide +kernel
theorem dX10_judge_139 : decode cX10_judge 139 = .ok (.lcmp, 1) := by decide +kernel
theorem dX10_judge_140 : decode cX10_judge 140 = .ok (.ifCond .eq 6, 3) := by decide +kernel
theorem dX10_judge_143 : decode cX10_judge 143 = .ok (.iload 7, 2) := by decide +kernel
theorem dX10_judge_145 : decode cX10_judge 145 = .ok (.ireturn, 1) := by decide +kernel
theorem dX10_judge_146 : decode cX10_judge 146 = .ok (.iinc 7 1, 3) := by decide +kernel
theorem dX10_judge_149 : decode cX10_judge 149 = .ok (.goto (-63), 3) := by decide +kernel
theorem dX10_judge_152 : decode cX10_judge 152 = .ok (.bipush (-5), 2) := by decide +kernel
theorem dX10_judge_154 : decode cX10_judge 154 = .ok (.ireturn, 1) := by decide +kernel
theorem dX10_image_0 : decode cX10_image 0 = .ok (.aload_n 0, 1) := by decide +kernel
theorem dX10_image_1 : decode cX10_image 1 = .ok (.getfield 18, 3) := by decide +kernel
theorem dX10_image_4 : decode cX10_image 4 = .ok (.aload_n 0, 1) := by decide +kernel
theorem dX10_image_5 : decode cX10_image 5 = .ok (.getfield 14, 3) := by decide +kernel
theorem dX10_image_8 : decode cX10_image 8 = .ok (.invokevirtual 352, 3) := by decide +kernel
theorem dX10_image_11 : decode cX10_image 11 = .ok (.aload_n 0, 1) := by decide +kernel
theorem dX10_image_12 : decode cX10_image 12 = .ok (.iconst 1, 1) := by decide +kernel
theorem dX10_image_13 : decode cX10_image 13 = .ok (.putfield 21, 3) := by decide +kernel
theorem dX10_image_16 : decode cX10_image 16 = .ok (.aload_n 0, 1) := by decide +kernel
theorem dX10_image_17 : decode cX10_image 17 = .ok (.getfield 14, 3) := by decide +kernel
theorem dX10_image_20 : decode cX10_image 20 = .ok (.getfield 106, 3) := by decide +kernel
theorem dX10_image_23 : decode cX10_image 23 = .ok (.getfield 153, 3) := by decide +kernel
theorem dX10_image_26 : decode cX10_image 26 = .ok (.ireturn, 1) := by decide +kernel
theorem dX10_undo_0 : decode cX10_undo 0 = .ok (.aload_n 0, 1) := by decide +kernel
theorem dX10_undo_1 : decode cX10_undo 1 = .ok (.getfield 21, 3) := by decide +kernel
theorem dX10_undo_4 : decode cX10_undo 4 = .ok (.ifCond .ne 6, 3) := by decide +kernel
theorem dX10_undo_7 : decode cX10_undo 7 = .ok (.bipush (-3), 2) := by decide +kernel
theorem dX10_undo_9 : decode cX10_undo 9 = .ok (.ireturn, 1) := by decide +kernel
theorem dX10_undo_10 : decode cX10_undo 10 = .ok (.aload_n 0, 1) := by decide +kernel
theorem dX10_undo_11 : decode cX10_undo 11 = .ok (.invokevirtual 103, 3) := by decide +kernel
theorem dX10_undo_14 : decode cX10_undo 14 = .ok (.aload_n 0, 1) := by decide +kernel
theorem dX10_undo_15 : decode cX10_undo 15 = .ok (.getfield 14, 3) := by decide +kernel
theorem dX10_undo_18 : decode cX10_undo 18 = .ok (.aload_n 0, 1) := by decide +kernel
theorem dX10_undo_19 : decode cX10_undo 19 = .ok (.getfield 18, 3) := by decide +kernel
theorem dX10_undo_22 : decode cX10_undo 22 = .ok (.invokevirtual 352, 3) := by decide +kernel
theorem dX10_undo_25 : decode cX10_undo 25 = .ok (.aload_n 0, 1) := by decide +kernel
theorem dX10_undo_26 : decode cX10_undo 26 = .ok (.getfield 14, 3) := by decide +kernel
theorem dX10_undo_29 : decode cX10_undo 29 = .ok (.getfield 106, 3) := by decide +kernel
theorem dX10_undo_32 : decode cX10_undo 32 = .ok (.getfield 153, 3) := by decide +kernel
theorem dX10_undo_35 : decode cX10_undo 35 = .ok (.ireturn, 1) := by decide +kernel
theorem dX10_count_0 : decode cX10_count 0 = .ok (.iload_n 1, 1) := by decide +kernel
theorem dX10_count_1 : decode cX10_count 1 = .ok (.tableswitch 87 0 4 #[35, 46, 57, 68, 79], 35) := by decide +kernel
theorem dX10_count_36 : decode cX10_count 36 = .ok (.aload_n 0, 1) := by decide +kernel
theorem dX10_count_37 : decode cX10_count 37 = .ok (.getfield 14, 3) := by decide +kernel
theorem dX10_count_40 : decode cX10_count 40 = .ok (.getfield 106, 3) := by decide +kernel
theorem dX10_count_43 : decode cX10_count 43 = .ok (.getfield 153, 3) := by decide +kernel
theorem dX10_count_46 : decode cX10_count 46 = .ok (.ireturn, 1) := by decide +kernel
theorem dX10_count_47 : decode cX10_count 47 = .ok (.aload_n 0, 1) := by decide +kernel
theorem dX10_count_48 : decode cX10_count 48 = .ok (.getfield 14, 3) := by decide +kernel
theorem dX10_count_51 : decode cX10_count 51 = .ok (.getfield 305, 3) := by decide +kernel
theorem dX10_count_54 : decode cX10_count 54 = .ok (.getfield 285, 3) := by decide +kernel
theorem dX10_count_57 : decode cX10_count 57 = .ok (.ireturn, 1) := by decide +kernel
theorem dX10_count_58 : decode cX10_count 58 = .ok (.aload_n 0, 1) := by decide +kernel
theorem dX10_count_59 : decode cX10_count 59 = .ok (.getfield 14, 3) := by decide +kernel
theorem dX10_count_62 : decode cX10_count 62 = .ok (.getfield 314, 3) := by decide +kernel
theorem dX10_count_65 : decode cX10_count 65 = .ok (.getfield 285, 3) := by decide +kernel
theorem dX10_count_68 : decode cX10_count 68 = .ok (.ireturn, 1) := by decide +kernel
theorem dX10_count_69 : decode cX10_count 69 = .ok (.aload_n 0, 1) := by decide +kernel
theorem dX10_count_70 : decode cX10_count 70 = .ok (.getfield 14, 3) := by decide +kernel
theorem dX10_count_73 : decode cX10_count 73 = .ok (.getfield 330, 3) := by decide +kernel
theorem dX10_count_76 : decode cX10_count 76 = .ok (.getfield 285, 3) := by decide +kernel
theorem dX10_count_79 : decode cX10_count 79 = .ok (.ireturn, 1) := by decide +kernel
theorem dX10_count_80 : decode cX10_count 80 = .ok (.aload_n 0, 1) := by decide +kernel
theorem dX10_count_81 : decode cX10_count 81 = .ok (.getfield 85, 3) := by decide +kernel
theorem dX10_count_84 : decode cX10_count 84 = .ok (.getfield 285, 3) := by decide +kernel
theorem dX10_count_87 : decode cX10_count 87 = .ok (.ireturn, 1) := by decide +kernel
theorem dX10_count_88 : decode cX10_count 88 = .ok (.iload_n 1, 1) := by decide +kernel
theorem dX10_count_89 : decode cX10_count 89 = .ok (.iconst 5, 1) := by decide +kernel
theorem dX10_count_90 : decode cX10_count 90 = .ok (.bipush 8, 2) := by decide +kernel
theorem dX10_count_92 : decode cX10_count 92 = .ok (.invokestatic 134, 3) := by decide +kernel
theorem dX10_count_95 : decode cX10_count 95 = .ok (.ifCond .eq 17, 3) := by decide +kernel
theorem dX10_count_98 : decode cX10_count 98 = .ok (.aload_n 0, 1) := by decide +kernel
theorem dX10_count_99 : decode cX10_count 99 = .ok (.getfield 78, 3) := by decide +kernel
theorem dX10_count_102 : decode cX10_count 102 = .ok (.iload_n 1, 1) := by decide +kernel
theorem dX10_count_103 : decode cX10_count 103 = .ok (.iconst 5, 1) := by decide +kernel
theorem dX10_count_104 : decode cX10_count 104 = .ok (.isub, 1) := by decide +kernel
theorem dX10_count_105 : decode cX10_count 105 = .ok (.aaload, 1) := by decide +kernel
theorem dX10_count_106 : decode cX10_count 106 = .ok (.getfield 285, 3) := by decide +kernel
theorem dX10_count_109 : decode cX10_count 109 = .ok (.goto 5, 3) := by decide +kernel
theorem dX10_count_112 : decode cX10_count 112 = .ok (.bipush (-2), 2) := by decide +kernel
theorem dX10_count_114 : decode cX10_count 114 = .ok (.ireturn, 1) := by decide +kernel
theorem dX10_tape_0 : decode cX10_tape 0 = .ok (.iload_n 1, 1) := by decide +kernel
theorem dX10_tape_1 : decode cX10_tape 1 = .ok (.invokestatic 335, 3) := by decide +kernel
theorem dX10_tape_4 : decode cX10_tape 4 = .ok (.ifCond .ne 5, 3) := by decide +kernel
theorem dX10_tape_7 : decode cX10_tape 7 = .ok (.iconst (-1), 1) := by decide +kernel
theorem dX10_tape_8 : decode cX10_tape 8 = .ok (.ireturn, 1) := by decide +kernel
theorem dX10_tape_9 : decode cX10_tape 9 = .ok (.iload_n 2, 1) := by decide +kernel
theorem dX10_tape_10 : decode cX10_tape 10 = .ok (.iconst (-1), 1) := by decide +kernel
theorem dX10_tape_11 : decode cX10_tape 11 = .ok (.iconst 4, 1) := by decide +kernel
theorem dX10_tape_12 : decode cX10_tape 12 = .ok (.invokestatic 134, 3) := by decide +kernel
theorem dX10_tape_15 : decode cX10_tape 15 = .ok (.ifCond .eq 14, 3) := by decide +kernel
theorem dX10_tape_18 : decode cX10_tape 18 = .ok (.iload_n 2, 1) := by decide +kernel
theorem dX10_tape_19 : decode cX10_tape 19 = .ok (.iconst (-1), 1) := by decide +kernel
theorem dX10_tape_20 : decode cX10_tape 20 = .ok (.if_icmp .eq 12, 3) := by decide +kernel
theorem dX10_tape_23 : decode cX10_tape 23 = .ok (.iload_n 3, 1) := by decide +kernel
theorem dX10_tape_24 : decode cX10_tape 24 = .ok (.bipush 60, 2) := by decide +kernel
theorem dX10_tape_26 : decode cX10_tape 26 = .ok (.if_icmp .le 6, 3) := by decide +kernel
theorem dX10_tape_29 : decode cX10_tape 29 = .ok (.bipush (-2), 2) := by decide +kernel
theorem dX10_tape_31 : decode cX10_tape 31 = .ok (.ireturn, 1) := by decide +kernel
theorem dX10_tape_32 : decode cX10_tape 32 = .ok (.iload_n 2, 1) := by decide +kernel
theorem dX10_tape_33 : decode cX10_tape 33 = .ok (.iconst (-1), 1) := by decide +kernel
theorem dX10_tape_34 : decode cX10_tape 34 = .ok (.if_icmp .eq 10, 3) := by decide +kernel
theorem dX10_tape_37 : decode cX10_tape 37 = .ok (.iload_n 3, 1) := by decide +kernel
theorem dX10_tape_38 : decode cX10_tape 38 = .ok (.ifCond .ge 6, 3) := by decide +kernel
theorem dX10_tape_41 : decode cX10_tape 41 = .ok (.bipush (-14), 2) := by decide +kernel
theorem dX10_tape_43 : decode cX10_tape 43 = .ok (.ireturn, 1) := by decide +kernel
theorem dX10_tape_44 : decode cX10_tape 44 = .ok (.aload_n 0, 1) := by decide +kernel
theorem dX10_tape_45 : decode cX10_tape 45 = .ok (.getfield 98, 3) := by decide +kernel
theorem dX10_tape_48 : decode cX10_tape 48 = .ok (.iload_n 1, 1) := by decide +kernel
theorem dX10_tape_49 : decode cX10_tape 49 = .ok (.aaload, 1) := by decide +kernel
theorem dX10_tape_50 : decode cX10_tape 50 = .ok (.iload_n 2, 1) := by decide +kernel
theorem dX10_tape_51 : decode cX10_tape 51 = .ok (.iload_n 2, 1) := by decide +kernel
theorem dX10_tape_52 : decode cX10_tape 52 = .ok (.iconst (-1), 1) := by decide +kernel
theorem dX10_tape_53 : decode cX10_tape 53 = .ok (.if_icmp .ne 7, 3) := by decide +kernel
theorem dX10_tape_56 : decode cX10_tape 56 = .ok (.iconst 0, 1) := by decide +kernel
theorem dX10_tape_57 : decode cX10_tape 57 = .ok (.goto 4, 3) := by decide +kernel
theorem dX10_tape_60 : decode cX10_tape 60 = .ok (.iload_n 3, 1) := by decide +kernel
theorem dX10_tape_61 : decode cX10_tape 61 = .ok (.invokevirtual 355, 3) := by decide +kernel
theorem dX10_tape_64 : decode cX10_tape 64 = .ok (.iconst 1, 1) := by decide +kernel
theorem dX10_tape_65 : decode cX10_tape 65 = .ok (.ireturn, 1) := by decide +kernel
theorem dX10_item_0 : decode cX10_item 0 = .ok (.iload_n 1, 1) := by decide +kernel
theorem dX10_item_1 : decode cX10_item 1 = .ok (.invokestatic 335, 3) := by decide +kernel
theorem dX10_item_4 : decode cX10_item 4 = .ok (.ifCond .ne 5, 3) := by decide +kernel
theorem dX10_item_7 : decode cX10_item 7 = .ok (.iconst (-1), 1) := by decide +kernel
theorem dX10_item_8 : decode cX10_item 8 = .ok (.ireturn, 1) := by decide +kernel
theorem dX10_item_9 : decode cX10_item 9 = .ok (.aload_n 0, 1) := by decide +kernel
theorem dX10_item_10 : decode cX10_item 10 = .ok (.getfield 98, 3) := by decide +kernel
theorem dX10_item_13 : decode cX10_item 13 = .ok (.iload_n 1, 1) := by decide +kernel
theorem dX10_item_14 : decode cX10_item 14 = .ok (.aaload, 1) := by decide +kernel
theorem dX10_item_15 : decode cX10_item 15 = .ok (.getfield 338, 3) := by decide +kernel
theorem dX10_item_18 : decode cX10_item 18 = .ok (.iconst (-1), 1) := by decide +kernel
theorem dX10_item_19 : decode cX10_item 19 = .ok (.if_icmp .ne 6, 3) := by decide +kernel
theorem dX10_item_22 : decode cX10_item 22 = .ok (.bipush (-11), 2) := by decide +kernel
theorem dX10_item_24 : decode cX10_item 24 = .ok (.ireturn, 1) := by decide +kernel
theorem dX10_item_25 : decode cX10_item 25 = .ok (.aload_n 0, 1) := by decide +kernel
theorem dX10_item_26 : decode cX10_item 26 = .ok (.getfield 98, 3) := by decide +kernel
theorem dX10_item_29 : decode cX10_item 29 = .ok (.iload_n 1, 1) := by decide +kernel
theorem dX10_item_30 : decode cX10_item 30 = .ok (.aaload, 1) := by decide +kernel
theorem dX10_item_31 : decode cX10_item 31 = .ok (.iload_n 2, 1) := by decide +kernel
theorem dX10_item_32 : decode cX10_item 32 = .ok (.invokevirtual 358, 3) := by decide +kernel
theorem dX10_item_35 : decode cX10_item 35 = .ok (.ifCond .ne 6, 3) := by decide +kernel
theorem dX10_item_38 : decode cX10_item 38 = .ok (.bipush (-13), 2) := by decide +kernel
theorem dX10_item_40 : decode cX10_item 40 = .ok (.ireturn, 1) := by decide +kernel
theorem dX10_item_41 : decode cX10_item 41 = .ok (.aload_n 0, 1) := by decide +kernel
theorem dX10_item_42 : decode cX10_item 42 = .ok (.getfield 98, 3) := by decide +kernel
theorem dX10_item_45 : decode cX10_item 45 = .ok (.iload_n 1, 1) := by decide +kernel
theorem dX10_item_46 : decode cX10_item 46 = .ok (.aaload, 1) := by decide +kernel
theorem dX10_item_47 : decode cX10_item 47 = .ok (.getfield 345, 3) := by decide +kernel
theorem dX10_item_50 : decode cX10_item 50 = .ok (.iload_n 2, 1) := by decide +kernel
theorem dX10_item_51 : decode cX10_item 51 = .ok (.aload_n 0, 1) := by decide +kernel
theorem dX10_item_52 : decode cX10_item 52 = .ok (.getfield 98, 3) := by decide +kernel
theorem dX10_item_55 : decode cX10_item 55 = .ok (.iload_n 1, 1) := by decide +kernel
theorem dX10_item_56 : decode cX10_item 56 = .ok (.aaload, 1) := by decide +kernel
theorem dX10_item_57 : decode cX10_item 57 = .ok (.lload_n 3, 1) := by decide +kernel
theorem dX10_item_58 : decode cX10_item 58 = .ok (.invokevirtual 361, 3) := by decide +kernel
theorem dX10_item_61 : decode cX10_item 61 = .ok (.lastore, 1) := by decide +kernel
theorem dX10_item_62 : decode cX10_item 62 = .ok (.iconst 1, 1) := by decide +kernel
theorem dX10_item_63 : decode cX10_item 63 = .ok (.ireturn, 1) := by decide +kernel
theorem dX10_peek_0 : decode cX10_peek 0 = .ok (.iload_n 1, 1) := by decide +kernel
theorem dX10_peek_1 : decode cX10_peek 1 = .ok (.invokestatic 335, 3) := by decide +kernel
theorem dX10_peek_4 : decode cX10_peek 4 = .ok (.ifCond .eq 16, 3) := by decide +kernel
theorem dX10_peek_7 : decode cX10_peek 7 = .ok (.aload_n 0, 1) := by decide +kernel
theorem dX10_peek_8 : decode cX10_peek 8 = .ok (.getfield 98, 3) := by decide +kernel
theorem dX10_peek_11 : decode cX10_peek 11 = .ok (.iload_n 1, 1) := by decide +kernel
theorem dX10_peek_12 : decode cX10_peek 12 = .ok (.aaload, 1) := by decide +kernel
theorem dX10_peek_13 : decode cX10_peek 13 = .ok (.iload_n 2, 1) := by decide +kernel
theorem dX10_peek_14 : decode cX10_peek 14 = .ok (.invokevirtual 358, 3) := by decide +kernel
theorem dX10_peek_17 : decode cX10_peek 17 = .ok (.ifCond .ne 7, 3) := by decide +kernel
theorem dX10_peek_20 : decode cX10_peek 20 = .ok (.ldc2_w 207, 3) := by decide +kernel
theorem dX10_peek_23 : decode cX10_peek 23 = .ok (.lreturn, 1) := by decide +kernel
theorem dX10_peek_24 : decode cX10_peek 24 = .ok (.aload_n 0, 1) := by decide +kernel
theorem dX10_peek_25 : decode cX10_peek 25 = .ok (.getfield 98, 3) := by decide +kernel
theorem dX10_peek_28 : decode cX10_peek 28 = .ok (.iload_n 1, 1) := by decide +kernel
theorem dX10_peek_29 : decode cX10_peek 29 = .ok (.aaload, 1) := by decide +kernel
theorem dX10_peek_30 : decode cX10_peek 30 = .ok (.getfield 345, 3) := by decide +kernel
theorem dX10_peek_33 : decode cX10_peek 33 = .ok (.iload_n 2, 1) := by decide +kernel
theorem dX10_peek_34 : decode cX10_peek 34 = .ok (.laload, 1) := by decide +kernel
theorem dX10_peek_35 : decode cX10_peek 35 = .ok (.lreturn, 1) := by decide +kernel
theorem dX10_shift_0 : decode cX10_shift 0 = .ok (.iload_n 1, 1) := by decide +kernel
theorem dX10_shift_1 : decode cX10_shift 1 = .ok (.invokestatic 335, 3) := by decide +kernel
theorem dX10_shift_4 : decode cX10_shift 4 = .ok (.ifCond .eq 10, 3) := by decide +kernel
theorem dX10_shift_7 : decode cX10_shift 7 = .ok (.iload_n 3, 1) := by decide +kernel
theorem dX10_shift_8 : decode cX10_shift 8 = .ok (.invokestatic 335, 3) := by decide +kernel
theorem dX10_shift_11 : decode cX10_shift 11 = .ok (.ifCond .ne 5, 3) := by decide +kernel
theorem dX10_shift_14 : decode cX10_shift 14 = .ok (.iconst (-1), 1) := by decide +kernel
theorem dX10_shift_15 : decode cX10_shift 15 = .ok (.ireturn, 1) := by decide +kernel
theorem dX10_shift_16 : decode cX10_shift 16 = .ok (.aload_n 0, 1) := by decide +kernel
theorem dX10_shift_17 : decode cX10_shift 17 = .ok (.getfield 98, 3) := by decide +kernel
theorem dX10_shift_20 : decode cX10_shift 20 = .ok (.iload_n 1, 1) := by decide +kernel
theorem dX10_shift_21 : decode cX10_shift 21 = .ok (.aaload, 1) := by decide +kernel
theorem dX10_shift_22 : decode cX10_shift 22 = .ok (.astore 6, 2) := by decide +kernel
theorem dX10_shift_24 : decode cX10_shift 24 = .ok (.aload_n 0, 1) := by decide +kernel
theorem dX10_shift_25 : decode cX10_shift 25 = .ok (.getfield 98, 3) := by decide +kernel
theorem dX10_shift_28 : decode cX10_shift 28 = .ok (.iload_n 3, 1) := by decide +kernel
theorem dX10_shift_29 : decode cX10_shift 29 = .ok (.aaload, 1) := by decide +kernel
theorem dX10_shift_30 : decode cX10_shift 30 = .ok (.astore 7, 2) := by decide +kernel
theorem dX10_shift_32 : decode cX10_shift 32 = .ok (.aload 6, 2) := by decide +kernel
theorem dX10_shift_34 : decode cX10_shift 34 = .ok (.getfield 338, 3) := by decide +kernel
theorem dX10_shift_37 : decode cX10_shift 37 = .ok (.iconst (-1), 1) := by decide +kernel
theorem dX10_shift_38 : decode cX10_shift 38 = .ok (.if_icmp .eq 12, 3) := by decide +kernel
theorem dX10_shift_41 : decode cX10_shift 41 = .ok (.aload 7, 2) := by decide +kernel
theorem dX10_shift_43 : decode cX10_shift 43 = .ok (.getfield 338, 3) := by decide +kernel
theorem dX10_shift_46 : decode cX10_shift 46 = .ok (.iconst (-1), 1) := by decide +kernel
theorem dX10_shift_47 : decode cX10_shift 47 = .ok (.if_icmp .ne 6, 3) := by decide +kernel
theorem dX10_shift_50 : decode cX10_shift 50 = .ok (.bipush (-11), 2) := by decide +kernel
theorem dX10_shift_52 : decode cX10_shift 52 = .ok (.ireturn, 1) := by decide +kernel
theorem dX10_shift_53 : decode cX10_shift 53 = .ok (.aload 6, 2) := by decide +kernel
theorem dX10_shift_55 : decode cX10_shift 55 = .ok (.getfield 338, 3) := by decide +kernel
theorem dX10_shift_58 : decode cX10_shift 58 = .ok (.aload 7, 2) := by decide +kernel
theorem dX10_shift_60 : decode cX10_shift 60 = .ok (.getfield 338, 3) := by decide +kernel
theorem dX10_shift_63 : decode cX10_shift 63 = .ok (.if_icmp .eq 6, 3) := by decide +kernel
theorem dX10_shift_66 : decode cX10_shift 66 = .ok (.bipush (-12), 2) := by decide +kernel
theorem dX10_shift_68 : decode cX10_shift 68 = .ok (.ireturn, 1) := by decide +kernel
theorem dX10_shift_69 : decode cX10_shift 69 = .ok (.aload 6, 2) := by decide +kernel
theorem dX10_shift_71 : decode cX10_shift 71 = .ok (.iload_n 2, 1) := by decide +kernel
theorem dX10_shift_72 : decode cX10_shift 72 = .ok (.iload 5, 2) := by decide +kernel
theorem dX10_shift_74 : decode cX10_shift 74 = .ok (.invokevirtual 365, 3) := by decide +kernel
theorem dX10_shift_77 : decode cX10_shift 77 = .ok (.ifCond .eq 15, 3) := by decide +kernel
theorem dX10_shift_80 : decode cX10_shift 80 = .ok (.aload 7, 2) := by decide +kernel
theorem dX10_shift_82 : decode cX10_shift 82 = .ok (.iload 4, 2) := by decide +kernel
theorem dX10_shift_84 : decode cX10_shift 84 = .ok (.iload 5, 2) := by decide +kernel
theorem dX10_shift_86 : decode cX10_shift 86 = .ok (.invokevirtual 365, 3) := by decide +kernel
theorem dX10_shift_89 : decode cX10_shift 89 = .ok (.ifCond .ne 6, 3) := by decide +kernel
theorem dX10_shift_92 : decode cX10_shift 92 = .ok (.bipush (-13), 2) := by decide +kernel
theorem dX10_shift_94 : decode cX10_shift 94 = .ok (.ireturn, 1) := by decide +kernel
theorem dX10_shift_95 : decode cX10_shift 95 = .ok (.aload 6, 2) := by decide +kernel
theorem dX10_shift_97 : decode cX10_shift 97 = .ok (.getfield 345, 3) := by decide +kernel
theorem dX10_shift_100 : decode cX10_shift 100 = .ok (.iload_n 2, 1) := by decide +kernel
theorem dX10_shift_101 : decode cX10_shift 101 = .ok (.aload 7, 2) := by decide +kernel
theorem dX10_shift_103 : decode cX10_shift 103 = .ok (.getfield 345, 3) := by decide +kernel
theorem dX10_shift_106 : decode cX10_shift 106 = .ok (.iload 4, 2) := by decide +kernel
theorem dX10_shift_108 : decode cX10_shift 108 = .ok (.iload 5, 2) := by decide +kernel
theorem dX10_shift_110 : decode cX10_shift 110 = .ok (.invokestatic 368, 3) := by decide +kernel
theorem dX10_shift_113 : decode cX10_shift 113 = .ok (.iload 5, 2) := by decide +kernel
theorem dX10_shift_115 : decode cX10_shift 115 = .ok (.ireturn, 1) := by decide +kernel
theorem dX10_within_0 : decode cX10_within 0 = .ok (.iload_n 0, 1) := by decide +kernel
theorem dX10_within_1 : decode cX10_within 1 = .ok (.iload_n 1, 1) := by decide +kernel
theorem dX10_within_2 : decode cX10_within 2 = .ok (.if_icmp .lt 12, 3) := by decide +kernel
theorem dX10_within_5 : decode cX10_within 5 = .ok (.iload_n 0, 1) := by decide +kernel
theorem dX10_within_6 : decode cX10_within 6 = .ok (.iload_n 2, 1) := by decide +kernel
theorem dX10_within_7 : decode cX10_within 7 = .ok (.if_icmp .gt 7, 3) := by decide +kernel
theorem dX10_within_10 : decode cX10_within 10 = .ok (.iconst 1, 1) := by decide +kernel
theorem dX10_within_11 : decode cX10_within 11 = .ok (.goto 4, 3) := by decide +kernel
theorem dX10_within_14 : decode cX10_within 14 = .ok (.iconst 0, 1) := by decide +kernel
theorem dX10_within_15 : decode cX10_within 15 = .ok (.ireturn, 1) := by decide +kernel
theorem dX10_isState_0 : decode cX10_isState 0 = .ok (.iload_n 0, 1) := by decide +kernel
theorem dX10_isState_1 : decode cX10_isState 1 = .ok (.iconst 0, 1) := by decide +kernel
theorem dX10_isState_2 : decode cX10_isState 2 = .ok (.iconst 2, 1) := by decide +kernel
theorem dX10_isState_3 : decode cX10_isState 3 = .ok (.invokestatic 134, 3) := by decide +kernel
theorem dX10_isState_6 : decode cX10_isState 6 = .ok (.ireturn, 1) := by decide +kernel
theorem dX10_isTape_0 : decode cX10_isTape 0 = .ok (.iload_n 0, 1) := by decide +kernel
theorem dX10_isTape_1 : decode cX10_isTape 1 = .ok (.iconst 0, 1) := by decide +kernel
theorem dX10_isTape_2 : decode cX10_isTape 2 = .ok (.iconst 5, 1) := by decide +kernel
theorem dX10_isTape_3 : decode cX10_isTape 3 = .ok (.invokestatic 134, 3) := by decide +kernel
theorem dX10_isTape_6 : decode cX10_isTape 6 = .ok (.ireturn, 1) := by decide +kernel
theorem dX10_isStore_0 : decode cX10_isStore 0 = .ok (.iload_n 1, 1) := by decide +kernel
theorem dX10_isStore_1 : decode cX10_isStore 1 = .ok (.iconst 0, 1) := by decide +kernel
theorem dX10_isStore_2 : decode cX10_isStore 2 = .ok (.aload_n 0, 1) := by decide +kernel
theorem dX10_isStore_3 : decode cX10_isStore 3 = .ok (.getfield 14, 3) := by decide +kernel
theorem dX10_isStore_6 : decode cX10_isStore 6 = .ok (.getfield 106, 3) := by decide +kernel
theorem dX10_isStore_9 : decode cX10_isStore 9 = .ok (.getfield 276, 3) := by decide +kernel
theorem dX10_isStore_12 : decode cX10_isStore 12 = .ok (.invokestatic 134, 3) := by decide +kernel
theorem dX10_isStore_15 : decode cX10_isStore 15 = .ok (.ireturn, 1) := by decide +kernel
theorem dX10_canReplay_0 : decode cX10_canReplay 0 = .ok (.iload_n 1, 1) := by decide +kernel
theorem dX10_canReplay_1 : decode cX10_canReplay 1 = .ok (.iconst 0, 1) := by decide +kernel
theorem dX10_canReplay_2 : decode cX10_canReplay 2 = .ok (.iconst 3, 1) := by decide +kernel
theorem dX10_canReplay_3 : decode cX10_canReplay 3 = .ok (.invokestatic 134, 3) := by decide +kernel
theorem dX10_canReplay_6 : decode cX10_canReplay 6 = .ok (.ifCond .eq 25, 3) := by decide +kernel
theorem dX10_canReplay_9 : decode cX10_canReplay 9 = .ok (.aload_n 0, 1) := by decide +kernel
theorem dX10_canReplay_10 : decode cX10_canReplay 10 = .ok (.iload_n 2, 1) := by decide +kernel
theorem dX10_canReplay_11 : decode cX10_canReplay 11 = .ok (.invokevirtual 215, 3) := by decide +kernel
theorem dX10_canReplay_14 : decode cX10_canReplay 14 = .ok (.ifCond .eq 17, 3) := by decide +kernel
theorem dX10_canReplay_17 : decode cX10_canReplay 17 = .ok (.iload_n 3, 1) := by decide +kernel
theorem dX10_canReplay_18 : decode cX10_canReplay 18 = .ok (.iconst 0, 1) := by decide +kernel
theorem dX10_canReplay_19 : decode cX10_canReplay 19 = .ok (.bipush 20, 2) := by decide +kernel
theorem dX10_canReplay_21 : decode cX10_canReplay 21 = .ok (.invokestatic 134, 3) := by decide +kernel
theorem dX10_canReplay_24 : decode cX10_canReplay 24 = .ok (.ifCond .eq 7, 3) := by decide +kernel
theorem dX10_canReplay_27 : decode cX10_canReplay 27 = .ok (.iconst 1, 1) := by decide +kernel
theorem dX10_canReplay_28 : decode cX10_canReplay 28 = .ok (.goto 4, 3) := by decide +kernel
theorem dX10_canReplay_31 : decode cX10_canReplay 31 = .ok (.iconst 0, 1) := by decide +kernel
theorem dX10_canReplay_32 : decode cX10_canReplay 32 = .ok (.ireturn, 1) := by decide +kernel
theorem dX10_canBeWorth_0 : decode cX10_canBeWorth 0 = .ok (.iload_n 1, 1) := by decide +kernel
theorem dX10_canBeWorth_1 : decode cX10_canBeWorth 1 = .ok (.tableswitch 49 0 2 #[27, 39, 41], 27) := by decide +kernel
theorem dX10_canBeWorth_28 : decode cX10_canBeWorth 28 = .ok (.aload_n 0, 1) := by decide +kernel
theorem dX10_canBeWorth_29 : decode cX10_canBeWorth 29 = .ok (.getfield 14, 3) := by decide +kernel
theorem dX10_canBeWorth_32 : decode cX10_canBeWorth 32 = .ok (.getfield 106, 3) := by decide +kernel
theorem dX10_canBeWorth_35 : decode cX10_canBeWorth 35 = .ok (.iload_n 2, 1) := by decide +kernel
theorem dX10_canBeWorth_36 : decode cX10_canBeWorth 36 = .ok (.invokevirtual 182, 3) := by decide +kernel
theorem dX10_canBeWorth_39 : decode cX10_canBeWorth 39 = .ok (.ireturn, 1) := by decide +kernel
theorem dX10_canBeWorth_40 : decode cX10_canBeWorth 40 = .ok (.iconst 1, 1) := by decide +kernel
theorem dX10_canBeWorth_41 : decode cX10_canBeWorth 41 = .ok (.ireturn, 1) := by decide +kernel
theorem dX10_canBeWorth_42 : decode cX10_canBeWorth 42 = .ok (.iload_n 2, 1) := by decide +kernel
theorem dX10_canBeWorth_43 : decode cX10_canBeWorth 43 = .ok (.iconst 0, 1) := by decide +kernel
theorem dX10_canBeWorth_44 : decode cX10_canBeWorth 44 = .ok (.bipush 11, 2) := by decide +kernel
theorem dX10_canBeWorth_46 : decode cX10_canBeWorth 46 = .ok (.invokestatic 134, 3) := by decide +kernel
theorem dX10_canBeWorth_49 : decode cX10_canBeWorth 49 = .ok (.ireturn, 1) := by decide +kernel
theorem dX10_canBeWorth_50 : decode cX10_canBeWorth 50 = .ok (.iconst 0, 1) := by decide +kernel
theorem dX10_canBeWorth_51 : decode cX10_canBeWorth 51 = .ok (.ireturn, 1) := by decide +kernel
theorem dX10_isUnder_0 : decode cX10_isUnder 0 = .ok (.iload_n 0, 1) := by decide +kernel
theorem dX10_isUnder_1 : decode cX10_isUnder 1 = .ok (.istore_n 2, 1) := by decide +kernel
theorem dX10_isUnder_2 : decode cX10_isUnder 2 = .ok (.iconst 0, 1) := by decide +kernel
theorem dX10_isUnder_3 : decode cX10_isUnder 3 = .ok (.istore_n 3, 1) := by decide +kernel
theorem dX10_isUnder_4 : decode cX10_isUnder 4 = .ok (.iload_n 3, 1) := by decide +kernel
theorem dX10_isUnder_5 : decode cX10_isUnder 5 = .ok (.getstatic 374, 3) := by decide +kernel
theorem dX10_isUnder_8 : decode cX10_isUnder 8 = .ok (.arraylength, 1) := by decide +kernel
theorem dX10_isUnder_9 : decode cX10_isUnder 9 = .ok (.if_icmp .ge 31, 3) := by decide +kernel
theorem dX10_isUnder_12 : decode cX10_isUnder 12 = .ok (.iload_n 2, 1) := by decide +kernel
theorem dX10_isUnder_13 : decode cX10_isUnder 13 = .ok (.iconst 0, 1) := by decide +kernel
theorem dX10_isUnder_14 : decode cX10_isUnder 14 = .ok (.iconst 4, 1) := by decide +kernel
theorem dX10_isUnder_15 : decode cX10_isUnder 15 = .ok (.invokestatic 134, 3) := by decide +kernel
theorem dX10_isUnder_18 : decode cX10_isUnder 18 = .ok (.ifCond .eq 22, 3) := by decide +kernel
theorem dX10_isUnder_21 : decode cX10_isUnder 21 = .ok (.iload_n 2, 1) := by decide +kernel
theorem dX10_isUnder_22 : decode cX10_isUnder 22 = .ok (.iload_n 1, 1) := by decide +kernel
theorem dX10_isUnder_23 : decode cX10_isUnder 23 = .ok (.if_icmp .ne 5, 3) := by decide +kernel
theorem dX10_isUnder_26 : decode cX10_isUnder 26 = .ok (.iconst 1, 1) := by decide +kernel
theorem dX10_isUnder_27 : decode cX10_isUnder 27 = .ok (.ireturn, 1) := by decide +kernel
theorem dX10_isUnder_28 : decode cX10_isUnder 28 = .ok (.getstatic 374, 3) := by decide +kernel
theorem dX10_isUnder_31 : decode cX10_isUnder 31 = .ok (.iload_n 2, 1) := by decide +kernel
theorem dX10_isUnder_32 : decode cX10_isUnder 32 = .ok (.iaload, 1) := by decide +kernel
theorem dX10_isUnder_33 : decode cX10_isUnder 33 = .ok (.istore_n 2, 1) := by decide +kernel
theorem dX10_isUnder_34 : decode cX10_isUnder 34 = .ok (.iinc 3 1, 3) := by decide +kernel
theorem dX10_isUnder_37 : decode cX10_isUnder 37 = .ok (.goto (-33), 3) := by decide +kernel
theorem dX10_isUnder_40 : decode cX10_isUnder 40 = .ok (.iconst 0, 1) := by decide +kernel
theorem dX10_isUnder_41 : decode cX10_isUnder 41 = .ok (.ireturn, 1) := by decide +kernel
theorem dX10_forgetFound_0 : decode cX10_forgetFound 0 = .ok (.aload_n 0, 1) := by decide +kernel
theorem dX10_forgetFound_1 : decode cX10_forgetFound 1 = .ok (.iconst 0, 1) := by decide +kernel
theorem dX10_forgetFound_2 : decode cX10_forgetFound 2 = .ok (.putfield 42, 3) := by decide +kernel
theorem dX10_forgetFound_5 : decode cX10_forgetFound 5 = .ok (.aload_n 0, 1) := by decide +kernel
theorem dX10_forgetFound_6 : decode cX10_forgetFound 6 = .ok (.iconst 0, 1) := by decide +kernel
theorem dX10_forgetFound_7 : decode cX10_forgetFound 7 = .ok (.putfield 45, 3) := by decide +kernel
theorem dX10_forgetFound_10 : decode cX10_forgetFound 10 = .ok (.return_, 1) := by decide +kernel
theorem dX10_solveNow_0 : decode cX10_solveNow 0 = .ok (.aload_n 0, 1) := by decide +kernel
theorem dX10_solveNow_1 : decode cX10_solveNow 1 = .ok (.getfield 42, 3) := by decide +kernel
theorem dX10_solveNow_4 : decode cX10_solveNow 4 = .ok (.ifCond .ne 38, 3) := by decide +kernel
theorem dX10_solveNow_7 : decode cX10_solveNow 7 = .ok (.aload_n 0, 1) := by decide +kernel
theorem dX10_solveNow_8 : decode cX10_solveNow 8 = .ok (.getfield 35, 3) := by decide +kernel
theorem dX10_solveNow_11 : decode cX10_solveNow 11 = .ok (.aload_n 0, 1) := by decide +kernel
theorem dX10_solveNow_12 : decode cX10_solveNow 12 = .ok (.getfield 14, 3) := by decide +kernel
theorem dX10_solveNow_15 : decode cX10_solveNow 15 = .ok (.getfield 106, 3) := by decide +kernel
theorem dX10_solveNow_18 : decode cX10_solveNow 18 = .ok (.iconst 0, 1) := by decide +kernel
theorem dX10_solveNow_19 : decode cX10_solveNow 19 = .ok (.invokevirtual 377, 3) := by decide +kernel
theorem dX10_solveNow_22 : decode cX10_solveNow 22 = .ok (.aload_n 0, 1) := by decide +kernel
theorem dX10_solveNow_23 : decode cX10_solveNow 23 = .ok (.getfield 35, 3) := by decide +kernel
theorem dX10_solveNow_26 : decode cX10_solveNow 26 = .ok (.aload_n 0, 1) := by decide +kernel
theorem dX10_solveNow_27 : decode cX10_solveNow 27 = .ok (.getfield 14, 3) := by decide +kernel
theorem dX10_solveNow_30 : decode cX10_solveNow 30 = .ok (.getfield 106, 3) := by decide +kernel
theorem dX10_solveNow_33 : decode cX10_solveNow 33 = .ok (.iconst 0, 1) := by decide +kernel
theorem dX10_solveNow_34 : decode cX10_solveNow 34 = .ok (.invokevirtual 381, 3) := by decide +kernel
theorem dX10_solveNow_37 : decode cX10_solveNow 37 = .ok (.aload_n 0, 1) := by decide +kernel
theorem dX10_solveNow_38 : decode cX10_solveNow 38 = .ok (.iconst 1, 1) := by decide +kernel
theorem dX10_solveNow_39 : decode cX10_solveNow 39 = .ok (.putfield 42, 3) := by decide +kernel
theorem dX10_solveNow_42 : decode cX10_solveNow 42 = .ok (.return_, 1) := by decide +kernel
theorem dX10_solveThought_0 : decode cX10_solveThought 0 = .ok (.aload_n 0, 1) := by decide +kernel
theorem dX10_solveThought_1 : decode cX10_solveThought 1 = .ok (.getfield 39, 3) := by decide +kernel
theorem dX10_solveThought_4 : decode cX10_solveThought 4 = .ok (.aload_n 0, 1) := by decide +kernel
theorem dX10_solveThought_5 : decode cX10_solveThought 5 = .ok (.getfield 28, 3) := by decide +kernel
theorem dX10_solveThought_8 : decode cX10_solveThought 8 = .ok (.iconst 0, 1) := by decide +kernel
theorem dX10_solveThought_9 : decode cX10_solveThought 9 = .ok (.invokevirtual 377, 3) := by decide +kernel
theorem dX10_solveThought_12 : decode cX10_solveThought 12 = .ok (.aload_n 0, 1) := by decide +kernel
theorem dX10_solveThought_13 : decode cX10_solveThought 13 = .ok (.getfield 39, 3) := by decide +kernel
theorem dX10_solveThought_16 : decode cX10_solveThought 16 = .ok (.aload_n 0, 1) := by decide +kernel
theorem dX10_solveThought_17 : decode cX10_solveThought 17 = .ok (.getfield 28, 3) := by decide +kernel
theorem dX10_solveThought_20 : decode cX10_solveThought 20 = .ok (.iconst 0, 1) := by decide +kernel
theorem dX10_solveThought_21 : decode cX10_solveThought 21 = .ok (.invokevirtual 381, 3) := by decide +kernel
theorem dX10_solveThought_24 : decode cX10_solveThought 24 = .ok (.return_, 1) := by decide +kernel
theorem dX10_goThrough_0 : decode cX10_goThrough 0 = .ok (.iload_n 3, 1) := by decide +kernel
theorem dX10_goThrough_1 : decode cX10_goThrough 1 = .ok (.ifCond .ne 7, 3) := by decide +kernel
theorem dX10_goThrough_4 : decode cX10_goThrough 4 = .ok (.aload_n 0, 1) := by decide +kernel
theorem dX10_goThrough_5 : decode cX10_goThrough 5 = .ok (.invokevirtual 228, 3) := by decide +kernel
theorem dX10_goThrough_8 : decode cX10_goThrough 8 = .ok (.aload_n 0, 1) := by decide +kernel
theorem dX10_goThrough_9 : decode cX10_goThrough 9 = .ok (.getfield 72, 3) := by decide +kernel
theorem dX10_goThrough_12 : decode cX10_goThrough 12 = .ok (.aload_n 0, 1) := by decide +kernel
theorem dX10_goThrough_13 : decode cX10_goThrough 13 = .ok (.getfield 14, 3) := by decide +kernel
theorem dX10_goThrough_16 : decode cX10_goThrough 16 = .ok (.getfield 106, 3) := by decide +kernel
theorem dX10_goThrough_19 : decode cX10_goThrough 19 = .ok (.aload_n 0, 1) := by decide +kernel
theorem dX10_goThrough_20 : decode cX10_goThrough 20 = .ok (.getfield 35, 3) := by decide +kernel
theorem dX10_goThrough_23 : decode cX10_goThrough 23 = .ok (.aload_n 0, 1) := by decide +kernel
theorem dX10_goThrough_24 : decode cX10_goThrough 24 = .ok (.getfield 78, 3) := by decide +kernel
theorem dX10_goThrough_27 : decode cX10_goThrough 27 = .ok (.iload_n 1, 1) := by decide +kernel
theorem dX10_goThrough_28 : decode cX10_goThrough 28 = .ok (.aaload, 1) := by decide +kernel
theorem dX10_goThrough_29 : decode cX10_goThrough 29 = .ok (.iload_n 2, 1) := by decide +kernel
theorem dX10_goThrough_30 : decode cX10_goThrough 30 = .ok (.iload_n 3, 1) := by decide +kernel
theorem dX10_goThrough_31 : decode cX10_goThrough 31 = .ok (.iload 4, 2) := by decide +kernel
theorem dX10_goThrough_33 : decode cX10_goThrough 33 = .ok (.invokevirtual 384, 3) := by decide +kernel
theorem dX10_goThrough_36 : decode cX10_goThrough 36 = .ok (.return_, 1) := by decide +kernel
theorem dX10_findFits_0 : decode cX10_findFits 0 = .ok (.aload_n 0, 1) := by decide +kernel
theorem dX10_findFits_1 : decode cX10_findFits 1 = .ok (.getfield 45, 3) := by decide +kernel
theorem dX10_findFits_4 : decode cX10_findFits 4 = .ok (.ifCond .eq 4, 3) := by decide +kernel
theorem dX10_findFits_7 : decode cX10_findFits 7 = .ok (.return_, 1) := by decide +kernel
theorem dX10_findFits_8 : decode cX10_findFits 8 = .ok (.aload_n 0, 1) := by decide +kernel
theorem dX10_findFits_9 : decode cX10_findFits 9 = .ok (.iconst 1, 1) := by decide +kernel
theorem dX10_findFits_10 : decode cX10_findFits 10 = .ok (.putfield 45, 3) := by decide +kernel
theorem dX10_findFits_13 : decode cX10_findFits 13 = .ok (.aload_n 0, 1) := by decide +kernel
theorem dX10_findFits_14 : decode cX10_findFits 14 = .ok (.iconst 0, 1) := by decide +kernel
theorem dX10_findFits_15 : decode cX10_findFits 15 = .ok (.putfield 48, 3) := by decide +kernel
theorem dX10_findFits_18 : decode cX10_findFits 18 = .ok (.aload_n 0, 1) := by decide +kernel
theorem dX10_findFits_19 : decode cX10_findFits 19 = .ok (.bipush (-5), 2) := by decide +kernel
theorem dX10_findFits_21 : decode cX10_findFits 21 = .ok (.putfield 52, 3) := by decide +kernel
theorem dX10_findFits_24 : decode cX10_findFits 24 = .ok (.aload_n 0, 1) := by decide +kernel
theorem dX10_findFits_25 : decode cX10_findFits 25 = .ok (.getfield 14, 3) := by decide +kernel
theorem dX10_findFits_28 : decode cX10_findFits 28 = .ok (.getfield 106, 3) := by decide +kernel
theorem dX10_findFits_31 : decode cX10_findFits 31 = .ok (.getfield 225, 3) := by decide +kernel
theorem dX10_findFits_34 : decode cX10_findFits 34 = .ok (.istore_n 1, 1) := by decide +kernel
theorem dX10_findFits_35 : decode cX10_findFits 35 = .ok (.iconst 0, 1) := by decide +kernel
theorem dX10_findFits_36 : decode cX10_findFits 36 = .ok (.istore_n 2, 1) := by decide +kernel
theorem dX10_findFits_37 : decode cX10_findFits 37 = .ok (.iload_n 2, 1) := by decide +kernel
theorem dX10_findFits_38 : decode cX10_findFits 38 = .ok (.aload_n 0, 1) := by decide +kernel
theorem dX10_findFits_39 : decode cX10_findFits 39 = .ok (.getfield 14, 3) := by decide +kernel
theorem dX10_findFits_42 : decode cX10_findFits 42 = .ok (.getfield 305, 3) := by decide +kernel
theorem dX10_findFits_45 : decode cX10_findFits 45 = .ok (.getfield 285, 3) := by decide +kernel
theorem dX10_findFits_48 : decode cX10_findFits 48 = .ok (.if_icmp .ge 64, 3) := by decide +kernel
theorem dX10_findFits_51 : decode cX10_findFits 51 = .ok (.aload_n 0, 1) := by decide +kernel
theorem dX10_findFits_52 : decode cX10_findFits 52 = .ok (.getfield 14, 3) := by decide +kernel
theorem dX10_findFits_55 : decode cX10_findFits 55 = .ok (.getfield 106, 3) := by decide +kernel
theorem dX10_findFits_58 : decode cX10_findFits 58 = .ok (.aload_n 0, 1) := by decide +kernel
theorem dX10_findFits_59 : decode cX10_findFits 59 = .ok (.getfield 14, 3) := by decide +kernel
theorem dX10_findFits_62 : decode cX10_findFits 62 = .ok (.getfield 305, 3) := by decide +kernel
theorem dX10_findFits_65 : decode cX10_findFits 65 = .ok (.iload_n 2, 1) := by decide +kernel
theorem dX10_findFits_66 : decode cX10_findFits 66 = .ok (.iconst 0, 1) := by decide +kernel
theorem dX10_findFits_67 : decode cX10_findFits 67 = .ok (.invokevirtual 319, 3) := by decide +kernel
theorem dX10_findFits_70 : decode cX10_findFits 70 = .ok (.aload_n 0, 1) := by decide +kernel
theorem dX10_findFits_71 : decode cX10_findFits 71 = .ok (.getfield 14, 3) := by decide +kernel
theorem dX10_findFits_74 : decode cX10_findFits 74 = .ok (.getfield 305, 3) := by decide +kernel
theorem dX10_findFits_77 : decode cX10_findFits 77 = .ok (.iload_n 2, 1) := by decide +kernel
theorem dX10_findFits_78 : decode cX10_findFits 78 = .ok (.iconst 1, 1) := by decide +kernel
theorem dX10_findFits_79 : decode cX10_findFits 79 = .ok (.invokevirtual 319, 3) := by decide +kernel
theorem dX10_findFits_82 : decode cX10_findFits 82 = .ok (.invokevirtual 239, 3) := by decide +kernel
theorem dX10_findFits_85 : decode cX10_findFits 85 = .ok (.ifCond .ne 4, 3) := by decide +kernel
theorem dX10_findFits_88 : decode cX10_findFits 88 = .ok (.return_, 1) := by decide +kernel
theorem dX10_findFits_89 : decode cX10_findFits 89 = .ok (.iload_n 1, 1) := by decide +kernel
theorem dX10_findFits_90 : decode cX10_findFits 90 = .ok (.aload_n 0, 1) := by decide +kernel
theorem dX10_findFits_91 : decode cX10_findFits 91 = .ok (.getfield 14, 3) := by decide +kernel
theorem dX10_findFits_94 : decode cX10_findFits 94 = .ok (.getfield 305, 3) := by decide +kernel
theorem dX10_findFits_97 : decode cX10_findFits 97 = .ok (.iload_n 2, 1) := by decide +kernel
theorem dX10_findFits_98 : decode cX10_findFits 98 = .ok (.iconst 0, 1) := by decide +kernel
theorem dX10_findFits_99 : decode cX10_findFits 99 = .ok (.invokevirtual 319, 3) := by decide +kernel
theorem dX10_findFits_102 : decode cX10_findFits 102 = .ok (.invokestatic 325, 3) := by decide +kernel
theorem dX10_findFits_105 : decode cX10_findFits 105 = .ok (.istore_n 1, 1) := by decide +kernel
theorem dX10_findFits_106 : decode cX10_findFits 106 = .ok (.iinc 2 1, 3) := by decide +kernel
theorem dX10_findFits_109 : decode cX10_findFits 109 = .ok (.goto (-72), 3) := by decide +kernel
theorem dX10_findFits_112 : decode cX10_findFits 112 = .ok (.aload_n 0, 1) := by decide +kernel
theorem dX10_findFits_113 : decode cX10_findFits 113 = .ok (.getfield 28, 3) := by decide +kernel
theorem dX10_findFits_116 : decode cX10_findFits 116 = .ok (.aload_n 0, 1) := by decide +kernel
theorem dX10_findFits_117 : decode cX10_findFits 117 = .ok (.getfield 14, 3) := by decide +kernel
theorem dX10_findFits_120 : decode cX10_findFits 120 = .ok (.getfield 106, 3) := by decide +kernel
theorem dX10_findFits_123 : decode cX10_findFits 123 = .ok (.invokevirtual 269, 3) := by decide +kernel
theorem dX10_findFits_126 : decode cX10_findFits 126 = .ok (.aload_n 0, 1) := by decide +kernel
theorem dX10_findFits_127 : decode cX10_findFits 127 = .ok (.getfield 39, 3) := by decide +kernel
theorem dX10_findFits_130 : decode cX10_findFits 130 = .ok (.aload_n 0, 1) := by decide +kernel
theorem dX10_findFits_131 : decode cX10_findFits 131 = .ok (.getfield 28, 3) := by decide +kernel
theorem dX10_findFits_134 : decode cX10_findFits 134 = .ok (.iload_n 1, 1) := by decide +kernel
theorem dX10_findFits_135 : decode cX10_findFits 135 = .ok (.invokevirtual 377, 3) := by decide +kernel
theorem dX10_findFits_138 : decode cX10_findFits 138 = .ok (.bipush 20, 2) := by decide +kernel
theorem dX10_findFits_140 : decode cX10_findFits 140 = .ok (.istore_n 2, 1) := by decide +kernel
theorem dX10_findFits_141 : decode cX10_findFits 141 = .ok (.iload_n 2, 1) := by decide +kernel
theorem dX10_findFits_142 : decode cX10_findFits 142 = .ok (.ifCond .lt 55, 3) := by decide +kernel
theorem dX10_findFits_145 : decode cX10_findFits 145 = .ok (.aload_n 0, 1) := by decide +kernel
theorem dX10_findFits_146 : decode cX10_findFits 146 = .ok (.getfield 28, 3) := by decide +kernel
theorem dX10_findFits_149 : decode cX10_findFits 149 = .ok (.iload_n 2, 1) := by decide +kernel
theorem dX10_findFits_150 : decode cX10_findFits 150 = .ok (.putfield 387, 3) := by decide +kernel
theorem dX10_findFits_153 : decode cX10_findFits 153 = .ok (.aload_n 0, 1) := by decide +kernel
theorem dX10_findFits_154 : decode cX10_findFits 154 = .ok (.getfield 39, 3) := by decide +kernel
theorem dX10_findFits_157 : decode cX10_findFits 157 = .ok (.aload_n 0, 1) := by decide +kernel
theorem dX10_findFits_158 : decode cX10_findFits 158 = .ok (.getfield 28, 3) := by decide +kernel
theorem dX10_findFits_161 : decode cX10_findFits 161 = .ok (.iload_n 1, 1) := by decide +kernel
theorem dX10_findFits_162 : decode cX10_findFits 162 = .ok (.invokevirtual 381, 3) := by decide +kernel
theorem dX10_findFits_165 : decode cX10_findFits 165 = .ok (.aload_n 0, 1) := by decide +kernel
theorem dX10_findFits_166 : decode cX10_findFits 166 = .ok (.aload_n 0, 1) := by decide +kernel
theorem dX10_findFits_167 : decode cX10_findFits 167 = .ok (.getfield 39, 3) := by decide +kernel
theorem dX10_findFits_170 : decode cX10_findFits 170 = .ok (.invokevirtual 390, 3) := by decide +kernel
theorem dX10_findFits_173 : decode cX10_findFits 173 = .ok (.ifCond .eq 18, 3) := by decide +kernel
theorem dX10_findFits_176 : decode cX10_findFits 176 = .ok (.aload_n 0, 1) := by decide +kernel
theorem dX10_findFits_177 : decode cX10_findFits 177 = .ok (.dup, 1) := by decide +kernel
theorem dX10_findFits_178 : decode cX10_findFits 178 = .ok (.getfield 48, 3) := by decide +kernel
theorem dX10_findFits_181 : decode cX10_findFits 181 = .ok (.iconst 1, 1) := by decide +kernel
theorem dX10_findFits_182 : decode cX10_findFits 182 = .ok (.iadd, 1) := by decide +kernel
theorem dX10_findFits_183 : decode cX10_findFits 183 = .ok (.putfield 48, 3) := by decide +kernel
theorem dX10_findFits_186 : decode cX10_findFits 186 = .ok (.aload_n 0, 1) := by decide +kernel
theorem dX10_findFits_187 : decode cX10_findFits 187 = .ok (.iload_n 2, 1) := by decide +kernel
theorem dX10_findFits_188 : decode cX10_findFits 188 = .ok (.putfield 52, 3) := by decide +kernel
theorem dX10_findFits_191 : decode cX10_findFits 191 = .ok (.iinc 2 (-1), 3) := by decide +kernel
theorem dX10_findFits_194 : decode cX10_findFits 194 = .ok (.goto (-53), 3) := by decide +kernel
theorem dX10_findFits_197 : decode cX10_findFits 197 = .ok (.return_, 1) := by decide +kernel
theorem dX10_goesAsSeen_0 : decode cX10_goesAsSeen 0 = .ok (.aload_n 0, 1) := by decide +kernel
theorem dX10_goesAsSeen_1 : decode cX10_goesAsSeen 1 = .ok (.getfield 14, 3) := by decide +kernel
theorem dX10_goesAsSeen_4 : decode cX10_goesAsSeen 4 = .ok (.getfield 305, 3) := by decide +kernel
theorem dX10_goesAsSeen_7 : decode cX10_goesAsSeen 7 = .ok (.astore_n 2, 1) := by decide +kernel
theorem dX10_goesAsSeen_8 : decode cX10_goesAsSeen 8 = .ok (.iconst 0, 1) := by decide +kernel
theorem dX10_goesAsSeen_9 : decode cX10_goesAsSeen 9 = .ok (.istore_n 3, 1) := by decide +kernel
theorem dX10_goesAsSeen_10 : decode cX10_goesAsSeen 10 = .ok (.iload_n 3, 1) := by decide +kernel
theorem dX10_goesAsSeen_11 : decode cX10_goesAsSeen 11 = .ok (.aload_n 2, 1) := by decide +kernel
theorem dX10_goesAsSeen_12 : decode cX10_goesAsSeen 12 = .ok (.getfield 285, 3) := by decide +kernel
theorem dX10_goesAsSeen_15 : decode cX10_goesAsSeen 15 = .ok (.if_icmp .ge 42, 3) := by decide +kernel
theorem dX10_goesAsSeen_18 : decode cX10_goesAsSeen 18 = .ok (.aload_n 1, 1) := by decide +kernel
theorem dX10_goesAsSeen_19 : decode cX10_goesAsSeen 19 = .ok (.aload_n 2, 1) := by decide +kernel
theorem dX10_goesAsSeen_20 : decode cX10_goesAsSeen 20 = .ok (.iload_n 3, 1) := by decide +kernel
theorem dX10_goesAsSeen_21 : decode cX10_goesAsSeen 21 = .ok (.iconst 0, 1) := by decide +kernel
theorem dX10_goesAsSeen_22 : decode cX10_goesAsSeen 22 = .ok (.invokevirtual 319, 3) := by decide +kernel
theorem dX10_goesAsSeen_25 : decode cX10_goesAsSeen 25 = .ok (.aload_n 2, 1) := by decide +kernel
theorem dX10_goesAsSeen_26 : decode cX10_goesAsSeen 26 = .ok (.iload_n 3, 1) := by decide +kernel
theorem dX10_goesAsSeen_27 : decode cX10_goesAsSeen 27 = .ok (.iconst 1, 1) := by decide +kernel
theorem dX10_goesAsSeen_28 : decode cX10_goesAsSeen 28 = .ok (.invokevirtual 319, 3) := by decide +kernel
theorem dX10_goesAsSeen_31 : decode cX10_goesAsSeen 31 = .ok (.aload_n 2, 1) := by decide +kernel
theorem dX10_goesAsSeen_32 : decode cX10_goesAsSeen 32 = .ok (.iload_n 3, 1) := by decide +kernel
theorem dX10_goesAsSeen_33 : decode cX10_goesAsSeen 33 = .ok (.iconst 2, 1) := by decide +kernel
theorem dX10_goesAsSeen_34 : decode cX10_goesAsSeen 34 = .ok (.invokevirtual 319, 3) := by decide +kernel
theorem dX10_goesAsSeen_37 : decode cX10_goesAsSeen 37 = .ok (.invokevirtual 242, 3) := by decide +kernel
theorem dX10_goesAsSeen_40 : decode cX10_goesAsSeen 40 = .ok (.aload_n 2, 1) := by decide +kernel
theorem dX10_goesAsSeen_41 : decode cX10_goesAsSeen 41 = .ok (.iload_n 3, 1) := by decide +kernel
theorem dX10_goesAsSeen_42 : decode cX10_goesAsSeen 42 = .ok (.iconst 3, 1) := by decide +kernel
theorem dX10_goesAsSeen_43 : decode cX10_goesAsSeen 43 = .ok (.invokevirtual 319, 3) := by decide +kernel
theorem dX10_goesAsSeen_46 : decode cX10_goesAsSeen 46 = .ok (.if_icmp .eq 5, 3) := by decide +kernel
theorem dX10_goesAsSeen_49 : decode cX10_goesAsSeen 49 = .ok (.iconst 0, 1) := by decide +kernel
theorem dX10_goesAsSeen_50 : decode cX10_goesAsSeen 50 = .ok (.ireturn, 1) := by decide +kernel
theorem dX10_goesAsSeen_51 : decode cX10_goesAsSeen 51 = .ok (.iinc 3 1, 3) := by decide +kernel
theorem dX10_goesAsSeen_54 : decode cX10_goesAsSeen 54 = .ok (.goto (-44), 3) := by decide +kernel
theorem dX10_goesAsSeen_57 : decode cX10_goesAsSeen 57 = .ok (.iconst 1, 1) := by decide +kernel
theorem dX10_goesAsSeen_58 : decode cX10_goesAsSeen 58 = .ok (.ireturn, 1) := by decide +kernel
theorem dX10_commonDivisor_0 : decode cX10_commonDivisor 0 = .ok (.iconst 1, 1) := by decide +kernel
theorem dX10_commonDivisor_1 : decode cX10_commonDivisor 1 = .ok (.istore_n 2, 1) := by decide +kernel
theorem dX10_commonDivisor_2 : decode cX10_commonDivisor 2 = .ok (.iconst 2, 1) := by decide +kernel
theorem dX10_commonDivisor_3 : decode cX10_commonDivisor 3 = .ok (.istore_n 3, 1) := by decide +kernel
theorem dX10_commonDivisor_4 : decode cX10_commonDivisor 4 = .ok (.iload_n 3, 1) := by decide +kernel
theorem dX10_commonDivisor_5 : decode cX10_commonDivisor 5 = .ok (.iload_n 0, 1) := by decide +kernel
theorem dX10_commonDivisor_6 : decode cX10_commonDivisor 6 = .ok (.if_icmp .gt 23, 3) := by decide +kernel
theorem dX10_commonDivisor_9 : decode cX10_commonDivisor 9 = .ok (.iload_n 0, 1) := by decide +kernel
theorem dX10_commonDivisor_10 : decode cX10_commonDivisor 10 = .ok (.iload_n 3, 1) := by decide +kernel
theorem dX10_commonDivisor_11 : decode cX10_commonDivisor 11 = .ok (.irem, 1) := by decide +kernel
theorem dX10_commonDivisor_12 : decode cX10_commonDivisor 12 = .ok (.ifCond .ne 11, 3) := by decide +kernel
theorem dX10_commonDivisor_15 : decode cX10_commonDivisor 15 = .ok (.iload_n 1, 1) := by decide +kernel
theorem dX10_commonDivisor_16 : decode cX10_commonDivisor 16 = .ok (.iload_n 3, 1) := by decide +kernel
theorem dX10_commonDivisor_17 : decode cX10_commonDivisor 17 = .ok (.irem, 1) := by decide +kernel
theorem dX10_commonDivisor_18 : decode cX10_commonDivisor 18 = .ok (.ifCond .ne 5, 3) := by decide +kernel
theorem dX10_commonDivisor_21 : decode cX10_commonDivisor 21 = .ok (.iload_n 3, 1) := by decide +kernel
theorem dX10_commonDivisor_22 : decode cX10_commonDivisor 22 = .ok (.istore_n 2, 1) := by decide +kernel
theorem dX10_commonDivisor_23 : decode cX10_commonDivisor 23 = .ok (.iinc 3 1, 3) := by decide +kernel
theorem dX10_commonDivisor_26 : decode cX10_commonDivisor 26 = .ok (.goto (-22), 3) := by decide +kernel
theorem dX10_commonDivisor_29 : decode cX10_commonDivisor 29 = .ok (.iload_n 2, 1) := by decide +kernel
theorem dX10_commonDivisor_30 : decode cX10_commonDivisor 30 = .ok (.ireturn, 1) := by decide +kernel
theorem dX10_bitsOf_0 : decode cX10_bitsOf 0 = .ok (.fload_n 0, 1) := by decide +kernel
theorem dX10_bitsOf_1 : decode cX10_bitsOf 1 = .ok (.fconst 0, 1) := by decide +kernel
theorem dX10_bitsOf_2 : decode cX10_bitsOf 2 = .ok (.fcmp .l, 1) := by decide +kernel
theorem dX10_bitsOf_3 : decode cX10_bitsOf 3 = .ok (.ifCond .ne 5, 3) := by decide +kernel
theorem dX10_bitsOf_6 : decode cX10_bitsOf 6 = .ok (.iconst 0, 1) := by decide +kernel
theorem dX10_bitsOf_7 : decode cX10_bitsOf 7 = .ok (.ireturn, 1) := by decide +kernel
theorem dX10_bitsOf_8 : decode cX10_bitsOf 8 = .ok (.fload_n 0, 1) := by decide +kernel
theorem dX10_bitsOf_9 : decode cX10_bitsOf 9 = .ok (.fconst 0, 1) := by decide +kernel
theorem dX10_bitsOf_10 : decode cX10_bitsOf 10 = .ok (.fcmp .g, 1) := by decide +kernel
theorem dX10_bitsOf_11 : decode cX10_bitsOf 11 = .ok (.ifCond .ge 8, 3) := by decide +kernel
theorem dX10_bitsOf_14 : decode cX10_bitsOf 14 = .ok (.fload_n 0, 1) := by decide +kernel
theorem dX10_bitsOf_15 : decode cX10_bitsOf 15 = .ok (.fneg, 1) := by decide +kernel
theorem dX10_bitsOf_16 : decode cX10_bitsOf 16 = .ok (.goto 4, 3) := by decide +kernel
theorem dX10_bitsOf_19 : decode cX10_bitsOf 19 = .ok (.fload_n 0, 1) := by decide +kernel
theorem dX10_bitsOf_20 : decode cX10_bitsOf 20 = .ok (.fstore_n 1, 1) := by decide +kernel
theorem dX10_bitsOf_21 : decode cX10_bitsOf 21 = .ok (.bipush 127, 2) := by decide +kernel
theorem dX10_bitsOf_23 : decode cX10_bitsOf 23 = .ok (.istore_n 2, 1) := by decide +kernel
theorem dX10_bitsOf_24 : decode cX10_bitsOf 24 = .ok (.fload_n 1, 1) := by decide +kernel
theorem dX10_bitsOf_25 : decode cX10_bitsOf 25 = .ok (.fconst 2, 1) := by decide +kernel
theorem dX10_bitsOf_26 : decode cX10_bitsOf 26 = .ok (.fcmp .l, 1) := by decide +kernel
theorem dX10_bitsOf_27 : decode cX10_bitsOf 27 = .ok (.ifCond .lt 20, 3) := by decide +kernel
theorem dX10_bitsOf_30 : decode cX10_bitsOf 30 = .ok (.iload_n 2, 1) := by decide +kernel
theorem dX10_bitsOf_31 : decode cX10_bitsOf 31 = .ok (.sipush 254, 3) := by decide +kernel
theorem dX10_bitsOf_34 : decode cX10_bitsOf 34 = .ok (.if_icmp .ge 13, 3) := by decide +kernel
theorem dX10_bitsOf_37 : decode cX10_bitsOf 37 = .ok (.fload_n 1, 1) := by decide +kernel
theorem dX10_bitsOf_38 : decode cX10_bitsOf 38 = .ok (.fconst 2, 1) := by decide +kernel
theorem dX10_bitsOf_39 : decode cX10_bitsOf 39 = .ok (.fdiv, 1) := by decide +kernel
theorem dX10_bitsOf_40 : decode cX10_bitsOf 40 = .ok (.fstore_n 1, 1) := by decide +kernel
theorem dX10_bitsOf_41 : decode cX10_bitsOf 41 = .ok (.iinc 2 1, 3) := by decide +kernel
theorem dX10_bitsOf_44 : decode cX10_bitsOf 44 = .ok (.goto (-20), 3) := by decide +kernel
theorem dX10_bitsOf_47 : decode cX10_bitsOf 47 = .ok (.fload_n 1, 1) := by decide +kernel
theorem dX10_bitsOf_48 : decode cX10_bitsOf 48 = .ok (.fconst 1, 1) := by decide +kernel
theorem dX10_bitsOf_49 : decode cX10_bitsOf 49 = .ok (.fcmp .g, 1) := by decide +kernel
theorem dX10_bitsOf_50 : decode cX10_bitsOf 50 = .ok (.ifCond .ge 18, 3) := by decide +kernel
theorem dX10_bitsOf_53 : decode cX10_bitsOf 53 = .ok (.iload_n 2, 1) := by decide +kernel
theorem dX10_bitsOf_54 : decode cX10_bitsOf 54 = .ok (.iconst 1, 1) := by decide +kernel
theorem dX10_bitsOf_55 : decode cX10_bitsOf 55 = .ok (.if_icmp .le 13, 3) := by decide +kernel
theorem dX10_bitsOf_58 : decode cX10_bitsOf 58 = .ok (.fload_n 1, 1) := by decide +kernel
theorem dX10_bitsOf_59 : decode cX10_bitsOf 59 = .ok (.fconst 2, 1) := by decide +kernel
theorem dX10_bitsOf_60 : decode cX10_bitsOf 60 = .ok (.fmul, 1) := by decide +kernel
theorem dX10_bitsOf_61 : decode cX10_bitsOf 61 = .ok (.fstore_n 1, 1) := by decide +kernel
theorem dX10_bitsOf_62 : decode cX10_bitsOf 62 = .ok (.iinc 2 (-1), 3) := by decide +kernel
theorem dX10_bitsOf_65 : decode cX10_bitsOf 65 = .ok (.goto (-18), 3) := by decide +kernel
theorem dX10_bitsOf_68 : decode cX10_bitsOf 68 = .ok (.fload_n 1, 1) := by decide +kernel
theorem dX10_bitsOf_69 : decode cX10_bitsOf 69 = .ok (.ldc_w 394, 3) := by decide +kernel
theorem dX10_bitsOf_72 : decode cX10_bitsOf 72 = .ok (.fmul, 1) := by decide +kernel
theorem dX10_bitsOf_73 : decode cX10_bitsOf 73 = .ok (.f2i, 1) := by decide +kernel
theorem dX10_bitsOf_74 : decode cX10_bitsOf 74 = .ok (.ldc_w 395, 3) := by decide +kernel
theorem dX10_bitsOf_77 : decode cX10_bitsOf 77 = .ok (.isub, 1) := by decide +kernel
theorem dX10_bitsOf_78 : decode cX10_bitsOf 78 = .ok (.istore_n 3, 1) := by decide +kernel
theorem dX10_bitsOf_79 : decode cX10_bitsOf 79 = .ok (.fload_n 0, 1) := by decide +kernel
theorem dX10_bitsOf_80 : decode cX10_bitsOf 80 = .ok (.fconst 0, 1) := by decide +kernel
theorem dX10_bitsOf_81 : decode cX10_bitsOf 81 = .ok (.fcmp .g, 1) := by decide +kernel
theorem dX10_bitsOf_82 : decode cX10_bitsOf 82 = .ok (.ifCond .ge 9, 3) := by decide +kernel
theorem dX10_bitsOf_85 : decode cX10_bitsOf 85 = .ok (.ldc_w 396, 3) := by decide +kernel
theorem dX10_bitsOf_88 : decode cX10_bitsOf 88 = .ok (.goto 4, 3) := by decide +kernel
theorem dX10_bitsOf_91 : decode cX10_bitsOf 91 = .ok (.iconst 0, 1) := by decide +kernel
theorem dX10_bitsOf_92 : decode cX10_bitsOf 92 = .ok (.iload_n 2, 1) := by decide +kernel
theorem dX10_bitsOf_93 : decode cX10_bitsOf 93 = .ok (.bipush 23, 2) := by decide +kernel
theorem dX10_bitsOf_95 : decode cX10_bitsOf 95 = .ok (.ishl, 1) := by decide +kernel
theorem dX10_bitsOf_96 : decode cX10_bitsOf 96 = .ok (.iadd, 1) := by decide +kernel
theorem dX10_bitsOf_97 : decode cX10_bitsOf 97 = .ok (.iload_n 3, 1) := by decide +kernel
theorem dX10_bitsOf_98 : decode cX10_bitsOf 98 = .ok (.iadd, 1) := by decide +kernel
theorem dX10_bitsOf_99 : decode cX10_bitsOf 99 = .ok (.ireturn, 1) := by decide +kernel
