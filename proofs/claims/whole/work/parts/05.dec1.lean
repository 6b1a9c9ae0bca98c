theorem dX6_noteExecuted_20 : decode cX6_noteExecuted 20 = .ok (.iload_n 3, 1) := by decide +kernel
theorem dX6_noteExecuted_21 : decode cX6_noteExecuted 21 = .ok (.dup2, 1) := by decide +kernel
theorem dX6_noteExecuted_22 : decode cX6_noteExecuted 22 = .ok (.iaload, 1) := by decide +kernel
theorem dX6_noteExecuted_23 : decode cX6_noteExecuted 23 = .ok (.iload_n 2, 1) := by decide +kernel
theorem dX6_noteExecuted_24 : decode cX6_noteExecuted 24 = .ok (.iadd, 1) := by decide +kernel
theorem dX6_noteExecuted_25 : decode cX6_noteExecuted 25 = .ok (.iastore, 1) := by decide +kernel
theorem dX6_noteExecuted_26 : decode cX6_noteExecuted 26 = .ok (.iinc 3 1, 3) := by decide +kernel
theorem dX6_noteExecuted_29 : decode cX6_noteExecuted 29 = .ok (.goto (-27), 3) := by decide +kernel
theorem dX6_noteExecuted_32 : decode cX6_noteExecuted 32 = .ok (.return_, 1) := by decide +kernel
theorem dX6_isJoint_0 : decode cX6_isJoint 0 = .ok (.iload_n 0, 1) := by decide +kernel
theorem dX6_isJoint_1 : decode cX6_isJoint 1 = .ok (.bipush 8, 2) := by decide +kernel
theorem dX6_isJoint_3 : decode cX6_isJoint 3 = .ok (.if_icmp .eq 15, 3) := by decide +kernel
theorem dX6_isJoint_6 : decode cX6_isJoint 6 = .ok (.iload_n 0, 1) := by decide +kernel
theorem dX6_isJoint_7 : decode cX6_isJoint 7 = .ok (.bipush 13, 2) := by decide +kernel
theorem dX6_isJoint_9 : decode cX6_isJoint 9 = .ok (.if_icmp .eq 9, 3) := by decide +kernel
theorem dX6_isJoint_12 : decode cX6_isJoint 12 = .ok (.iload_n 0, 1) := by decide +kernel
theorem dX6_isJoint_13 : decode cX6_isJoint 13 = .ok (.bipush 14, 2) := by decide +kernel
theorem dX6_isJoint_15 : decode cX6_isJoint 15 = .ok (.if_icmp .ne 7, 3) := by decide +kernel
theorem dX6_isJoint_18 : decode cX6_isJoint 18 = .ok (.iconst 1, 1) := by decide +kernel
theorem dX6_isJoint_19 : decode cX6_isJoint 19 = .ok (.goto 4, 3) := by decide +kernel
theorem dX6_isJoint_22 : decode cX6_isJoint 22 = .ok (.iconst 0, 1) := by decide +kernel
theorem dX6_isJoint_23 : decode cX6_isJoint 23 = .ok (.ireturn, 1) := by decide +kernel
theorem dX6_executeJointly_0 : decode cX6_executeJointly 0 = .ok (.aload_n 1, 1) := by decide +kernel
theorem dX6_executeJointly_1 : decode cX6_executeJointly 1 = .ok (.getfield 73, 3) := by decide +kernel
theorem dX6_executeJointly_4 : decode cX6_executeJointly 4 = .ok (.iload_n 2, 1) := by decide +kernel
theorem dX6_executeJointly_5 : decode cX6_executeJointly 5 = .ok (.iaload, 1) := by decide +kernel
theorem dX6_executeJointly_6 : decode cX6_executeJointly 6 = .ok (.istore 4, 2) := by decide +kernel
theorem dX6_executeJointly_8 : decode cX6_executeJointly 8 = .ok (.aload_n 1, 1) := by decide +kernel
theorem dX6_executeJointly_9 : decode cX6_executeJointly 9 = .ok (.getfield 92, 3) := by decide +kernel
theorem dX6_executeJointly_12 : decode cX6_executeJointly 12 = .ok (.iload_n 2, 1) := by decide +kernel
theorem dX6_executeJointly_13 : decode cX6_executeJointly 13 = .ok (.iaload, 1) := by decide +kernel
theorem dX6_executeJointly_14 : decode cX6_executeJointly 14 = .ok (.istore 5, 2) := by decide +kernel
theorem dX6_executeJointly_16 : decode cX6_executeJointly 16 = .ok (.iload 4, 2) := by decide +kernel
theorem dX6_executeJointly_18 : decode cX6_executeJointly 18 = .ok (.bipush 14, 2) := by decide +kernel
theorem dX6_executeJointly_20 : decode cX6_executeJointly 20 = .ok (.if_icmp .ne 11, 3) := by decide +kernel
theorem dX6_executeJointly_23 : decode cX6_executeJointly 23 = .ok (.aload_n 0, 1) := by decide +kernel
theorem dX6_executeJointly_24 : decode cX6_executeJointly 24 = .ok (.iload_n 3, 1) := by decide +kernel
theorem dX6_executeJointly_25 : decode cX6_executeJointly 25 = .ok (.invokevirtual 95, 3) := by decide +kernel
theorem dX6_executeJointly_28 : decode cX6_executeJointly 28 = .ok (.goto 10, 3) := by decide +kernel
theorem dX6_executeJointly_31 : decode cX6_executeJointly 31 = .ok (.aload_n 0, 1) := by decide +kernel
theorem dX6_executeJointly_32 : decode cX6_executeJointly 32 = .ok (.iload 5, 2) := by decide +kernel
theorem dX6_executeJointly_34 : decode cX6_executeJointly 34 = .ok (.iload_n 3, 1) := by decide +kernel
theorem dX6_executeJointly_35 : decode cX6_executeJointly 35 = .ok (.invokevirtual 98, 3) := by decide +kernel
theorem dX6_executeJointly_38 : decode cX6_executeJointly 38 = .ok (.istore 6, 2) := by decide +kernel
theorem dX6_executeJointly_40 : decode cX6_executeJointly 40 = .ok (.iload 6, 2) := by decide +kernel
theorem dX6_executeJointly_42 : decode cX6_executeJointly 42 = .ok (.aload_n 1, 1) := by decide +kernel
theorem dX6_executeJointly_43 : decode cX6_executeJointly 43 = .ok (.getfield 101, 3) := by decide +kernel
theorem dX6_executeJointly_46 : decode cX6_executeJointly 46 = .ok (.iload_n 2, 1) := by decide +kernel
theorem dX6_executeJointly_47 : decode cX6_executeJointly 47 = .ok (.iaload, 1) := by decide +kernel
theorem dX6_executeJointly_48 : decode cX6_executeJointly 48 = .ok (.iadd, 1) := by decide +kernel
theorem dX6_executeJointly_49 : decode cX6_executeJointly 49 = .ok (.istore 7, 2) := by decide +kernel
theorem dX6_executeJointly_51 : decode cX6_executeJointly 51 = .ok (.iload_n 3, 1) := by decide +kernel
theorem dX6_executeJointly_52 : decode cX6_executeJointly 52 = .ok (.invokestatic 45, 3) := by decide +kernel
theorem dX6_executeJointly_55 : decode cX6_executeJointly 55 = .ok (.istore 8, 2) := by decide +kernel
theorem dX6_executeJointly_57 : decode cX6_executeJointly 57 = .ok (.iload 8, 2) := by decide +kernel
theorem dX6_executeJointly_59 : decode cX6_executeJointly 59 = .ok (.istore 9, 2) := by decide +kernel
theorem dX6_executeJointly_61 : decode cX6_executeJointly 61 = .ok (.iload 9, 2) := by decide +kernel
theorem dX6_executeJointly_63 : decode cX6_executeJointly 63 = .ok (.bipush 8, 2) := by decide +kernel
theorem dX6_executeJointly_65 : decode cX6_executeJointly 65 = .ok (.if_icmp .ge 86, 3) := by decide +kernel
theorem dX6_executeJointly_68 : decode cX6_executeJointly 68 = .ok (.iload 9, 2) := by decide +kernel
theorem dX6_executeJointly_70 : decode cX6_executeJointly 70 = .ok (.iload_n 3, 1) := by decide +kernel
theorem dX6_executeJointly_71 : decode cX6_executeJointly 71 = .ok (.invokestatic 49, 3) := by decide +kernel
theorem dX6_executeJointly_74 : decode cX6_executeJointly 74 = .ok (.ifCond .eq 71, 3) := by decide +kernel
theorem dX6_executeJointly_77 : decode cX6_executeJointly 77 = .ok (.aload_n 0, 1) := by decide +kernel
theorem dX6_executeJointly_78 : decode cX6_executeJointly 78 = .ok (.getfield 27, 3) := by decide +kernel
theorem dX6_executeJointly_81 : decode cX6_executeJointly 81 = .ok (.iload 9, 2) := by decide +kernel
theorem dX6_executeJointly_83 : decode cX6_executeJointly 83 = .ok (.iconst 4, 1) := by decide +kernel
theorem dX6_executeJointly_84 : decode cX6_executeJointly 84 = .ok (.imul, 1) := by decide +kernel
theorem dX6_executeJointly_85 : decode cX6_executeJointly 85 = .ok (.iconst 3, 1) := by decide +kernel
theorem dX6_executeJointly_86 : decode cX6_executeJointly 86 = .ok (.iadd, 1) := by decide +kernel
theorem dX6_executeJointly_87 : decode cX6_executeJointly 87 = .ok (.dup2, 1) := by decide +kernel
theorem dX6_executeJointly_88 : decode cX6_executeJointly 88 = .ok (.iaload, 1) := by decide +kernel
theorem dX6_executeJointly_89 : decode cX6_executeJointly 89 = .ok (.iload 6, 2) := by decide +kernel
theorem dX6_executeJointly_91 : decode cX6_executeJointly 91 = .ok (.aload_n 0, 1) := by decide +kernel
theorem dX6_executeJointly_92 : decode cX6_executeJointly 92 = .ok (.getfield 9, 3) := by decide +kernel
theorem dX6_executeJointly_95 : decode cX6_executeJointly 95 = .ok (.iload 9, 2) := by decide +kernel
theorem dX6_executeJointly_97 : decode cX6_executeJointly 97 = .ok (.iaload, 1) := by decide +kernel
theorem dX6_executeJointly_98 : decode cX6_executeJointly 98 = .ok (.isub, 1) := by decide +kernel
theorem dX6_executeJointly_99 : decode cX6_executeJointly 99 = .ok (.iadd, 1) := by decide +kernel
theorem dX6_executeJointly_100 : decode cX6_executeJointly 100 = .ok (.iastore, 1) := by decide +kernel
theorem dX6_executeJointly_101 : decode cX6_executeJointly 101 = .ok (.aload_n 0, 1) := by decide +kernel
theorem dX6_executeJointly_102 : decode cX6_executeJointly 102 = .ok (.getfield 9, 3) := by decide +kernel
theorem dX6_executeJointly_105 : decode cX6_executeJointly 105 = .ok (.iload 9, 2) := by decide +kernel
theorem dX6_executeJointly_107 : decode cX6_executeJointly 107 = .ok (.iload 7, 2) := by decide +kernel
theorem dX6_executeJointly_109 : decode cX6_executeJointly 109 = .ok (.iastore, 1) := by decide +kernel
theorem dX6_executeJointly_110 : decode cX6_executeJointly 110 = .ok (.iload 4, 2) := by decide +kernel
theorem dX6_executeJointly_112 : decode cX6_executeJointly 112 = .ok (.bipush 13, 2) := by decide +kernel
theorem dX6_executeJointly_114 : decode cX6_executeJointly 114 = .ok (.if_icmp .eq 17, 3) := by decide +kernel
theorem dX6_executeJointly_117 : decode cX6_executeJointly 117 = .ok (.iload 4, 2) := by decide +kernel
theorem dX6_executeJointly_119 : decode cX6_executeJointly 119 = .ok (.bipush 8, 2) := by decide +kernel
theorem dX6_executeJointly_121 : decode cX6_executeJointly 121 = .ok (.if_icmp .ne 24, 3) := by decide +kernel
theorem dX6_executeJointly_124 : decode cX6_executeJointly 124 = .ok (.iload 9, 2) := by decide +kernel
theorem dX6_executeJointly_126 : decode cX6_executeJointly 126 = .ok (.iload 8, 2) := by decide +kernel
theorem dX6_executeJointly_128 : decode cX6_executeJointly 128 = .ok (.if_icmp .ne 17, 3) := by decide +kernel
theorem dX6_executeJointly_131 : decode cX6_executeJointly 131 = .ok (.aload_n 0, 1) := by decide +kernel
theorem dX6_executeJointly_132 : decode cX6_executeJointly 132 = .ok (.getfield 15, 3) := by decide +kernel
theorem dX6_executeJointly_135 : decode cX6_executeJointly 135 = .ok (.iload 9, 2) := by decide +kernel
theorem dX6_executeJointly_137 : decode cX6_executeJointly 137 = .ok (.iconst 4, 1) := by decide +kernel
theorem dX6_executeJointly_138 : decode cX6_executeJointly 138 = .ok (.imul, 1) := by decide +kernel
theorem dX6_executeJointly_139 : decode cX6_executeJointly 139 = .ok (.iload 5, 2) := by decide +kernel
theorem dX6_executeJointly_141 : decode cX6_executeJointly 141 = .ok (.iadd, 1) := by decide +kernel
theorem dX6_executeJointly_142 : decode cX6_executeJointly 142 = .ok (.iload 7, 2) := by decide +kernel
theorem dX6_executeJointly_144 : decode cX6_executeJointly 144 = .ok (.iastore, 1) := by decide +kernel
theorem dX6_executeJointly_145 : decode cX6_executeJointly 145 = .ok (.iinc 9 1, 3) := by decide +kernel
theorem dX6_executeJointly_148 : decode cX6_executeJointly 148 = .ok (.goto (-87), 3) := by decide +kernel
theorem dX6_executeJointly_151 : decode cX6_executeJointly 151 = .ok (.return_, 1) := by decide +kernel
theorem dX6_latestOf_0 : decode cX6_latestOf 0 = .ok (.iconst 0, 1) := by decide +kernel
theorem dX6_latestOf_1 : decode cX6_latestOf 1 = .ok (.istore_n 3, 1) := by decide +kernel
theorem dX6_latestOf_2 : decode cX6_latestOf 2 = .ok (.iconst 0, 1) := by decide +kernel
theorem dX6_latestOf_3 : decode cX6_latestOf 3 = .ok (.istore 4, 2) := by decide +kernel
theorem dX6_latestOf_5 : decode cX6_latestOf 5 = .ok (.iload 4, 2) := by decide +kernel
theorem dX6_latestOf_7 : decode cX6_latestOf 7 = .ok (.bipush 8, 2) := by decide +kernel
theorem dX6_latestOf_9 : decode cX6_latestOf 9 = .ok (.if_icmp .ge 48, 3) := by decide +kernel
theorem dX6_latestOf_12 : decode cX6_latestOf 12 = .ok (.iload 4, 2) := by decide +kernel
theorem dX6_latestOf_14 : decode cX6_latestOf 14 = .ok (.iload_n 2, 1) := by decide +kernel
theorem dX6_latestOf_15 : decode cX6_latestOf 15 = .ok (.invokestatic 49, 3) := by decide +kernel
theorem dX6_latestOf_18 : decode cX6_latestOf 18 = .ok (.ifCond .eq 33, 3) := by decide +kernel
theorem dX6_latestOf_21 : decode cX6_latestOf 21 = .ok (.aload_n 0, 1) := by decide +kernel
theorem dX6_latestOf_22 : decode cX6_latestOf 22 = .ok (.getfield 15, 3) := by decide +kernel
theorem dX6_latestOf_25 : decode cX6_latestOf 25 = .ok (.iload 4, 2) := by decide +kernel
theorem dX6_latestOf_27 : decode cX6_latestOf 27 = .ok (.iconst 4, 1) := by decide +kernel
theorem dX6_latestOf_28 : decode cX6_latestOf 28 = .ok (.imul, 1) := by decide +kernel
theorem dX6_latestOf_29 : decode cX6_latestOf 29 = .ok (.iload_n 1, 1) := by decide +kernel
theorem dX6_latestOf_30 : decode cX6_latestOf 30 = .ok (.iadd, 1) := by decide +kernel
theorem dX6_latestOf_31 : decode cX6_latestOf 31 = .ok (.iaload, 1) := by decide +kernel
theorem dX6_latestOf_32 : decode cX6_latestOf 32 = .ok (.istore 5, 2) := by decide +kernel
theorem dX6_latestOf_34 : decode cX6_latestOf 34 = .ok (.iload_n 3, 1) := by decide +kernel
theorem dX6_latestOf_35 : decode cX6_latestOf 35 = .ok (.aload_n 0, 1) := by decide +kernel
theorem dX6_latestOf_36 : decode cX6_latestOf 36 = .ok (.getfield 9, 3) := by decide +kernel
theorem dX6_latestOf_39 : decode cX6_latestOf 39 = .ok (.iload 4, 2) := by decide +kernel
theorem dX6_latestOf_41 : decode cX6_latestOf 41 = .ok (.iaload, 1) := by decide +kernel
theorem dX6_latestOf_42 : decode cX6_latestOf 42 = .ok (.iload 5, 2) := by decide +kernel
theorem dX6_latestOf_44 : decode cX6_latestOf 44 = .ok (.invokestatic 59, 3) := by decide +kernel
theorem dX6_latestOf_47 : decode cX6_latestOf 47 = .ok (.invokestatic 59, 3) := by decide +kernel
theorem dX6_latestOf_50 : decode cX6_latestOf 50 = .ok (.istore_n 3, 1) := by decide +kernel
theorem dX6_latestOf_51 : decode cX6_latestOf 51 = .ok (.iinc 4 1, 3) := by decide +kernel
theorem dX6_latestOf_54 : decode cX6_latestOf 54 = .ok (.goto (-49), 3) := by decide +kernel
theorem dX6_latestOf_57 : decode cX6_latestOf 57 = .ok (.iload_n 3, 1) := by decide +kernel
theorem dX6_latestOf_58 : decode cX6_latestOf 58 = .ok (.ireturn, 1) := by decide +kernel
theorem dX6_executeApart_0 : decode cX6_executeApart 0 = .ok (.iconst 0, 1) := by decide +kernel
theorem dX6_executeApart_1 : decode cX6_executeApart 1 = .ok (.istore 5, 2) := by decide +kernel
theorem dX6_executeApart_3 : decode cX6_executeApart 3 = .ok (.iload 5, 2) := by decide +kernel
theorem dX6_executeApart_5 : decode cX6_executeApart 5 = .ok (.bipush 8, 2) := by decide +kernel
theorem dX6_executeApart_7 : decode cX6_executeApart 7 = .ok (.if_icmp .ge 72, 3) := by decide +kernel
theorem dX6_executeApart_10 : decode cX6_executeApart 10 = .ok (.iload 5, 2) := by decide +kernel
theorem dX6_executeApart_12 : decode cX6_executeApart 12 = .ok (.iload_n 3, 1) := by decide +kernel
theorem dX6_executeApart_13 : decode cX6_executeApart 13 = .ok (.invokestatic 49, 3) := by decide +kernel
theorem dX6_executeApart_16 : decode cX6_executeApart 16 = .ok (.ifCond .eq 57, 3) := by decide +kernel
theorem dX6_executeApart_19 : decode cX6_executeApart 19 = .ok (.aload_n 0, 1) := by decide +kernel
theorem dX6_executeApart_20 : decode cX6_executeApart 20 = .ok (.aload_n 1, 1) := by decide +kernel
theorem dX6_executeApart_21 : decode cX6_executeApart 21 = .ok (.iload_n 2, 1) := by decide +kernel
theorem dX6_executeApart_22 : decode cX6_executeApart 22 = .ok (.iload 5, 2) := by decide +kernel
theorem dX6_executeApart_24 : decode cX6_executeApart 24 = .ok (.invokevirtual 104, 3) := by decide +kernel
theorem dX6_executeApart_27 : decode cX6_executeApart 27 = .ok (.istore 6, 2) := by decide +kernel
theorem dX6_executeApart_29 : decode cX6_executeApart 29 = .ok (.aload_n 0, 1) := by decide +kernel
theorem dX6_executeApart_30 : decode cX6_executeApart 30 = .ok (.getfield 27, 3) := by decide +kernel
theorem dX6_executeApart_33 : decode cX6_executeApart 33 = .ok (.iload 5, 2) := by decide +kernel
theorem dX6_executeApart_35 : decode cX6_executeApart 35 = .ok (.iconst 4, 1) := by decide +kernel
theorem dX6_executeApart_36 : decode cX6_executeApart 36 = .ok (.imul, 1) := by decide +kernel
theorem dX6_executeApart_37 : decode cX6_executeApart 37 = .ok (.iconst 0, 1) := by decide +kernel
theorem dX6_executeApart_38 : decode cX6_executeApart 38 = .ok (.iadd, 1) := by decide +kernel
theorem dX6_executeApart_39 : decode cX6_executeApart 39 = .ok (.dup2, 1) := by decide +kernel
theorem dX6_executeApart_40 : decode cX6_executeApart 40 = .ok (.iaload, 1) := by decide +kernel
theorem dX6_executeApart_41 : decode cX6_executeApart 41 = .ok (.iload 6, 2) := by decide +kernel
theorem dX6_executeApart_43 : decode cX6_executeApart 43 = .ok (.aload_n 0, 1) := by decide +kernel
theorem dX6_executeApart_44 : decode cX6_executeApart 44 = .ok (.getfield 9, 3) := by decide +kernel
theorem dX6_executeApart_47 : decode cX6_executeApart 47 = .ok (.iload 5, 2) := by decide +kernel
theorem dX6_executeApart_49 : decode cX6_executeApart 49 = .ok (.iaload, 1) := by decide +kernel
theorem dX6_executeApart_50 : decode cX6_executeApart 50 = .ok (.isub, 1) := by decide +kernel
theorem dX6_executeApart_51 : decode cX6_executeApart 51 = .ok (.iadd, 1) := by decide +kernel
theorem dX6_executeApart_52 : decode cX6_executeApart 52 = .ok (.iastore, 1) := by decide +kernel
theorem dX6_executeApart_53 : decode cX6_executeApart 53 = .ok (.aload_n 0, 1) := by decide +kernel
theorem dX6_executeApart_54 : decode cX6_executeApart 54 = .ok (.aload_n 1, 1) := by decide +kernel
theorem dX6_executeApart_55 : decode cX6_executeApart 55 = .ok (.iload_n 2, 1) := by decide +kernel
theorem dX6_executeApart_56 : decode cX6_executeApart 56 = .ok (.iload 5, 2) := by decide +kernel
theorem dX6_executeApart_58 : decode cX6_executeApart 58 = .ok (.aload_n 0, 1) := by decide +kernel
theorem dX6_executeApart_59 : decode cX6_executeApart 59 = .ok (.aload_n 1, 1) := by decide +kernel
theorem dX6_executeApart_60 : decode cX6_executeApart 60 = .ok (.iload_n 2, 1) := by decide +kernel
theorem dX6_executeApart_61 : decode cX6_executeApart 61 = .ok (.iload 5, 2) := by decide +kernel
theorem dX6_executeApart_63 : decode cX6_executeApart 63 = .ok (.iload 6, 2) := by decide +kernel
theorem dX6_executeApart_65 : decode cX6_executeApart 65 = .ok (.iload 4, 2) := by decide +kernel
theorem dX6_executeApart_67 : decode cX6_executeApart 67 = .ok (.invokevirtual 108, 3) := by decide +kernel
theorem dX6_executeApart_70 : decode cX6_executeApart 70 = .ok (.invokevirtual 112, 3) := by decide +kernel
theorem dX6_executeApart_73 : decode cX6_executeApart 73 = .ok (.iinc 5 1, 3) := by decide +kernel
theorem dX6_executeApart_76 : decode cX6_executeApart 76 = .ok (.goto (-73), 3) := by decide +kernel
theorem dX6_executeApart_79 : decode cX6_executeApart 79 = .ok (.return_, 1) := by decide +kernel
theorem dX6_beginOf_0 : decode cX6_beginOf 0 = .ok (.iload_n 3, 1) := by decide +kernel
theorem dX6_beginOf_1 : decode cX6_beginOf 1 = .ok (.iconst 4, 1) := by decide +kernel
theorem dX6_beginOf_2 : decode cX6_beginOf 2 = .ok (.imul, 1) := by decide +kernel
theorem dX6_beginOf_3 : decode cX6_beginOf 3 = .ok (.istore 4, 2) := by decide +kernel
theorem dX6_beginOf_5 : decode cX6_beginOf 5 = .ok (.aload_n 0, 1) := by decide +kernel
theorem dX6_beginOf_6 : decode cX6_beginOf 6 = .ok (.getfield 9, 3) := by decide +kernel
theorem dX6_beginOf_9 : decode cX6_beginOf 9 = .ok (.iload_n 3, 1) := by decide +kernel
theorem dX6_beginOf_10 : decode cX6_beginOf 10 = .ok (.iaload, 1) := by decide +kernel
theorem dX6_beginOf_11 : decode cX6_beginOf 11 = .ok (.aload_n 0, 1) := by decide +kernel
theorem dX6_beginOf_12 : decode cX6_beginOf 12 = .ok (.getfield 15, 3) := by decide +kernel
theorem dX6_beginOf_15 : decode cX6_beginOf 15 = .ok (.iload 4, 2) := by decide +kernel
theorem dX6_beginOf_17 : decode cX6_beginOf 17 = .ok (.aload_n 1, 1) := by decide +kernel
theorem dX6_beginOf_18 : decode cX6_beginOf 18 = .ok (.getfield 92, 3) := by decide +kernel
theorem dX6_beginOf_21 : decode cX6_beginOf 21 = .ok (.iload_n 2, 1) := by decide +kernel
theorem dX6_beginOf_22 : decode cX6_beginOf 22 = .ok (.iaload, 1) := by decide +kernel
theorem dX6_beginOf_23 : decode cX6_beginOf 23 = .ok (.iadd, 1) := by decide +kernel
theorem dX6_beginOf_24 : decode cX6_beginOf 24 = .ok (.iaload, 1) := by decide +kernel
theorem dX6_beginOf_25 : decode cX6_beginOf 25 = .ok (.invokestatic 59, 3) := by decide +kernel
theorem dX6_beginOf_28 : decode cX6_beginOf 28 = .ok (.istore 5, 2) := by decide +kernel
theorem dX6_beginOf_30 : decode cX6_beginOf 30 = .ok (.aload_n 1, 1) := by decide +kernel
theorem dX6_beginOf_31 : decode cX6_beginOf 31 = .ok (.getfield 73, 3) := by decide +kernel
theorem dX6_beginOf_34 : decode cX6_beginOf 34 = .ok (.iload_n 2, 1) := by decide +kernel
theorem dX6_beginOf_35 : decode cX6_beginOf 35 = .ok (.iaload, 1) := by decide +kernel
theorem dX6_beginOf_36 : decode cX6_beginOf 36 = .ok (.bipush 34, 2) := by decide +kernel
theorem dX6_beginOf_38 : decode cX6_beginOf 38 = .ok (.if_icmp .ne 45, 3) := by decide +kernel
theorem dX6_beginOf_41 : decode cX6_beginOf 41 = .ok (.iload 5, 2) := by decide +kernel
theorem dX6_beginOf_43 : decode cX6_beginOf 43 = .ok (.aload_n 0, 1) := by decide +kernel
theorem dX6_beginOf_44 : decode cX6_beginOf 44 = .ok (.getfield 15, 3) := by decide +kernel
theorem dX6_beginOf_47 : decode cX6_beginOf 47 = .ok (.iload 4, 2) := by decide +kernel
theorem dX6_beginOf_49 : decode cX6_beginOf 49 = .ok (.aload_n 1, 1) := by decide +kernel
theorem dX6_beginOf_50 : decode cX6_beginOf 50 = .ok (.getfield 115, 3) := by decide +kernel
theorem dX6_beginOf_53 : decode cX6_beginOf 53 = .ok (.iload_n 2, 1) := by decide +kernel
theorem dX6_beginOf_54 : decode cX6_beginOf 54 = .ok (.iaload, 1) := by decide +kernel
theorem dX6_beginOf_55 : decode cX6_beginOf 55 = .ok (.iadd, 1) := by decide +kernel
theorem dX6_beginOf_56 : decode cX6_beginOf 56 = .ok (.iaload, 1) := by decide +kernel
theorem dX6_beginOf_57 : decode cX6_beginOf 57 = .ok (.invokestatic 59, 3) := by decide +kernel
theorem dX6_beginOf_60 : decode cX6_beginOf 60 = .ok (.istore 5, 2) := by decide +kernel
theorem dX6_beginOf_62 : decode cX6_beginOf 62 = .ok (.iload 5, 2) := by decide +kernel
theorem dX6_beginOf_64 : decode cX6_beginOf 64 = .ok (.aload_n 0, 1) := by decide +kernel
theorem dX6_beginOf_65 : decode cX6_beginOf 65 = .ok (.getfield 15, 3) := by decide +kernel
theorem dX6_beginOf_68 : decode cX6_beginOf 68 = .ok (.iload 4, 2) := by decide +kernel
theorem dX6_beginOf_70 : decode cX6_beginOf 70 = .ok (.aload_n 1, 1) := by decide +kernel
theorem dX6_beginOf_71 : decode cX6_beginOf 71 = .ok (.getfield 118, 3) := by decide +kernel
theorem dX6_beginOf_74 : decode cX6_beginOf 74 = .ok (.iload_n 2, 1) := by decide +kernel
theorem dX6_beginOf_75 : decode cX6_beginOf 75 = .ok (.iaload, 1) := by decide +kernel
theorem dX6_beginOf_76 : decode cX6_beginOf 76 = .ok (.iadd, 1) := by decide +kernel
theorem dX6_beginOf_77 : decode cX6_beginOf 77 = .ok (.iaload, 1) := by decide +kernel
theorem dX6_beginOf_78 : decode cX6_beginOf 78 = .ok (.invokestatic 59, 3) := by decide +kernel
theorem dX6_beginOf_81 : decode cX6_beginOf 81 = .ok (.istore 5, 2) := by decide +kernel
theorem dX6_beginOf_83 : decode cX6_beginOf 83 = .ok (.iload 5, 2) := by decide +kernel
theorem dX6_beginOf_85 : decode cX6_beginOf 85 = .ok (.ireturn, 1) := by decide +kernel
theorem dX6_execute_0 : decode cX6_execute 0 = .ok (.iload 4, 2) := by decide +kernel
theorem dX6_execute_2 : decode cX6_execute 2 = .ok (.aload_n 1, 1) := by decide +kernel
theorem dX6_execute_3 : decode cX6_execute 3 = .ok (.getfield 101, 3) := by decide +kernel
theorem dX6_execute_6 : decode cX6_execute 6 = .ok (.iload_n 2, 1) := by decide +kernel
theorem dX6_execute_7 : decode cX6_execute 7 = .ok (.iaload, 1) := by decide +kernel
theorem dX6_execute_8 : decode cX6_execute 8 = .ok (.iadd, 1) := by decide +kernel
theorem dX6_execute_9 : decode cX6_execute 9 = .ok (.istore 5, 2) := by decide +kernel
theorem dX6_execute_11 : decode cX6_execute 11 = .ok (.aload_n 1, 1) := by decide +kernel
theorem dX6_execute_12 : decode cX6_execute 12 = .ok (.getfield 73, 3) := by decide +kernel
theorem dX6_execute_15 : decode cX6_execute 15 = .ok (.iload_n 2, 1) := by decide +kernel
theorem dX6_execute_16 : decode cX6_execute 16 = .ok (.iaload, 1) := by decide +kernel
theorem dX6_execute_17 : decode cX6_execute 17 = .ok (.bipush 10, 2) := by decide +kernel
theorem dX6_execute_19 : decode cX6_execute 19 = .ok (.if_icmp .ne 14, 3) := by decide +kernel
theorem dX6_execute_22 : decode cX6_execute 22 = .ok (.aload_n 0, 1) := by decide +kernel
theorem dX6_execute_23 : decode cX6_execute 23 = .ok (.getfield 9, 3) := by decide +kernel
theorem dX6_execute_26 : decode cX6_execute 26 = .ok (.iload_n 3, 1) := by decide +kernel
theorem dX6_execute_27 : decode cX6_execute 27 = .ok (.iload 5, 2) := by decide +kernel
theorem dX6_execute_29 : decode cX6_execute 29 = .ok (.iastore, 1) := by decide +kernel
theorem dX6_execute_30 : decode cX6_execute 30 = .ok (.goto 30, 3) := by decide +kernel
theorem dX6_execute_33 : decode cX6_execute 33 = .ok (.aload_n 0, 1) := by decide +kernel
theorem dX6_execute_34 : decode cX6_execute 34 = .ok (.getfield 9, 3) := by decide +kernel
theorem dX6_execute_37 : decode cX6_execute 37 = .ok (.iload_n 3, 1) := by decide +kernel
theorem dX6_execute_38 : decode cX6_execute 38 = .ok (.iload 4, 2) := by decide +kernel
theorem dX6_execute_40 : decode cX6_execute 40 = .ok (.iconst 1, 1) := by decide +kernel
theorem dX6_execute_41 : decode cX6_execute 41 = .ok (.iadd, 1) := by decide +kernel
theorem dX6_execute_42 : decode cX6_execute 42 = .ok (.iastore, 1) := by decide +kernel
theorem dX6_execute_43 : decode cX6_execute 43 = .ok (.aload_n 0, 1) := by decide +kernel
theorem dX6_execute_44 : decode cX6_execute 44 = .ok (.getfield 15, 3) := by decide +kernel
theorem dX6_execute_47 : decode cX6_execute 47 = .ok (.iload_n 3, 1) := by decide +kernel
theorem dX6_execute_48 : decode cX6_execute 48 = .ok (.iconst 4, 1) := by decide +kernel
theorem dX6_execute_49 : decode cX6_execute 49 = .ok (.imul, 1) := by decide +kernel
theorem dX6_execute_50 : decode cX6_execute 50 = .ok (.aload_n 1, 1) := by decide +kernel
theorem dX6_execute_51 : decode cX6_execute 51 = .ok (.getfield 92, 3) := by decide +kernel
theorem dX6_execute_54 : decode cX6_execute 54 = .ok (.iload_n 2, 1) := by decide +kernel
theorem dX6_execute_55 : decode cX6_execute 55 = .ok (.iaload, 1) := by decide +kernel
theorem dX6_execute_56 : decode cX6_execute 56 = .ok (.iadd, 1) := by decide +kernel
theorem dX6_execute_57 : decode cX6_execute 57 = .ok (.iload 5, 2) := by decide +kernel
theorem dX6_execute_59 : decode cX6_execute 59 = .ok (.iastore, 1) := by decide +kernel
theorem dX6_execute_60 : decode cX6_execute 60 = .ok (.return_, 1) := by decide +kernel
theorem dX6_openFor_0 : decode cX6_openFor 0 = .ok (.aload_n 1, 1) := by decide +kernel
theorem dX6_openFor_1 : decode cX6_openFor 1 = .ok (.getfield 73, 3) := by decide +kernel
theorem dX6_openFor_4 : decode cX6_openFor 4 = .ok (.iload_n 2, 1) := by decide +kernel
theorem dX6_openFor_5 : decode cX6_openFor 5 = .ok (.iaload, 1) := by decide +kernel
theorem dX6_openFor_6 : decode cX6_openFor 6 = .ok (.istore 6, 2) := by decide +kernel
theorem dX6_openFor_8 : decode cX6_openFor 8 = .ok (.aload_n 1, 1) := by decide +kernel
theorem dX6_openFor_9 : decode cX6_openFor 9 = .ok (.getfield 115, 3) := by decide +kernel
theorem dX6_openFor_12 : decode cX6_openFor 12 = .ok (.iload_n 2, 1) := by decide +kernel
theorem dX6_openFor_13 : decode cX6_openFor 13 = .ok (.iaload, 1) := by decide +kernel
theorem dX6_openFor_14 : decode cX6_openFor 14 = .ok (.istore 7, 2) := by decide +kernel
theorem dX6_openFor_16 : decode cX6_openFor 16 = .ok (.iload 6, 2) := by decide +kernel
theorem dX6_openFor_18 : decode cX6_openFor 18 = .ok (.bipush 9, 2) := by decide +kernel
theorem dX6_openFor_20 : decode cX6_openFor 20 = .ok (.if_icmp .eq 10, 3) := by decide +kernel
theorem dX6_openFor_23 : decode cX6_openFor 23 = .ok (.iload 6, 2) := by decide +kernel
theorem dX6_openFor_25 : decode cX6_openFor 25 = .ok (.bipush 10, 2) := by decide +kernel
theorem dX6_openFor_27 : decode cX6_openFor 27 = .ok (.if_icmp .ne 14, 3) := by decide +kernel
theorem dX6_openFor_30 : decode cX6_openFor 30 = .ok (.aload_n 0, 1) := by decide +kernel
theorem dX6_openFor_31 : decode cX6_openFor 31 = .ok (.getfield 18, 3) := by decide +kernel
theorem dX6_openFor_34 : decode cX6_openFor 34 = .ok (.iload_n 3, 1) := by decide +kernel
theorem dX6_openFor_35 : decode cX6_openFor 35 = .ok (.iaload, 1) := by decide +kernel
theorem dX6_openFor_36 : decode cX6_openFor 36 = .ok (.iload 7, 2) := by decide +kernel
theorem dX6_openFor_38 : decode cX6_openFor 38 = .ok (.if_icmp .ne 6, 3) := by decide +kernel
theorem dX6_openFor_41 : decode cX6_openFor 41 = .ok (.iload 4, 2) := by decide +kernel
theorem dX6_openFor_43 : decode cX6_openFor 43 = .ok (.ireturn, 1) := by decide +kernel
theorem dX6_openFor_44 : decode cX6_openFor 44 = .ok (.iload 4, 2) := by decide +kernel
theorem dX6_openFor_46 : decode cX6_openFor 46 = .ok (.istore 8, 2) := by decide +kernel
theorem dX6_openFor_48 : decode cX6_openFor 48 = .ok (.aload_n 0, 1) := by decide +kernel
theorem dX6_openFor_49 : decode cX6_openFor 49 = .ok (.getfield 21, 3) := by decide +kernel
theorem dX6_openFor_52 : decode cX6_openFor 52 = .ok (.iload_n 3, 1) := by decide +kernel
theorem dX6_openFor_53 : decode cX6_openFor 53 = .ok (.iaload, 1) := by decide +kernel
theorem dX6_openFor_54 : decode cX6_openFor 54 = .ok (.istore 9, 2) := by decide +kernel
theorem dX6_openFor_56 : decode cX6_openFor 56 = .ok (.iload 9, 2) := by decide +kernel
theorem dX6_openFor_58 : decode cX6_openFor 58 = .ok (.iload 5, 2) := by decide +kernel
theorem dX6_openFor_60 : decode cX6_openFor 60 = .ok (.if_icmp .lt 36, 3) := by decide +kernel
theorem dX6_openFor_63 : decode cX6_openFor 63 = .ok (.aload_n 0, 1) := by decide +kernel
theorem dX6_openFor_64 : decode cX6_openFor 64 = .ok (.getfield 24, 3) := by decide +kernel
theorem dX6_openFor_67 : decode cX6_openFor 67 = .ok (.iload_n 3, 1) := by decide +kernel
theorem dX6_openFor_68 : decode cX6_openFor 68 = .ok (.iload 9, 2) := by decide +kernel
theorem dX6_openFor_70 : decode cX6_openFor 70 = .ok (.iload 5, 2) := by decide +kernel
theorem dX6_openFor_72 : decode cX6_openFor 72 = .ok (.isub, 1) := by decide +kernel
theorem dX6_openFor_73 : decode cX6_openFor 73 = .ok (.invokestatic 121, 3) := by decide +kernel
theorem dX6_openFor_76 : decode cX6_openFor 76 = .ok (.iaload, 1) := by decide +kernel
theorem dX6_openFor_77 : decode cX6_openFor 77 = .ok (.istore 10, 2) := by decide +kernel
theorem dX6_openFor_79 : decode cX6_openFor 79 = .ok (.iload 4, 2) := by decide +kernel
theorem dX6_openFor_81 : decode cX6_openFor 81 = .ok (.iload 10, 2) := by decide +kernel
theorem dX6_openFor_83 : decode cX6_openFor 83 = .ok (.aload_n 1, 1) := by decide +kernel
theorem dX6_openFor_84 : decode cX6_openFor 84 = .ok (.getfield 124, 3) := by decide +kernel
theorem dX6_openFor_87 : decode cX6_openFor 87 = .ok (.bipush 6, 2) := by decide +kernel
theorem dX6_openFor_89 : decode cX6_openFor 89 = .ok (.iaload, 1) := by decide +kernel
theorem dX6_openFor_90 : decode cX6_openFor 90 = .ok (.iadd, 1) := by decide +kernel
theorem dX6_openFor_91 : decode cX6_openFor 91 = .ok (.invokestatic 59, 3) := by decide +kernel
theorem dX6_openFor_94 : decode cX6_openFor 94 = .ok (.istore 8, 2) := by decide +kernel
theorem dX6_openFor_96 : decode cX6_openFor 96 = .ok (.aload_n 0, 1) := by decide +kernel
theorem dX6_openFor_97 : decode cX6_openFor 97 = .ok (.getfield 24, 3) := by decide +kernel
theorem dX6_openFor_100 : decode cX6_openFor 100 = .ok (.iload_n 3, 1) := by decide +kernel
theorem dX6_openFor_101 : decode cX6_openFor 101 = .ok (.iload 9, 2) := by decide +kernel
theorem dX6_openFor_103 : decode cX6_openFor 103 = .ok (.invokestatic 121, 3) := by decide +kernel
theorem dX6_openFor_106 : decode cX6_openFor 106 = .ok (.iload 8, 2) := by decide +kernel
theorem dX6_openFor_108 : decode cX6_openFor 108 = .ok (.iastore, 1) := by decide +kernel
theorem dX6_openFor_109 : decode cX6_openFor 109 = .ok (.aload_n 0, 1) := by decide +kernel
theorem dX6_openFor_110 : decode cX6_openFor 110 = .ok (.getfield 21, 3) := by decide +kernel
theorem dX6_openFor_113 : decode cX6_openFor 113 = .ok (.iload_n 3, 1) := by decide +kernel
theorem dX6_openFor_114 : decode cX6_openFor 114 = .ok (.dup2, 1) := by decide +kernel
theorem dX6_openFor_115 : decode cX6_openFor 115 = .ok (.iaload, 1) := by decide +kernel
theorem dX6_openFor_116 : decode cX6_openFor 116 = .ok (.iconst 1, 1) := by decide +kernel
theorem dX6_openFor_117 : decode cX6_openFor 117 = .ok (.iadd, 1) := by decide +kernel
theorem dX6_openFor_118 : decode cX6_openFor 118 = .ok (.iastore, 1) := by decide +kernel
theorem dX6_openFor_119 : decode cX6_openFor 119 = .ok (.aload_n 0, 1) := by decide +kernel
theorem dX6_openFor_120 : decode cX6_openFor 120 = .ok (.getfield 18, 3) := by decide +kernel
theorem dX6_openFor_123 : decode cX6_openFor 123 = .ok (.iload_n 3, 1) := by decide +kernel
theorem dX6_openFor_124 : decode cX6_openFor 124 = .ok (.iload 7, 2) := by decide +kernel
theorem dX6_openFor_126 : decode cX6_openFor 126 = .ok (.iastore, 1) := by decide +kernel
theorem dX6_openFor_127 : decode cX6_openFor 127 = .ok (.aload_n 0, 1) := by decide +kernel
theorem dX6_openFor_128 : decode cX6_openFor 128 = .ok (.getfield 27, 3) := by decide +kernel
theorem dX6_openFor_131 : decode cX6_openFor 131 = .ok (.iload_n 3, 1) := by decide +kernel
theorem dX6_openFor_132 : decode cX6_openFor 132 = .ok (.iconst 4, 1) := by decide +kernel
theorem dX6_openFor_133 : decode cX6_openFor 133 = .ok (.imul, 1) := by decide +kernel
theorem dX6_openFor_134 : decode cX6_openFor 134 = .ok (.iconst 1, 1) := by decide +kernel
theorem dX6_openFor_135 : decode cX6_openFor 135 = .ok (.iadd, 1) := by decide +kernel
theorem dX6_openFor_136 : decode cX6_openFor 136 = .ok (.dup2, 1) := by decide +kernel
theorem dX6_openFor_137 : decode cX6_openFor 137 = .ok (.iaload, 1) := by decide +kernel
theorem dX6_openFor_138 : decode cX6_openFor 138 = .ok (.aload_n 1, 1) := by decide +kernel
theorem dX6_openFor_139 : decode cX6_openFor 139 = .ok (.getfield 124, 3) := by decide +kernel
theorem dX6_openFor_142 : decode cX6_openFor 142 = .ok (.iconst 0, 1) := by decide +kernel
theorem dX6_openFor_143 : decode cX6_openFor 143 = .ok (.iaload, 1) := by decide +kernel
theorem dX6_openFor_144 : decode cX6_openFor 144 = .ok (.iadd, 1) := by decide +kernel
theorem dX6_openFor_145 : decode cX6_openFor 145 = .ok (.iastore, 1) := by decide +kernel
theorem dX6_openFor_146 : decode cX6_openFor 146 = .ok (.aload_n 0, 1) := by decide +kernel
theorem dX6_openFor_147 : decode cX6_openFor 147 = .ok (.getfield 27, 3) := by decide +kernel
theorem dX6_openFor_150 : decode cX6_openFor 150 = .ok (.iload_n 3, 1) := by decide +kernel
theorem dX6_openFor_151 : decode cX6_openFor 151 = .ok (.iconst 4, 1) := by decide +kernel
theorem dX6_openFor_152 : decode cX6_openFor 152 = .ok (.imul, 1) := by decide +kernel
theorem dX6_openFor_153 : decode cX6_openFor 153 = .ok (.iconst 2, 1) := by decide +kernel
theorem dX6_openFor_154 : decode cX6_openFor 154 = .ok (.iadd, 1) := by decide +kernel
theorem dX6_openFor_155 : decode cX6_openFor 155 = .ok (.dup2, 1) := by decide +kernel
theorem dX6_openFor_156 : decode cX6_openFor 156 = .ok (.iaload, 1) := by decide +kernel
theorem dX6_openFor_157 : decode cX6_openFor 157 = .ok (.iload 8, 2) := by decide +kernel
theorem dX6_openFor_159 : decode cX6_openFor 159 = .ok (.iload 4, 2) := by decide +kernel
theorem dX6_openFor_161 : decode cX6_openFor 161 = .ok (.isub, 1) := by decide +kernel
theorem dX6_openFor_162 : decode cX6_openFor 162 = .ok (.iadd, 1) := by decide +kernel
theorem dX6_openFor_163 : decode cX6_openFor 163 = .ok (.iastore, 1) := by decide +kernel
theorem dX6_openFor_164 : decode cX6_openFor 164 = .ok (.iload 8, 2) := by decide +kernel
theorem dX6_openFor_166 : decode cX6_openFor 166 = .ok (.aload_n 1, 1) := by decide +kernel
theorem dX6_openFor_167 : decode cX6_openFor 167 = .ok (.getfield 124, 3) := by decide +kernel
theorem dX6_openFor_170 : decode cX6_openFor 170 = .ok (.iconst 0, 1) := by decide +kernel
theorem dX6_openFor_171 : decode cX6_openFor 171 = .ok (.iaload, 1) := by decide +kernel
theorem dX6_openFor_172 : decode cX6_openFor 172 = .ok (.iadd, 1) := by decide +kernel
theorem dX6_openFor_173 : decode cX6_openFor 173 = .ok (.ireturn, 1) := by decide +kernel
theorem dX6_startPlace_0 : decode cX6_startPlace 0 = .ok (.iload_n 0, 1) := by decide +kernel
theorem dX6_startPlace_1 : decode cX6_startPlace 1 = .ok (.bipush 8, 2) := by decide +kernel
theorem dX6_startPlace_3 : decode cX6_startPlace 3 = .ok (.imul, 1) := by decide +kernel
theorem dX6_startPlace_4 : decode cX6_startPlace 4 = .ok (.iload_n 1, 1) := by decide +kernel
theorem dX6_startPlace_5 : decode cX6_startPlace 5 = .ok (.bipush 7, 2) := by decide +kernel
theorem dX6_startPlace_7 : decode cX6_startPlace 7 = .ok (.iand, 1) := by decide +kernel
theorem dX6_startPlace_8 : decode cX6_startPlace 8 = .ok (.iadd, 1) := by decide +kernel
theorem dX6_startPlace_9 : decode cX6_startPlace 9 = .ok (.ireturn, 1) := by decide +kernel
theorem dX7_init_0 : decode cX7_init 0 = .ok (.aload_n 0, 1) := by decide +kernel
theorem dX7_init_1 : decode cX7_init 1 = .ok (.invokespecial 3, 3) := by decide +kernel
theorem dX7_init_4 : decode cX7_init 4 = .ok (.aload_n 0, 1) := by decide +kernel
theorem dX7_init_5 : decode cX7_init 5 = .ok (.sipush 901, 3) := by decide +kernel
theorem dX7_init_8 : decode cX7_init 8 = .ok (.newarray .int, 2) := by decide +kernel
theorem dX7_init_10 : decode cX7_init 10 = .ok (.putfield 9, 3) := by decide +kernel
theorem dX7_init_13 : decode cX7_init 13 = .ok (.aload_n 0, 1) := by decide +kernel
theorem dX7_init_14 : decode cX7_init 14 = .ok (.sipush 901, 3) := by decide +kernel
theorem dX7_init_17 : decode cX7_init 17 = .ok (.newarray .int, 2) := by decide +kernel
theorem dX7_init_19 : decode cX7_init 19 = .ok (.putfield 15, 3) := by decide +kernel
theorem dX7_init_22 : decode cX7_init 22 = .ok (.aload_n 0, 1) := by decide +kernel
theorem dX7_init_23 : decode cX7_init 23 = .ok (.sipush 901, 3) := by decide +kernel
theorem dX7_init_26 : decode cX7_init 26 = .ok (.newarray .int, 2) := by decide +kernel
theorem dX7_init_28 : decode cX7_init 28 = .ok (.putfield 18, 3) := by decide +kernel
theorem dX7_init_31 : decode cX7_init 31 = .ok (.return_, 1) := by decide +kernel
theorem dX7_scan_0 : decode cX7_scan 0 = .ok (.aload_n 0, 1) := by decide +kernel
theorem dX7_scan_1 : decode cX7_scan 1 = .ok (.iconst 0, 1) := by decide +kernel
theorem dX7_scan_2 : decode cX7_scan 2 = .ok (.putfield 21, 3) := by decide +kernel
theorem dX7_scan_5 : decode cX7_scan 5 = .ok (.iconst 0, 1) := by decide +kernel
theorem dX7_scan_6 : decode cX7_scan 6 = .ok (.istore_n 3, 1) := by decide +kernel
theorem dX7_scan_7 : decode cX7_scan 7 = .ok (.iload_n 3, 1) := by decide +kernel
theorem dX7_scan_8 : decode cX7_scan 8 = .ok (.iload_n 2, 1) := by decide +kernel
theorem dX7_scan_9 : decode cX7_scan 9 = .ok (.if_icmp .ge 101, 3) := by decide +kernel
theorem dX7_scan_12 : decode cX7_scan 12 = .ok (.aload_n 1, 1) := by decide +kernel
theorem dX7_scan_13 : decode cX7_scan 13 = .ok (.iload_n 3, 1) := by decide +kernel
theorem dX7_scan_14 : decode cX7_scan 14 = .ok (.iaload, 1) := by decide +kernel
theorem dX7_scan_15 : decode cX7_scan 15 = .ok (.istore 4, 2) := by decide +kernel
theorem dX7_scan_17 : decode cX7_scan 17 = .ok (.iload_n 3, 1) := by decide +kernel
theorem dX7_scan_18 : decode cX7_scan 18 = .ok (.ifCond .le 11, 3) := by decide +kernel
theorem dX7_scan_21 : decode cX7_scan 21 = .ok (.aload_n 1, 1) := by decide +kernel
theorem dX7_scan_22 : decode cX7_scan 22 = .ok (.iload_n 3, 1) := by decide +kernel
theorem dX7_scan_23 : decode cX7_scan 23 = .ok (.iconst 1, 1) := by decide +kernel
theorem dX7_scan_24 : decode cX7_scan 24 = .ok (.isub, 1) := by decide +kernel
theorem dX7_scan_25 : decode cX7_scan 25 = .ok (.iaload, 1) := by decide +kernel
theorem dX7_scan_26 : decode cX7_scan 26 = .ok (.goto 5, 3) := by decide +kernel
theorem dX7_scan_29 : decode cX7_scan 29 = .ok (.bipush 32, 2) := by decide +kernel
theorem dX7_scan_31 : decode cX7_scan 31 = .ok (.istore 5, 2) := by decide +kernel
theorem dX7_scan_33 : decode cX7_scan 33 = .ok (.iload 4, 2) := by decide +kernel
theorem dX7_scan_35 : decode cX7_scan 35 = .ok (.invokestatic 25, 3) := by decide +kernel
theorem dX7_scan_38 : decode cX7_scan 38 = .ok (.ifCond .eq 21, 3) := by decide +kernel
theorem dX7_scan_41 : decode cX7_scan 41 = .ok (.iload 5, 2) := by decide +kernel
theorem dX7_scan_43 : decode cX7_scan 43 = .ok (.invokestatic 25, 3) := by decide +kernel
theorem dX7_scan_46 : decode cX7_scan 46 = .ok (.ifCond .ne 58, 3) := by decide +kernel
theorem dX7_scan_49 : decode cX7_scan 49 = .ok (.aload_n 0, 1) := by decide +kernel
theorem dX7_scan_50 : decode cX7_scan 50 = .ok (.aload_n 1, 1) := by decide +kernel
theorem dX7_scan_51 : decode cX7_scan 51 = .ok (.iload_n 3, 1) := by decide +kernel
theorem dX7_scan_52 : decode cX7_scan 52 = .ok (.iload_n 2, 1) := by decide +kernel
theorem dX7_scan_53 : decode cX7_scan 53 = .ok (.invokevirtual 29, 3) := by decide +kernel
theorem dX7_scan_56 : decode cX7_scan 56 = .ok (.goto 48, 3) := by decide +kernel
theorem dX7_scan_59 : decode cX7_scan 59 = .ok (.iload 4, 2) := by decide +kernel
theorem dX7_scan_61 : decode cX7_scan 61 = .ok (.invokestatic 33, 3) := by decide +kernel
theorem dX7_scan_64 : decode cX7_scan 64 = .ok (.ifCond .eq 21, 3) := by decide +kernel
theorem dX7_scan_67 : decode cX7_scan 67 = .ok (.iload 5, 2) := by decide +kernel
theorem dX7_scan_69 : decode cX7_scan 69 = .ok (.invokestatic 33, 3) := by decide +kernel
theorem dX7_scan_72 : decode cX7_scan 72 = .ok (.ifCond .ne 32, 3) := by decide +kernel
theorem dX7_scan_75 : decode cX7_scan 75 = .ok (.aload_n 0, 1) := by decide +kernel
theorem dX7_scan_76 : decode cX7_scan 76 = .ok (.aload_n 1, 1) := by decide +kernel
theorem dX7_scan_77 : decode cX7_scan 77 = .ok (.iload_n 3, 1) := by decide +kernel
theorem dX7_scan_78 : decode cX7_scan 78 = .ok (.iload_n 2, 1) := by decide +kernel
theorem dX7_scan_79 : decode cX7_scan 79 = .ok (.invokevirtual 36, 3) := by decide +kernel
theorem dX7_scan_82 : decode cX7_scan 82 = .ok (.goto 22, 3) := by decide +kernel
theorem dX7_scan_85 : decode cX7_scan 85 = .ok (.iload 4, 2) := by decide +kernel
theorem dX7_scan_87 : decode cX7_scan 87 = .ok (.invokestatic 39, 3) := by decide +kernel
theorem dX7_scan_90 : decode cX7_scan 90 = .ok (.ifCond .ne 14, 3) := by decide +kernel
theorem dX7_scan_93 : decode cX7_scan 93 = .ok (.aload_n 0, 1) := by decide +kernel
theorem dX7_scan_94 : decode cX7_scan 94 = .ok (.iload 4, 2) := by decide +kernel
theorem dX7_scan_96 : decode cX7_scan 96 = .ok (.invokestatic 42, 3) := by decide +kernel
theorem dX7_scan_99 : decode cX7_scan 99 = .ok (.iload_n 3, 1) := by decide +kernel
theorem dX7_scan_100 : decode cX7_scan 100 = .ok (.iconst 0, 1) := by decide +kernel
theorem dX7_scan_101 : decode cX7_scan 101 = .ok (.invokevirtual 46, 3) := by decide +kernel
theorem dX7_scan_104 : decode cX7_scan 104 = .ok (.iinc 3 1, 3) := by decide +kernel
theorem dX7_scan_107 : decode cX7_scan 107 = .ok (.goto (-100), 3) := by decide +kernel
theorem dX7_scan_110 : decode cX7_scan 110 = .ok (.aload_n 0, 1) := by decide +kernel
theorem dX7_scan_111 : decode cX7_scan 111 = .ok (.bipush 32, 2) := by decide +kernel
theorem dX7_scan_113 : decode cX7_scan 113 = .ok (.iload_n 2, 1) := by decide +kernel
theorem dX7_scan_114 : decode cX7_scan 114 = .ok (.iconst 0, 1) := by decide +kernel
theorem dX7_scan_115 : decode cX7_scan 115 = .ok (.invokevirtual 46, 3) := by decide +kernel
theorem dX7_scan_118 : decode cX7_scan 118 = .ok (.return_, 1) := by decide +kernel
theorem dX7_addToken_0 : decode cX7_addToken 0 = .ok (.aload_n 0, 1) := by decide +kernel
theorem dX7_addToken_1 : decode cX7_addToken 1 = .ok (.getfield 9, 3) := by decide +kernel
theorem dX7_addToken_4 : decode cX7_addToken 4 = .ok (.aload_n 0, 1) := by decide +kernel
theorem dX7_addToken_5 : decode cX7_addToken 5 = .ok (.getfield 21, 3) := by decide +kernel
theorem dX7_addToken_8 : decode cX7_addToken 8 = .ok (.iload_n 1, 1) := by decide +kernel
theorem dX7_addToken_9 : decode cX7_addToken 9 = .ok (.iastore, 1) := by decide +kernel
theorem dX7_addToken_10 : decode cX7_addToken 10 = .ok (.aload_n 0, 1) := by decide +kernel
theorem dX7_addToken_11 : decode cX7_addToken 11 = .ok (.getfield 15, 3) := by decide +kernel
theorem dX7_addToken_14 : decode cX7_addToken 14 = .ok (.aload_n 0, 1) := by decide +kernel
theorem dX7_addToken_15 : decode cX7_addToken 15 = .ok (.getfield 21, 3) := by decide +kernel
theorem dX7_addToken_18 : decode cX7_addToken 18 = .ok (.iload_n 2, 1) := by decide +kernel
theorem dX7_addToken_19 : decode cX7_addToken 19 = .ok (.iastore, 1) := by decide +kernel
theorem dX7_addToken_20 : decode cX7_addToken 20 = .ok (.aload_n 0, 1) := by decide +kernel
theorem dX7_addToken_21 : decode cX7_addToken 21 = .ok (.getfield 18, 3) := by decide +kernel
theorem dX7_addToken_24 : decode cX7_addToken 24 = .ok (.aload_n 0, 1) := by decide +kernel
theorem dX7_addToken_25 : decode cX7_addToken 25 = .ok (.getfield 21, 3) := by decide +kernel
theorem dX7_addToken_28 : decode cX7_addToken 28 = .ok (.iload_n 3, 1) := by decide +kernel
theorem dX7_addToken_29 : decode cX7_addToken 29 = .ok (.iastore, 1) := by decide +kernel
theorem dX7_addToken_30 : decode cX7_addToken 30 = .ok (.aload_n 0, 1) := by decide +kernel
theorem dX7_addToken_31 : decode cX7_addToken 31 = .ok (.dup, 1) := by decide +kernel
theorem dX7_addToken_32 : decode cX7_addToken 32 = .ok (.getfield 21, 3) := by decide +kernel
theorem dX7_addToken_35 : decode cX7_addToken 35 = .ok (.iconst 1, 1) := by decide +kernel
theorem dX7_addToken_36 : decode cX7_addToken 36 = .ok (.iadd, 1) := by decide +kernel
theorem dX7_addToken_37 : decode cX7_addToken 37 = .ok (.putfield 21, 3) := by decide +kernel
theorem dX7_addToken_40 : decode cX7_addToken 40 = .ok (.return_, 1) := by decide +kernel
theorem dX7_addWord_0 : decode cX7_addWord 0 = .ok (.iload_n 2, 1) := by decide +kernel
theorem dX7_addWord_1 : decode cX7_addWord 1 = .ok (.istore 4, 2) := by decide +kernel
theorem dX7_addWord_3 : decode cX7_addWord 3 = .ok (.iload 4, 2) := by decide +kernel
theorem dX7_addWord_5 : decode cX7_addWord 5 = .ok (.iload_n 3, 1) := by decide +kernel
theorem dX7_addWord_6 : decode cX7_addWord 6 = .ok (.if_icmp .ge 19, 3) := by decide +kernel
theorem dX7_addWord_9 : decode cX7_addWord 9 = .ok (.aload_n 1, 1) := by decide +kernel
theorem dX7_addWord_10 : decode cX7_addWord 10 = .ok (.iload 4, 2) := by decide +kernel
theorem dX7_addWord_12 : decode cX7_addWord 12 = .ok (.iaload, 1) := by decide +kernel
theorem dX7_addWord_13 : decode cX7_addWord 13 = .ok (.invokestatic 25, 3) := by decide +kernel
theorem dX7_addWord_16 : decode cX7_addWord 16 = .ok (.ifCond .eq 9, 3) := by decide +kernel
theorem dX7_addWord_19 : decode cX7_addWord 19 = .ok (.iinc 4 1, 3) := by decide +kernel
theorem dX7_addWord_22 : decode cX7_addWord 22 = .ok (.goto (-19), 3) := by decide +kernel
theorem dX7_addWord_25 : decode cX7_addWord 25 = .ok (.aload_n 0, 1) := by decide +kernel
theorem dX7_addWord_26 : decode cX7_addWord 26 = .ok (.aload_n 1, 1) := by decide +kernel
theorem dX7_addWord_27 : decode cX7_addWord 27 = .ok (.iload_n 2, 1) := by decide +kernel
theorem dX7_addWord_28 : decode cX7_addWord 28 = .ok (.iload 4, 2) := by decide +kernel
theorem dX7_addWord_30 : decode cX7_addWord 30 = .ok (.invokestatic 50, 3) := by decide +kernel
theorem dX7_addWord_33 : decode cX7_addWord 33 = .ok (.iload_n 2, 1) := by decide +kernel
theorem dX7_addWord_34 : decode cX7_addWord 34 = .ok (.iconst 0, 1) := by decide +kernel
theorem dX7_addWord_35 : decode cX7_addWord 35 = .ok (.invokevirtual 46, 3) := by decide +kernel
theorem dX7_addWord_38 : decode cX7_addWord 38 = .ok (.return_, 1) := by decide +kernel
theorem dX7_addNumber_0 : decode cX7_addNumber 0 = .ok (.iconst 0, 1) := by decide +kernel
theorem dX7_addNumber_1 : decode cX7_addNumber 1 = .ok (.istore 4, 2) := by decide +kernel
theorem dX7_addNumber_3 : decode cX7_addNumber 3 = .ok (.iload_n 2, 1) := by decide +kernel
theorem dX7_addNumber_4 : decode cX7_addNumber 4 = .ok (.istore 5, 2) := by decide +kernel
theorem dX7_addNumber_6 : decode cX7_addNumber 6 = .ok (.iload 5, 2) := by decide +kernel
theorem dX7_addNumber_8 : decode cX7_addNumber 8 = .ok (.iload_n 3, 1) := by decide +kernel
theorem dX7_addNumber_9 : decode cX7_addNumber 9 = .ok (.if_icmp .ge 34, 3) := by decide +kernel
theorem dX7_addNumber_12 : decode cX7_addNumber 12 = .ok (.aload_n 1, 1) := by decide +kernel
theorem dX7_addNumber_13 : decode cX7_addNumber 13 = .ok (.iload 5, 2) := by decide +kernel
theorem dX7_addNumber_15 : decode cX7_addNumber 15 = .ok (.iaload, 1) := by decide +kernel
theorem dX7_addNumber_16 : decode cX7_addNumber 16 = .ok (.invokestatic 33, 3) := by decide +kernel
theorem dX7_addNumber_19 : decode cX7_addNumber 19 = .ok (.ifCond .eq 24, 3) := by decide +kernel
theorem dX7_addNumber_22 : decode cX7_addNumber 22 = .ok (.iload 4, 2) := by decide +kernel
theorem dX7_addNumber_24 : decode cX7_addNumber 24 = .ok (.bipush 10, 2) := by decide +kernel
theorem dX7_addNumber_26 : decode cX7_addNumber 26 = .ok (.imul, 1) := by decide +kernel
theorem dX7_addNumber_27 : decode cX7_addNumber 27 = .ok (.aload_n 1, 1) := by decide +kernel
theorem dX7_addNumber_28 : decode cX7_addNumber 28 = .ok (.iload 5, 2) := by decide +kernel
theorem dX7_addNumber_30 : decode cX7_addNumber 30 = .ok (.iaload, 1) := by decide +kernel
theorem dX7_addNumber_31 : decode cX7_addNumber 31 = .ok (.iadd, 1) := by decide +kernel
theorem dX7_addNumber_32 : decode cX7_addNumber 32 = .ok (.bipush 48, 2) := by decide +kernel
theorem dX7_addNumber_34 : decode cX7_addNumber 34 = .ok (.isub, 1) := by decide +kernel
theorem dX7_addNumber_35 : decode cX7_addNumber 35 = .ok (.istore 4, 2) := by decide +kernel
theorem dX7_addNumber_37 : decode cX7_addNumber 37 = .ok (.iinc 5 1, 3) := by decide +kernel
theorem dX7_addNumber_40 : decode cX7_addNumber 40 = .ok (.goto (-34), 3) := by decide +kernel
theorem dX7_addNumber_43 : decode cX7_addNumber 43 = .ok (.aload_n 0, 1) := by decide +kernel
theorem dX7_addNumber_44 : decode cX7_addNumber 44 = .ok (.iload 5, 2) := by decide +kernel
theorem dX7_addNumber_46 : decode cX7_addNumber 46 = .ok (.iload_n 2, 1) := by decide +kernel
theorem dX7_addNumber_47 : decode cX7_addNumber 47 = .ok (.isub, 1) := by decide +kernel
theorem dX7_addNumber_48 : decode cX7_addNumber 48 = .ok (.bipush 6, 2) := by decide +kernel
theorem dX7_addNumber_50 : decode cX7_addNumber 50 = .ok (.if_icmp .gt 8, 3) := by decide +kernel
theorem dX7_addNumber_53 : decode cX7_addNumber 53 = .ok (.bipush 28, 2) := by decide +kernel
theorem dX7_addNumber_55 : decode cX7_addNumber 55 = .ok (.goto 5, 3) := by decide +kernel
theorem dX7_addNumber_58 : decode cX7_addNumber 58 = .ok (.bipush 33, 2) := by decide +kernel
theorem dX7_addNumber_60 : decode cX7_addNumber 60 = .ok (.iload_n 2, 1) := by decide +kernel
theorem dX7_addNumber_61 : decode cX7_addNumber 61 = .ok (.iload 4, 2) := by decide +kernel
theorem dX7_addNumber_63 : decode cX7_addNumber 63 = .ok (.invokevirtual 46, 3) := by decide +kernel
theorem dX7_addNumber_66 : decode cX7_addNumber 66 = .ok (.return_, 1) := by decide +kernel
theorem dX7_kindOfWord_0 : decode cX7_kindOfWord 0 = .ok (.iconst 0, 1) := by decide +kernel
theorem dX7_kindOfWord_1 : decode cX7_kindOfWord 1 = .ok (.istore_n 3, 1) := by decide +kernel
theorem dX7_kindOfWord_2 : decode cX7_kindOfWord 2 = .ok (.iconst 0, 1) := by decide +kernel
theorem dX7_kindOfWord_3 : decode cX7_kindOfWord 3 = .ok (.istore 4, 2) := by decide +kernel
theorem dX7_kindOfWord_5 : decode cX7_kindOfWord 5 = .ok (.iconst 0, 1) := by decide +kernel
theorem dX7_kindOfWord_6 : decode cX7_kindOfWord 6 = .ok (.istore 5, 2) := by decide +kernel
theorem dX7_kindOfWord_8 : decode cX7_kindOfWord 8 = .ok (.iload 5, 2) := by decide +kernel
theorem dX7_kindOfWord_10 : decode cX7_kindOfWord 10 = .ok (.ldc 54, 2) := by decide +kernel
theorem dX7_kindOfWord_12 : decode cX7_kindOfWord 12 = .ok (.invokevirtual 56, 3) := by decide +kernel
theorem dX7_kindOfWord_15 : decode cX7_kindOfWord 15 = .ok (.if_icmp .ge 54, 3) := by decide +kernel
theorem dX7_kindOfWord_18 : decode cX7_kindOfWord 18 = .ok (.ldc 54, 2) := by decide +kernel
theorem dX7_kindOfWord_20 : decode cX7_kindOfWord 20 = .ok (.iload 5, 2) := by decide +kernel
theorem dX7_kindOfWord_22 : decode cX7_kindOfWord 22 = .ok (.invokevirtual 62, 3) := by decide +kernel
theorem dX7_kindOfWord_25 : decode cX7_kindOfWord 25 = .ok (.bipush 32, 2) := by decide +kernel
theorem dX7_kindOfWord_27 : decode cX7_kindOfWord 27 = .ok (.if_icmp .ne 36, 3) := by decide +kernel
theorem dX7_kindOfWord_30 : decode cX7_kindOfWord 30 = .ok (.iload 5, 2) := by decide +kernel
theorem dX7_kindOfWord_32 : decode cX7_kindOfWord 32 = .ok (.iload 4, 2) := by decide +kernel
theorem dX7_kindOfWord_34 : decode cX7_kindOfWord 34 = .ok (.isub, 1) := by decide +kernel
theorem dX7_kindOfWord_35 : decode cX7_kindOfWord 35 = .ok (.iload_n 2, 1) := by decide +kernel
theorem dX7_kindOfWord_36 : decode cX7_kindOfWord 36 = .ok (.iload_n 1, 1) := by decide +kernel
theorem dX7_kindOfWord_37 : decode cX7_kindOfWord 37 = .ok (.isub, 1) := by decide +kernel
theorem dX7_kindOfWord_38 : decode cX7_kindOfWord 38 = .ok (.if_icmp .ne 16, 3) := by decide +kernel
theorem dX7_kindOfWord_41 : decode cX7_kindOfWord 41 = .ok (.iload 4, 2) := by decide +kernel
theorem dX7_kindOfWord_43 : decode cX7_kindOfWord 43 = .ok (.aload_n 0, 1) := by decide +kernel
theorem dX7_kindOfWord_44 : decode cX7_kindOfWord 44 = .ok (.iload_n 1, 1) := by decide +kernel
theorem dX7_kindOfWord_45 : decode cX7_kindOfWord 45 = .ok (.iload_n 2, 1) := by decide +kernel
theorem dX7_kindOfWord_46 : decode cX7_kindOfWord 46 = .ok (.invokestatic 66, 3) := by decide +kernel
theorem dX7_kindOfWord_49 : decode cX7_kindOfWord 49 = .ok (.ifCond .eq 5, 3) := by decide +kernel
theorem dX7_kindOfWord_52 : decode cX7_kindOfWord 52 = .ok (.iload_n 3, 1) := by decide +kernel
theorem dX7_kindOfWord_53 : decode cX7_kindOfWord 53 = .ok (.ireturn, 1) := by decide +kernel
theorem dX7_kindOfWord_54 : decode cX7_kindOfWord 54 = .ok (.iinc 3 1, 3) := by decide +kernel
theorem dX7_kindOfWord_57 : decode cX7_kindOfWord 57 = .ok (.iload 5, 2) := by decide +kernel
theorem dX7_kindOfWord_59 : decode cX7_kindOfWord 59 = .ok (.iconst 1, 1) := by decide +kernel
theorem dX7_kindOfWord_60 : decode cX7_kindOfWord 60 = .ok (.iadd, 1) := by decide +kernel
theorem dX7_kindOfWord_61 : decode cX7_kindOfWord 61 = .ok (.istore 4, 2) := by decide +kernel
theorem dX7_kindOfWord_63 : decode cX7_kindOfWord 63 = .ok (.iinc 5 1, 3) := by decide +kernel
theorem dX7_kindOfWord_66 : decode cX7_kindOfWord 66 = .ok (.goto (-58), 3) := by decide +kernel
theorem dX7_kindOfWord_69 : decode cX7_kindOfWord 69 = .ok (.bipush 33, 2) := by decide +kernel
theorem dX7_kindOfWord_71 : decode cX7_kindOfWord 71 = .ok (.ireturn, 1) := by decide +kernel
theorem dX7_isWordAt_0 : decode cX7_isWordAt 0 = .ok (.iload_n 2, 1) := by decide +kernel
theorem dX7_isWordAt_1 : decode cX7_isWordAt 1 = .ok (.istore 4, 2) := by decide +kernel
theorem dX7_isWordAt_3 : decode cX7_isWordAt 3 = .ok (.iload 4, 2) := by decide +kernel
theorem dX7_isWordAt_5 : decode cX7_isWordAt 5 = .ok (.iload_n 3, 1) := by decide +kernel
theorem dX7_isWordAt_6 : decode cX7_isWordAt 6 = .ok (.if_icmp .ge 29, 3) := by decide +kernel
theorem dX7_isWordAt_9 : decode cX7_isWordAt 9 = .ok (.aload_n 1, 1) := by decide +kernel
theorem dX7_isWordAt_10 : decode cX7_isWordAt 10 = .ok (.iload 4, 2) := by decide +kernel
theorem dX7_isWordAt_12 : decode cX7_isWordAt 12 = .ok (.iaload, 1) := by decide +kernel
theorem dX7_isWordAt_13 : decode cX7_isWordAt 13 = .ok (.ldc 54, 2) := by decide +kernel
theorem dX7_isWordAt_15 : decode cX7_isWordAt 15 = .ok (.iload_n 0, 1) := by decide +kernel
theorem dX7_isWordAt_16 : decode cX7_isWordAt 16 = .ok (.iload 4, 2) := by decide +kernel
theorem dX7_isWordAt_18 : decode cX7_isWordAt 18 = .ok (.iadd, 1) := by decide +kernel
theorem dX7_isWordAt_19 : decode cX7_isWordAt 19 = .ok (.iload_n 2, 1) := by decide +kernel
theorem dX7_isWordAt_20 : decode cX7_isWordAt 20 = .ok (.isub, 1) := by decide +kernel
theorem dX7_isWordAt_21 : decode cX7_isWordAt 21 = .ok (.invokevirtual 62, 3) := by decide +kernel
theorem dX7_isWordAt_24 : decode cX7_isWordAt 24 = .ok (.if_icmp .eq 5, 3) := by decide +kernel
theorem dX7_isWordAt_27 : decode cX7_isWordAt 27 = .ok (.iconst 0, 1) := by decide +kernel
theorem dX7_isWordAt_28 : decode cX7_isWordAt 28 = .ok (.ireturn, 1) := by decide +kernel
theorem dX7_isWordAt_29 : decode cX7_isWordAt 29 = .ok (.iinc 4 1, 3) := by decide +kernel
theorem dX7_isWordAt_32 : decode cX7_isWordAt 32 = .ok (.goto (-29), 3) := by decide +kernel
theorem dX7_isWordAt_35 : decode cX7_isWordAt 35 = .ok (.iconst 1, 1) := by decide +kernel
theorem dX7_isWordAt_36 : decode cX7_isWordAt 36 = .ok (.ireturn, 1) := by decide +kernel
theorem dX7_kindOfSign_0 : decode cX7_kindOfSign 0 = .ok (.iload_n 0, 1) := by decide +kernel
theorem dX7_kindOfSign_1 : decode cX7_kindOfSign 1 = .ok (.lookupswitch 44 #[(45, 41), (58, 35), (59, 38)], 35) := by decide +kernel
theorem dX7_kindOfSign_36 : decode cX7_kindOfSign 36 = .ok (.bipush 29, 2) := by decide +kernel
theorem dX7_kindOfSign_38 : decode cX7_kindOfSign 38 = .ok (.ireturn, 1) := by decide +kernel
theorem dX7_kindOfSign_39 : decode cX7_kindOfSign 39 = .ok (.bipush 30, 2) := by decide +kernel
theorem dX7_kindOfSign_41 : decode cX7_kindOfSign 41 = .ok (.ireturn, 1) := by decide +kernel
theorem dX7_kindOfSign_42 : decode cX7_kindOfSign 42 = .ok (.bipush 31, 2) := by decide +kernel
theorem dX7_kindOfSign_44 : decode cX7_kindOfSign 44 = .ok (.ireturn, 1) := by decide +kernel
theorem dX7_kindOfSign_45 : decode cX7_kindOfSign 45 = .ok (.bipush 33, 2) := by decide +kernel
theorem dX7_kindOfSign_47 : decode cX7_kindOfSign 47 = .ok (.ireturn, 1) := by decide +kernel
theorem dX7_isBlank_0 : decode cX7_isBlank 0 = .ok (.iload_n 0, 1) := by decide +kernel
theorem dX7_isBlank_1 : decode cX7_isBlank 1 = .ok (.bipush 10, 2) := by decide +kernel
theorem dX7_isBlank_3 : decode cX7_isBlank 3 = .ok (.if_icmp .eq 9, 3) := by decide +kernel
theorem dX7_isBlank_6 : decode cX7_isBlank 6 = .ok (.iload_n 0, 1) := by decide +kernel
theorem dX7_isBlank_7 : decode cX7_isBlank 7 = .ok (.bipush 32, 2) := by decide +kernel
theorem dX7_isBlank_9 : decode cX7_isBlank 9 = .ok (.if_icmp .ne 7, 3) := by decide +kernel
theorem dX7_isBlank_12 : decode cX7_isBlank 12 = .ok (.iconst 1, 1) := by decide +kernel
theorem dX7_isBlank_13 : decode cX7_isBlank 13 = .ok (.goto 4, 3) := by decide +kernel
theorem dX7_isBlank_16 : decode cX7_isBlank 16 = .ok (.iconst 0, 1) := by decide +kernel
theorem dX7_isBlank_17 : decode cX7_isBlank 17 = .ok (.ireturn, 1) := by decide +kernel
theorem dX7_isLetter_0 : decode cX7_isLetter 0 = .ok (.iload_n 0, 1) := by decide +kernel
theorem dX7_isLetter_1 : decode cX7_isLetter 1 = .ok (.bipush 97, 2) := by decide +kernel
theorem dX7_isLetter_3 : decode cX7_isLetter 3 = .ok (.if_icmp .lt 13, 3) := by decide +kernel
theorem dX7_isLetter_6 : decode cX7_isLetter 6 = .ok (.iload_n 0, 1) := by decide +kernel
theorem dX7_isLetter_7 : decode cX7_isLetter 7 = .ok (.bipush 122, 2) := by decide +kernel
theorem dX7_isLetter_9 : decode cX7_isLetter 9 = .ok (.if_icmp .gt 7, 3) := by decide +kernel
theorem dX7_isLetter_12 : decode cX7_isLetter 12 = .ok (.iconst 1, 1) := by decide +kernel
theorem dX7_isLetter_13 : decode cX7_isLetter 13 = .ok (.goto 4, 3) := by decide +kernel
theorem dX7_isLetter_16 : decode cX7_isLetter 16 = .ok (.iconst 0, 1) := by decide +kernel
theorem dX7_isLetter_17 : decode cX7_isLetter 17 = .ok (.ireturn, 1) := by decide +kernel
theorem dX7_isDigit_0 : decode cX7_isDigit 0 = .ok (.iload_n 0, 1) := by decide +kernel
theorem dX7_isDigit_1 : decode cX7_isDigit 1 = .ok (.bipush 48, 2) := by decide +kernel
theorem dX7_isDigit_3 : decode cX7_isDigit 3 = .ok (.if_icmp .lt 13, 3) := by decide +kernel
theorem dX7_isDigit_6 : decode cX7_isDigit 6 = .ok (.iload_n 0, 1) := by decide +kernel
theorem dX7_isDigit_7 : decode cX7_isDigit 7 = .ok (.bipush 57, 2) := by decide +kernel
theorem dX7_isDigit_9 : decode cX7_isDigit 9 = .ok (.if_icmp .gt 7, 3) := by decide +kernel
theorem dX7_isDigit_12 : decode cX7_isDigit 12 = .ok (.iconst 1, 1) := by decide +kernel
theorem dX7_isDigit_13 : decode cX7_isDigit 13 = .ok (.goto 4, 3) := by decide +kernel
theorem dX7_isDigit_16 : decode cX7_isDigit 16 = .ok (.iconst 0, 1) := by decide +kernel
theorem dX7_isDigit_17 : decode cX7_isDigit 17 = .ok (.ireturn, 1) := by decide +kernel
theorem dX8_init_0 : decode cX8_init 0 = .ok (.aload_n 0, 1) := by decide +kernel
theorem dX8_init_1 : decode cX8_init 1 = .ok (.invokespecial 3, 3) := by decide +kernel
theorem dX8_init_4 : decode cX8_init 4 = .ok (.aload_n 0, 1) := by decide +kernel
theorem dX8_init_5 : decode cX8_init 5 = .ok (.sipush 1024, 3) := by decide +kernel
theorem dX8_init_8 : decode cX8_init 8 = .ok (.newarray .int, 2) := by decide +kernel
theorem dX8_init_10 : decode cX8_init 10 = .ok (.putfield 9, 3) := by decide +kernel
theorem dX8_init_13 : decode cX8_init 13 = .ok (.aload_n 0, 1) := by decide +kernel
theorem dX8_init_14 : decode cX8_init 14 = .ok (.sipush 256, 3) := by decide +kernel
theorem dX8_init_17 : decode cX8_init 17 = .ok (.newarray .int, 2) := by decide +kernel
theorem dX8_init_19 : decode cX8_init 19 = .ok (.putfield 15, 3) := by decide +kernel
theorem dX8_init_22 : decode cX8_init 22 = .ok (.return_, 1) := by decide +kernel
theorem dX8_clear_0 : decode cX8_clear 0 = .ok (.aload_n 0, 1) := by decide +kernel
theorem dX8_clear_1 : decode cX8_clear 1 = .ok (.getfield 9, 3) := by decide +kernel
theorem dX8_clear_4 : decode cX8_clear 4 = .ok (.iconst 0, 1) := by decide +kernel
theorem dX8_clear_5 : decode cX8_clear 5 = .ok (.invokestatic 18, 3) := by decide +kernel
theorem dX8_clear_8 : decode cX8_clear 8 = .ok (.aload_n 0, 1) := by decide +kernel
theorem dX8_clear_9 : decode cX8_clear 9 = .ok (.getfield 15, 3) := by decide +kernel
theorem dX8_clear_12 : decode cX8_clear 12 = .ok (.iconst 0, 1) := by decide +kernel
theorem dX8_clear_13 : decode cX8_clear 13 = .ok (.invokestatic 18, 3) := by decide +kernel
theorem dX8_clear_16 : decode cX8_clear 16 = .ok (.return_, 1) := by decide +kernel
theorem dX8_copyFrom_0 : decode cX8_copyFrom 0 = .ok (.aload_n 1, 1) := by decide +kernel
theorem dX8_copyFrom_1 : decode cX8_copyFrom 1 = .ok (.getfield 9, 3) := by decide +kernel
theorem dX8_copyFrom_4 : decode cX8_copyFrom 4 = .ok (.iconst 0, 1) := by decide +kernel
theorem dX8_copyFrom_5 : decode cX8_copyFrom 5 = .ok (.aload_n 0, 1) := by decide +kernel
theorem dX8_copyFrom_6 : decode cX8_copyFrom 6 = .ok (.getfield 9, 3) := by decide +kernel
theorem dX8_copyFrom_9 : decode cX8_copyFrom 9 = .ok (.iconst 0, 1) := by decide +kernel
theorem dX8_copyFrom_10 : decode cX8_copyFrom 10 = .ok (.aload_n 0, 1) := by decide +kernel
theorem dX8_copyFrom_11 : decode cX8_copyFrom 11 = .ok (.getfield 9, 3) := by decide +kernel
theorem dX8_copyFrom_14 : decode cX8_copyFrom 14 = .ok (.arraylength, 1) := by decide +kernel
theorem dX8_copyFrom_15 : decode cX8_copyFrom 15 = .ok (.invokestatic 24, 3) := by decide +kernel
theorem dX8_copyFrom_18 : decode cX8_copyFrom 18 = .ok (.aload_n 1, 1) := by decide +kernel
theorem dX8_copyFrom_19 : decode cX8_copyFrom 19 = .ok (.getfield 15, 3) := by decide +kernel
theorem dX8_copyFrom_22 : decode cX8_copyFrom 22 = .ok (.iconst 0, 1) := by decide +kernel
theorem dX8_copyFrom_23 : decode cX8_copyFrom 23 = .ok (.aload_n 0, 1) := by decide +kernel
theorem dX8_copyFrom_24 : decode cX8_copyFrom 24 = .ok (.getfield 15, 3) := by decide +kernel
theorem dX8_copyFrom_27 : decode cX8_copyFrom 27 = .ok (.iconst 0, 1) := by decide +kernel
theorem dX8_copyFrom_28 : decode cX8_copyFrom 28 = .ok (.aload_n 0, 1) := by decide +kernel
theorem dX8_copyFrom_29 : decode cX8_copyFrom 29 = .ok (.getfield 15, 3) := by decide +kernel
theorem dX8_copyFrom_32 : decode cX8_copyFrom 32 = .ok (.arraylength, 1) := by decide +kernel
theorem dX8_copyFrom_33 : decode cX8_copyFrom 33 = .ok (.invokestatic 24, 3) := by decide +kernel
theorem dX8_copyFrom_36 : decode cX8_copyFrom 36 = .ok (.return_, 1) := by decide +kernel
theorem dX8_runBatch_0 : decode cX8_runBatch 0 = .ok (.aload_n 1, 1) := by decide +kernel
theorem dX8_runBatch_1 : decode cX8_runBatch 1 = .ok (.getfield 30, 3) := by decide +kernel
theorem dX8_runBatch_4 : decode cX8_runBatch 4 = .ok (.iload_n 2, 1) := by decide +kernel
theorem dX8_runBatch_5 : decode cX8_runBatch 5 = .ok (.iaload, 1) := by decide +kernel
theorem dX8_runBatch_6 : decode cX8_runBatch 6 = .ok (.istore_n 3, 1) := by decide +kernel
theorem dX8_runBatch_7 : decode cX8_runBatch 7 = .ok (.iload_n 3, 1) := by decide +kernel
theorem dX8_runBatch_8 : decode cX8_runBatch 8 = .ok (.invokestatic 35, 3) := by decide +kernel
theorem dX8_runBatch_11 : decode cX8_runBatch 11 = .ok (.istore 4, 2) := by decide +kernel
theorem dX8_runBatch_13 : decode cX8_runBatch 13 = .ok (.aload_n 1, 1) := by decide +kernel
theorem dX8_runBatch_14 : decode cX8_runBatch 14 = .ok (.getfield 39, 3) := by decide +kernel
theorem dX8_runBatch_17 : decode cX8_runBatch 17 = .ok (.iload_n 2, 1) := by decide +kernel
theorem dX8_runBatch_18 : decode cX8_runBatch 18 = .ok (.iaload, 1) := by decide +kernel
theorem dX8_runBatch_19 : decode cX8_runBatch 19 = .ok (.istore 5, 2) := by decide +kernel
theorem dX8_runBatch_21 : decode cX8_runBatch 21 = .ok (.iload 5, 2) := by decide +kernel
theorem dX8_runBatch_23 : decode cX8_runBatch 23 = .ok (.aload_n 1, 1) := by decide +kernel
theorem dX8_runBatch_24 : decode cX8_runBatch 24 = .ok (.getfield 42, 3) := by decide +kernel
theorem dX8_runBatch_27 : decode cX8_runBatch 27 = .ok (.iload_n 2, 1) := by decide +kernel
theorem dX8_runBatch_28 : decode cX8_runBatch 28 = .ok (.iaload, 1) := by decide +kernel
theorem dX8_runBatch_29 : decode cX8_runBatch 29 = .ok (.if_icmp .ge 46, 3) := by decide +kernel
theorem dX8_runBatch_32 : decode cX8_runBatch 32 = .ok (.iload 4, 2) := by decide +kernel
theorem dX8_runBatch_34 : decode cX8_runBatch 34 = .ok (.istore 6, 2) := by decide +kernel
theorem dX8_runBatch_36 : decode cX8_runBatch 36 = .ok (.iload 6, 2) := by decide +kernel
theorem dX8_runBatch_38 : decode cX8_runBatch 38 = .ok (.bipush 8, 2) := by decide +kernel
theorem dX8_runBatch_40 : decode cX8_runBatch 40 = .ok (.if_icmp .ge 29, 3) := by decide +kernel
theorem dX8_runBatch_43 : decode cX8_runBatch 43 = .ok (.iload 6, 2) := by decide +kernel
theorem dX8_runBatch_45 : decode cX8_runBatch 45 = .ok (.iload_n 3, 1) := by decide +kernel
theorem dX8_runBatch_46 : decode cX8_runBatch 46 = .ok (.invokestatic 45, 3) := by decide +kernel
theorem dX8_runBatch_49 : decode cX8_runBatch 49 = .ok (.ifCond .eq 14, 3) := by decide +kernel
theorem dX8_runBatch_52 : decode cX8_runBatch 52 = .ok (.aload_n 0, 1) := by decide +kernel
theorem dX8_runBatch_53 : decode cX8_runBatch 53 = .ok (.aload_n 1, 1) := by decide +kernel
theorem dX8_runBatch_54 : decode cX8_runBatch 54 = .ok (.iload 5, 2) := by decide +kernel
theorem dX8_runBatch_56 : decode cX8_runBatch 56 = .ok (.iload 6, 2) := by decide +kernel
theorem dX8_runBatch_58 : decode cX8_runBatch 58 = .ok (.iload 4, 2) := by decide +kernel
theorem dX8_runBatch_60 : decode cX8_runBatch 60 = .ok (.invokevirtual 49, 3) := by decide +kernel
theorem dX8_runBatch_63 : decode cX8_runBatch 63 = .ok (.iinc 6 1, 3) := by decide +kernel
theorem dX8_runBatch_66 : decode cX8_runBatch 66 = .ok (.goto (-30), 3) := by decide +kernel
theorem dX8_runBatch_69 : decode cX8_runBatch 69 = .ok (.iinc 5 1, 3) := by decide +kernel
theorem dX8_runBatch_72 : decode cX8_runBatch 72 = .ok (.goto (-51), 3) := by decide +kernel
theorem dX8_runBatch_75 : decode cX8_runBatch 75 = .ok (.return_, 1) := by decide +kernel
theorem dX8_execute_0 : decode cX8_execute 0 = .ok (.aload_n 1, 1) := by decide +kernel
theorem dX8_execute_1 : decode cX8_execute 1 = .ok (.getfield 53, 3) := by decide +kernel
theorem dX8_execute_4 : decode cX8_execute 4 = .ok (.iload_n 2, 1) := by decide +kernel
theorem dX8_execute_5 : decode cX8_execute 5 = .ok (.iaload, 1) := by decide +kernel
theorem dX8_execute_6 : decode cX8_execute 6 = .ok (.istore 5, 2) := by decide +kernel
theorem dX8_execute_8 : decode cX8_execute 8 = .ok (.iload_n 3, 1) := by decide +kernel
theorem dX8_execute_9 : decode cX8_execute 9 = .ok (.aload_n 1, 1) := by decide +kernel
theorem dX8_execute_10 : decode cX8_execute 10 = .ok (.getfield 56, 3) := by decide +kernel
theorem dX8_execute_13 : decode cX8_execute 13 = .ok (.iload_n 2, 1) := by decide +kernel
theorem dX8_execute_14 : decode cX8_execute 14 = .ok (.iaload, 1) := by decide +kernel
theorem dX8_execute_15 : decode cX8_execute 15 = .ok (.iconst 0, 1) := by decide +kernel
theorem dX8_execute_16 : decode cX8_execute 16 = .ok (.invokestatic 59, 3) := by decide +kernel
theorem dX8_execute_19 : decode cX8_execute 19 = .ok (.istore 6, 2) := by decide +kernel
theorem dX8_execute_21 : decode cX8_execute 21 = .ok (.iload 4, 2) := by decide +kernel
theorem dX8_execute_23 : decode cX8_execute 23 = .ok (.aload_n 1, 1) := by decide +kernel
theorem dX8_execute_24 : decode cX8_execute 24 = .ok (.getfield 56, 3) := by decide +kernel
theorem dX8_execute_27 : decode cX8_execute 27 = .ok (.iload_n 2, 1) := by decide +kernel
theorem dX8_execute_28 : decode cX8_execute 28 = .ok (.iaload, 1) := by decide +kernel
theorem dX8_execute_29 : decode cX8_execute 29 = .ok (.iconst 0, 1) := by decide +kernel
theorem dX8_execute_30 : decode cX8_execute 30 = .ok (.invokestatic 59, 3) := by decide +kernel
theorem dX8_execute_33 : decode cX8_execute 33 = .ok (.istore 7, 2) := by decide +kernel
theorem dX8_execute_35 : decode cX8_execute 35 = .ok (.aload_n 1, 1) := by decide +kernel
theorem dX8_execute_36 : decode cX8_execute 36 = .ok (.getfield 63, 3) := by decide +kernel
theorem dX8_execute_39 : decode cX8_execute 39 = .ok (.iload_n 2, 1) := by decide +kernel
theorem dX8_execute_40 : decode cX8_execute 40 = .ok (.iaload, 1) := by decide +kernel
theorem dX8_execute_41 : decode cX8_execute 41 = .ok (.lookupswitch 203 #[(8, 164), (9, 67), (10, 90), (11, 113), (12, 153), (13, 185), (34, 124)], 67) := by decide +kernel
theorem dX8_execute_108 : decode cX8_execute 108 = .ok (.aload_n 0, 1) := by decide +kernel
theorem dX8_execute_109 : decode cX8_execute 109 = .ok (.getfield 9, 3) := by decide +kernel
theorem dX8_execute_112 : decode cX8_execute 112 = .ok (.iload_n 3, 1) := by decide +kernel
theorem dX8_execute_113 : decode cX8_execute 113 = .ok (.iload 5, 2) := by decide +kernel
theorem dX8_execute_115 : decode cX8_execute 115 = .ok (.iconst 0, 1) := by decide +kernel
theorem dX8_execute_116 : decode cX8_execute 116 = .ok (.invokestatic 66, 3) := by decide +kernel
theorem dX8_execute_119 : decode cX8_execute 119 = .ok (.aload_n 0, 1) := by decide +kernel
theorem dX8_execute_120 : decode cX8_execute 120 = .ok (.getfield 15, 3) := by decide +kernel
theorem dX8_execute_123 : decode cX8_execute 123 = .ok (.iload 6, 2) := by decide +kernel
theorem dX8_execute_125 : decode cX8_execute 125 = .ok (.invokestatic 69, 3) := by decide +kernel
theorem dX8_execute_128 : decode cX8_execute 128 = .ok (.goto 116, 3) := by decide +kernel
theorem dX8_execute_131 : decode cX8_execute 131 = .ok (.aload_n 0, 1) := by decide +kernel
theorem dX8_execute_132 : decode cX8_execute 132 = .ok (.getfield 15, 3) := by decide +kernel
theorem dX8_execute_135 : decode cX8_execute 135 = .ok (.iload 6, 2) := by decide +kernel
theorem dX8_execute_137 : decode cX8_execute 137 = .ok (.aload_n 0, 1) := by decide +kernel
theorem dX8_execute_138 : decode cX8_execute 138 = .ok (.getfield 9, 3) := by decide +kernel
theorem dX8_execute_141 : decode cX8_execute 141 = .ok (.iload_n 3, 1) := by decide +kernel
theorem dX8_execute_142 : decode cX8_execute 142 = .ok (.iload 5, 2) := by decide +kernel
theorem dX8_execute_144 : decode cX8_execute 144 = .ok (.iconst 0, 1) := by decide +kernel
theorem dX8_execute_145 : decode cX8_execute 145 = .ok (.invokestatic 66, 3) := by decide +kernel
theorem dX8_execute_148 : decode cX8_execute 148 = .ok (.invokestatic 69, 3) := by decide +kernel
theorem dX8_execute_151 : decode cX8_execute 151 = .ok (.goto 93, 3) := by decide +kernel
theorem dX8_execute_154 : decode cX8_execute 154 = .ok (.aload_n 0, 1) := by decide +kernel
theorem dX8_execute_155 : decode cX8_execute 155 = .ok (.iload 6, 2) := by decide +kernel
theorem dX8_execute_157 : decode cX8_execute 157 = .ok (.iload 5, 2) := by decide +kernel
theorem dX8_execute_159 : decode cX8_execute 159 = .ok (.invokevirtual 73, 3) := by decide +kernel
theorem dX8_execute_162 : decode cX8_execute 162 = .ok (.goto 82, 3) := by decide +kernel
theorem dX8_execute_165 : decode cX8_execute 165 = .ok (.aload_n 0, 1) := by decide +kernel
theorem dX8_execute_166 : decode cX8_execute 166 = .ok (.aload_n 1, 1) := by decide +kernel
theorem dX8_execute_167 : decode cX8_execute 167 = .ok (.iload_n 2, 1) := by decide +kernel
theorem dX8_execute_168 : decode cX8_execute 168 = .ok (.iload 6, 2) := by decide +kernel
theorem dX8_execute_170 : decode cX8_execute 170 = .ok (.iload_n 3, 1) := by decide +kernel
theorem dX8_execute_171 : decode cX8_execute 171 = .ok (.iload 5, 2) := by decide +kernel
theorem dX8_execute_173 : decode cX8_execute 173 = .ok (.iconst 0, 1) := by decide +kernel
theorem dX8_execute_174 : decode cX8_execute 174 = .ok (.invokestatic 59, 3) := by decide +kernel
theorem dX8_execute_177 : decode cX8_execute 177 = .ok (.iload_n 3, 1) := by decide +kernel
theorem dX8_execute_178 : decode cX8_execute 178 = .ok (.aload_n 1, 1) := by decide +kernel
theorem dX8_execute_179 : decode cX8_execute 179 = .ok (.getfield 77, 3) := by decide +kernel
theorem dX8_execute_182 : decode cX8_execute 182 = .ok (.iload_n 2, 1) := by decide +kernel
theorem dX8_execute_183 : decode cX8_execute 183 = .ok (.iaload, 1) := by decide +kernel
theorem dX8_execute_184 : decode cX8_execute 184 = .ok (.iconst 0, 1) := by decide +kernel
theorem dX8_execute_185 : decode cX8_execute 185 = .ok (.invokestatic 59, 3) := by decide +kernel
theorem dX8_execute_188 : decode cX8_execute 188 = .ok (.invokevirtual 80, 3) := by decide +kernel
theorem dX8_execute_191 : decode cX8_execute 191 = .ok (.goto 53, 3) := by decide +kernel
theorem dX8_execute_194 : decode cX8_execute 194 = .ok (.aload_n 0, 1) := by decide +kernel
theorem dX8_execute_195 : decode cX8_execute 195 = .ok (.aload_n 1, 1) := by decide +kernel
theorem dX8_execute_196 : decode cX8_execute 196 = .ok (.iload_n 2, 1) := by decide +kernel
theorem dX8_execute_197 : decode cX8_execute 197 = .ok (.iload 6, 2) := by decide +kernel
theorem dX8_execute_199 : decode cX8_execute 199 = .ok (.invokevirtual 84, 3) := by decide +kernel
theorem dX8_execute_202 : decode cX8_execute 202 = .ok (.goto 42, 3) := by decide +kernel
theorem dX8_execute_205 : decode cX8_execute 205 = .ok (.iload_n 3, 1) := by decide +kernel
theorem dX8_execute_206 : decode cX8_execute 206 = .ok (.iload 4, 2) := by decide +kernel
theorem dX8_execute_208 : decode cX8_execute 208 = .ok (.if_icmp .eq 36, 3) := by decide +kernel
theorem dX8_execute_211 : decode cX8_execute 211 = .ok (.aload_n 0, 1) := by decide +kernel
theorem dX8_execute_212 : decode cX8_execute 212 = .ok (.aload_n 1, 1) := by decide +kernel
theorem dX8_execute_213 : decode cX8_execute 213 = .ok (.iload_n 2, 1) := by decide +kernel
theorem dX8_execute_214 : decode cX8_execute 214 = .ok (.iload 7, 2) := by decide +kernel
theorem dX8_execute_216 : decode cX8_execute 216 = .ok (.iload 7, 2) := by decide +kernel
theorem dX8_execute_218 : decode cX8_execute 218 = .ok (.iload 6, 2) := by decide +kernel
theorem dX8_execute_220 : decode cX8_execute 220 = .ok (.invokevirtual 80, 3) := by decide +kernel
theorem dX8_execute_223 : decode cX8_execute 223 = .ok (.goto 21, 3) := by decide +kernel
theorem dX8_execute_226 : decode cX8_execute 226 = .ok (.aload_n 0, 1) := by decide +kernel
theorem dX8_execute_227 : decode cX8_execute 227 = .ok (.getfield 15, 3) := by decide +kernel
theorem dX8_execute_230 : decode cX8_execute 230 = .ok (.iload 7, 2) := by decide +kernel
theorem dX8_execute_232 : decode cX8_execute 232 = .ok (.aload_n 0, 1) := by decide +kernel
theorem dX8_execute_233 : decode cX8_execute 233 = .ok (.getfield 15, 3) := by decide +kernel
theorem dX8_execute_236 : decode cX8_execute 236 = .ok (.iload 6, 2) := by decide +kernel
theorem dX8_execute_238 : decode cX8_execute 238 = .ok (.invokestatic 69, 3) := by decide +kernel
theorem dX8_execute_241 : decode cX8_execute 241 = .ok (.goto 3, 3) := by decide +kernel
theorem dX8_execute_244 : decode cX8_execute 244 = .ok (.return_, 1) := by decide +kernel
theorem dX8_setLanes_0 : decode cX8_setLanes 0 = .ok (.iconst 0, 1) := by decide +kernel
theorem dX8_setLanes_1 : decode cX8_setLanes 1 = .ok (.istore_n 3, 1) := by decide +kernel
theorem dX8_setLanes_2 : decode cX8_setLanes 2 = .ok (.iload_n 3, 1) := by decide +kernel
theorem dX8_setLanes_3 : decode cX8_setLanes 3 = .ok (.bipush 8, 2) := by decide +kernel
theorem dX8_setLanes_5 : decode cX8_setLanes 5 = .ok (.if_icmp .ge 18, 3) := by decide +kernel
theorem dX8_setLanes_8 : decode cX8_setLanes 8 = .ok (.aload_n 0, 1) := by decide +kernel
theorem dX8_setLanes_9 : decode cX8_setLanes 9 = .ok (.getfield 15, 3) := by decide +kernel
theorem dX8_setLanes_12 : decode cX8_setLanes 12 = .ok (.iload_n 1, 1) := by decide +kernel
theorem dX8_setLanes_13 : decode cX8_setLanes 13 = .ok (.iload_n 3, 1) := by decide +kernel
theorem dX8_setLanes_14 : decode cX8_setLanes 14 = .ok (.iadd, 1) := by decide +kernel
theorem dX8_setLanes_15 : decode cX8_setLanes 15 = .ok (.iload_n 2, 1) := by decide +kernel
theorem dX8_setLanes_16 : decode cX8_setLanes 16 = .ok (.iastore, 1) := by decide +kernel
theorem dX8_setLanes_17 : decode cX8_setLanes 17 = .ok (.iinc 3 1, 3) := by decide +kernel
theorem dX8_setLanes_20 : decode cX8_setLanes 20 = .ok (.goto (-18), 3) := by decide +kernel
theorem dX8_setLanes_23 : decode cX8_setLanes 23 = .ok (.return_, 1) := by decide +kernel
theorem dX8_combineRegisters_0 : decode cX8_combineRegisters 0 = .ok (.aload_n 1, 1) := by decide +kernel
theorem dX8_combineRegisters_1 : decode cX8_combineRegisters 1 = .ok (.getfield 88, 3) := by decide +kernel
theorem dX8_combineRegisters_4 : decode cX8_combineRegisters 4 = .ok (.iload_n 2, 1) := by decide +kernel
theorem dX8_combineRegisters_5 : decode cX8_combineRegisters 5 = .ok (.iaload, 1) := by decide +kernel
theorem dX8_combineRegisters_6 : decode cX8_combineRegisters 6 = .ok (.istore 6, 2) := by decide +kernel
theorem dX8_combineRegisters_8 : decode cX8_combineRegisters 8 = .ok (.iconst 0, 1) := by decide +kernel
theorem dX8_combineRegisters_9 : decode cX8_combineRegisters 9 = .ok (.istore 7, 2) := by decide +kernel
theorem dX8_combineRegisters_11 : decode cX8_combineRegisters 11 = .ok (.iload 7, 2) := by decide +kernel
theorem dX8_combineRegisters_13 : decode cX8_combineRegisters 13 = .ok (.aload_n 1, 1) := by decide +kernel
theorem dX8_combineRegisters_14 : decode cX8_combineRegisters 14 = .ok (.getfield 91, 3) := by decide +kernel
theorem dX8_combineRegisters_17 : decode cX8_combineRegisters 17 = .ok (.if_icmp .ge 43, 3) := by decide +kernel
theorem dX8_combineRegisters_20 : decode cX8_combineRegisters 20 = .ok (.aload_n 0, 1) := by decide +kernel
theorem dX8_combineRegisters_21 : decode cX8_combineRegisters 21 = .ok (.getfield 15, 3) := by decide +kernel
theorem dX8_combineRegisters_24 : decode cX8_combineRegisters 24 = .ok (.iload_n 3, 1) := by decide +kernel
theorem dX8_combineRegisters_25 : decode cX8_combineRegisters 25 = .ok (.iload 7, 2) := by decide +kernel
theorem dX8_combineRegisters_27 : decode cX8_combineRegisters 27 = .ok (.iadd, 1) := by decide +kernel
theorem dX8_combineRegisters_28 : decode cX8_combineRegisters 28 = .ok (.iload 6, 2) := by decide +kernel
theorem dX8_combineRegisters_30 : decode cX8_combineRegisters 30 = .ok (.aload_n 0, 1) := by decide +kernel
theorem dX8_combineRegisters_31 : decode cX8_combineRegisters 31 = .ok (.getfield 15, 3) := by decide +kernel
theorem dX8_combineRegisters_34 : decode cX8_combineRegisters 34 = .ok (.iload 4, 2) := by decide +kernel
theorem dX8_combineRegisters_36 : decode cX8_combineRegisters 36 = .ok (.iload 7, 2) := by decide +kernel
theorem dX8_combineRegisters_38 : decode cX8_combineRegisters 38 = .ok (.iadd, 1) := by decide +kernel
theorem dX8_combineRegisters_39 : decode cX8_combineRegisters 39 = .ok (.iaload, 1) := by decide +kernel
theorem dX8_combineRegisters_40 : decode cX8_combineRegisters 40 = .ok (.aload_n 0, 1) := by decide +kernel
theorem dX8_combineRegisters_41 : decode cX8_combineRegisters 41 = .ok (.getfield 15, 3) := by decide +kernel
theorem dX8_combineRegisters_44 : decode cX8_combineRegisters 44 = .ok (.iload 5, 2) := by decide +kernel
theorem dX8_combineRegisters_46 : decode cX8_combineRegisters 46 = .ok (.iload 7, 2) := by decide +kernel
theorem dX8_combineRegisters_48 : decode cX8_combineRegisters 48 = .ok (.iadd, 1) := by decide +kernel
theorem dX8_combineRegisters_49 : decode cX8_combineRegisters 49 = .ok (.iaload, 1) := by decide +kernel
theorem dX8_combineRegisters_50 : decode cX8_combineRegisters 50 = .ok (.invokestatic 95, 3) := by decide +kernel
theorem dX8_combineRegisters_53 : decode cX8_combineRegisters 53 = .ok (.iastore, 1) := by decide +kernel
theorem dX8_combineRegisters_54 : decode cX8_combineRegisters 54 = .ok (.iinc 7 1, 3) := by decide +kernel
theorem dX8_combineRegisters_57 : decode cX8_combineRegisters 57 = .ok (.goto (-46), 3) := by decide +kernel
theorem dX8_combineRegisters_60 : decode cX8_combineRegisters 60 = .ok (.return_, 1) := by decide +kernel
theorem dX8_combineLanes_0 : decode cX8_combineLanes 0 = .ok (.aload_n 1, 1) := by decide +kernel
theorem dX8_combineLanes_1 : decode cX8_combineLanes 1 = .ok (.getfield 88, 3) := by decide +kernel
theorem dX8_combineLanes_4 : decode cX8_combineLanes 4 = .ok (.iload_n 2, 1) := by decide +kernel
theorem dX8_combineLanes_5 : decode cX8_combineLanes 5 = .ok (.iaload, 1) := by decide +kernel
theorem dX8_combineLanes_6 : decode cX8_combineLanes 6 = .ok (.istore 4, 2) := by decide +kernel
theorem dX8_combineLanes_8 : decode cX8_combineLanes 8 = .ok (.iconst 1, 1) := by decide +kernel
theorem dX8_combineLanes_9 : decode cX8_combineLanes 9 = .ok (.istore 5, 2) := by decide +kernel
theorem dX8_combineLanes_11 : decode cX8_combineLanes 11 = .ok (.iload 5, 2) := by decide +kernel
theorem dX8_combineLanes_13 : decode cX8_combineLanes 13 = .ok (.aload_n 1, 1) := by decide +kernel
theorem dX8_combineLanes_14 : decode cX8_combineLanes 14 = .ok (.getfield 91, 3) := by decide +kernel
theorem dX8_combineLanes_17 : decode cX8_combineLanes 17 = .ok (.if_icmp .ge 35, 3) := by decide +kernel
theorem dX8_combineLanes_20 : decode cX8_combineLanes 20 = .ok (.aload_n 0, 1) := by decide +kernel
theorem dX8_combineLanes_21 : decode cX8_combineLanes 21 = .ok (.getfield 15, 3) := by decide +kernel
theorem dX8_combineLanes_24 : decode cX8_combineLanes 24 = .ok (.iload_n 3, 1) := by decide +kernel
theorem dX8_combineLanes_25 : decode cX8_combineLanes 25 = .ok (.iload 4, 2) := by decide +kernel
theorem dX8_combineLanes_27 : decode cX8_combineLanes 27 = .ok (.aload_n 0, 1) := by decide +kernel
theorem dX8_combineLanes_28 : decode cX8_combineLanes 28 = .ok (.getfield 15, 3) := by decide +kernel
theorem dX8_combineLanes_31 : decode cX8_combineLanes 31 = .ok (.iload_n 3, 1) := by decide +kernel
theorem dX8_combineLanes_32 : decode cX8_combineLanes 32 = .ok (.iaload, 1) := by decide +kernel
theorem dX8_combineLanes_33 : decode cX8_combineLanes 33 = .ok (.aload_n 0, 1) := by decide +kernel
theorem dX8_combineLanes_34 : decode cX8_combineLanes 34 = .ok (.getfield 15, 3) := by decide +kernel
theorem dX8_combineLanes_37 : decode cX8_combineLanes 37 = .ok (.iload_n 3, 1) := by decide +kernel
theorem dX8_combineLanes_38 : decode cX8_combineLanes 38 = .ok (.iload 5, 2) := by decide +kernel
theorem dX8_combineLanes_40 : decode cX8_combineLanes 40 = .ok (.iadd, 1) := by decide +kernel
theorem dX8_combineLanes_41 : decode cX8_combineLanes 41 = .ok (.iaload, 1) := by decide +kernel
theorem dX8_combineLanes_42 : decode cX8_combineLanes 42 = .ok (.invokestatic 95, 3) := by decide +kernel
theorem dX8_combineLanes_45 : decode cX8_combineLanes 45 = .ok (.iastore, 1) := by decide +kernel
theorem dX8_combineLanes_46 : decode cX8_combineLanes 46 = .ok (.iinc 5 1, 3) := by decide +kernel
theorem dX8_combineLanes_49 : decode cX8_combineLanes 49 = .ok (.goto (-38), 3) := by decide +kernel
theorem dX8_combineLanes_52 : decode cX8_combineLanes 52 = .ok (.return_, 1) := by decide +kernel
theorem dX9_init_0 : decode cX9_init 0 = .ok (.aload_n 0, 1) := by decide +kernel
theorem dX9_init_1 : decode cX9_init 1 = .ok (.invokespecial 3, 3) := by decide +kernel
theorem dX9_init_4 : decode cX9_init 4 = .ok (.aload_n 0, 1) := by decide +kernel
theorem dX9_init_5 : decode cX9_init 5 = .ok (.sipush 900, 3) := by decide +kernel
theorem dX9_init_8 : decode cX9_init 8 = .ok (.newarray .int, 2) := by decide +kernel
theorem dX9_init_10 : decode cX9_init 10 = .ok (.putfield 9, 3) := by decide +kernel
theorem dX9_init_13 : decode cX9_init 13 = .ok (.aload_n 0, 1) := by decide +kernel
theorem dX9_init_14 : decode cX9_init 14 = .ok (.new 13, 3) := by decide +kernel
theorem dX9_init_17 : decode cX9_init 17 = .ok (.dup, 1) := by decide +kernel
theorem dX9_init_18 : decode cX9_init 18 = .ok (.invokespecial 15, 3) := by decide +kernel
theorem dX9_init_21 : decode cX9_init 21 = .ok (.putfield 16, 3) := by decide +kernel
theorem dX9_init_24 : decode cX9_init 24 = .ok (.aload_n 0, 1) := by decide +kernel
theorem dX9_init_25 : decode cX9_init 25 = .ok (.new 20, 3) := by decide +kernel
theorem dX9_init_28 : decode cX9_init 28 = .ok (.dup, 1) := by decide +kernel
theorem dX9_init_29 : decode cX9_init 29 = .ok (.invokespecial 22, 3) := by decide +kernel
theorem dX9_init_32 : decode cX9_init 32 = .ok (.putfield 23, 3) := by decide +kernel
theorem dX9_init_35 : decode cX9_init 35 = .ok (.aload_n 0, 1) := by decide +kernel
theorem dX9_init_36 : decode cX9_init 36 = .ok (.new 20, 3) := by decide +kernel
theorem dX9_init_39 : decode cX9_init 39 = .ok (.dup, 1) := by decide +kernel
theorem dX9_init_40 : decode cX9_init 40 = .ok (.invokespecial 22, 3) := by decide +kernel
theorem dX9_init_43 : decode cX9_init 43 = .ok (.putfield 27, 3) := by decide +kernel
theorem dX9_init_46 : decode cX9_init 46 = .ok (.aload_n 0, 1) := by decide +kernel
theorem dX9_init_47 : decode cX9_init 47 = .ok (.new 30, 3) := by decide +kernel
theorem dX9_init_50 : decode cX9_init 50 = .ok (.dup, 1) := by decide +kernel
theorem dX9_init_51 : decode cX9_init 51 = .ok (.invokespecial 32, 3) := by decide +kernel
theorem dX9_init_54 : decode cX9_init 54 = .ok (.putfield 33, 3) := by decide +kernel
theorem dX9_init_57 : decode cX9_init 57 = .ok (.aload_n 0, 1) := by decide +kernel
theorem dX9_init_58 : decode cX9_init 58 = .ok (.new 30, 3) := by decide +kernel
theorem dX9_init_61 : decode cX9_init 61 = .ok (.dup, 1) := by decide +kernel
theorem dX9_init_62 : decode cX9_init 62 = .ok (.invokespecial 32, 3) := by decide +kernel
theorem dX9_init_65 : decode cX9_init 65 = .ok (.putfield 37, 3) := by decide +kernel
theorem dX9_init_68 : decode cX9_init 68 = .ok (.aload_n 0, 1) := by decide +kernel
theorem dX9_init_69 : decode cX9_init 69 = .ok (.iconst 2, 1) := by decide +kernel
theorem dX9_init_70 : decode cX9_init 70 = .ok (.anewarray 30, 3) := by decide +kernel
theorem dX9_init_73 : decode cX9_init 73 = .ok (.dup, 1) := by decide +kernel
theorem dX9_init_74 : decode cX9_init 74 = .ok (.iconst 0, 1) := by decide +kernel
theorem dX9_init_75 : decode cX9_init 75 = .ok (.new 30, 3) := by decide +kernel
theorem dX9_init_78 : decode cX9_init 78 = .ok (.dup, 1) := by decide +kernel
theorem dX9_init_79 : decode cX9_init 79 = .ok (.invokespecial 32, 3) := by decide +kernel
theorem dX9_init_82 : decode cX9_init 82 = .ok (.aastore, 1) := by decide +kernel
theorem dX9_init_83 : decode cX9_init 83 = .ok (.dup, 1) := by decide +kernel
theorem dX9_init_84 : decode cX9_init 84 = .ok (.iconst 1, 1) := by decide +kernel
theorem dX9_init_85 : decode cX9_init 85 = .ok (.new 30, 3) := by decide +kernel
theorem dX9_init_88 : decode cX9_init 88 = .ok (.dup, 1) := by decide +kernel
theorem dX9_init_89 : decode cX9_init 89 = .ok (.invokespecial 32, 3) := by decide +kernel
theorem dX9_init_92 : decode cX9_init 92 = .ok (.aastore, 1) := by decide +kernel
theorem dX9_init_93 : decode cX9_init 93 = .ok (.putfield 40, 3) := by decide +kernel
theorem dX9_init_96 : decode cX9_init 96 = .ok (.aload_n 0, 1) := by decide +kernel
theorem dX9_init_97 : decode cX9_init 97 = .ok (.new 44, 3) := by decide +kernel
theorem dX9_init_100 : decode cX9_init 100 = .ok (.dup, 1) := by decide +kernel
theorem dX9_init_101 : decode cX9_init 101 = .ok (.invokespecial 46, 3) := by decide +kernel
theorem dX9_init_104 : decode cX9_init 104 = .ok (.putfield 47, 3) := by decide +kernel
theorem dX9_init_107 : decode cX9_init 107 = .ok (.aload_n 0, 1) := by decide +kernel
theorem dX9_init_108 : decode cX9_init 108 = .ok (.iconst (-1), 1) := by decide +kernel
theorem dX9_init_109 : decode cX9_init 109 = .ok (.putfield 51, 3) := by decide +kernel
theorem dX9_init_112 : decode cX9_init 112 = .ok (.aload_n 0, 1) := by decide +kernel
theorem dX9_init_113 : decode cX9_init 113 = .ok (.getfield 23, 3) := by decide +kernel
theorem dX9_init_116 : decode cX9_init 116 = .ok (.invokevirtual 55, 3) := by decide +kernel
theorem dX9_init_119 : decode cX9_init 119 = .ok (.aload_n 0, 1) := by decide +kernel
theorem dX9_init_120 : decode cX9_init 120 = .ok (.getfield 33, 3) := by decide +kernel
theorem dX9_init_123 : decode cX9_init 123 = .ok (.invokevirtual 58, 3) := by decide +kernel
theorem dX9_init_126 : decode cX9_init 126 = .ok (.return_, 1) := by decide +kernel
theorem dX9_append_0 : decode cX9_append 0 = .ok (.aload_n 0, 1) := by decide +kernel
theorem dX9_append_1 : decode cX9_append 1 = .ok (.getfield 59, 3) := by decide +kernel
theorem dX9_append_4 : decode cX9_append 4 = .ok (.sipush 880, 3) := by decide +kernel
theorem dX9_append_7 : decode cX9_append 7 = .ok (.if_icmp .le 13, 3) := by decide +kernel
theorem dX9_append_10 : decode cX9_append 10 = .ok (.new 62, 3) := by decide +kernel
theorem dX9_append_13 : decode cX9_append 13 = .ok (.dup, 1) := by decide +kernel
theorem dX9_append_14 : decode cX9_append 14 = .ok (.ldc 64, 2) := by decide +kernel
theorem dX9_append_16 : decode cX9_append 16 = .ok (.invokespecial 66, 3) := by decide +kernel
theorem dX9_append_19 : decode cX9_append 19 = .ok (.athrow, 1) := by decide +kernel
theorem dX9_append_20 : decode cX9_append 20 = .ok (.aload_n 0, 1) := by decide +kernel
theorem dX9_append_21 : decode cX9_append 21 = .ok (.iload_n 1, 1) := by decide +kernel
theorem dX9_append_22 : decode cX9_append 22 = .ok (.invokevirtual 69, 3) := by decide +kernel
theorem dX9_append_25 : decode cX9_append 25 = .ok (.aload_n 0, 1) := by decide +kernel
theorem dX9_append_26 : decode cX9_append 26 = .ok (.iload_n 2, 1) := by decide +kernel
theorem dX9_append_27 : decode cX9_append 27 = .ok (.invokevirtual 69, 3) := by decide +kernel
theorem dX9_append_30 : decode cX9_append 30 = .ok (.aload_n 0, 1) := by decide +kernel
theorem dX9_append_31 : decode cX9_append 31 = .ok (.iload_n 3, 1) := by decide +kernel
theorem dX9_append_32 : decode cX9_append 32 = .ok (.invokevirtual 69, 3) := by decide +kernel
theorem dX9_append_35 : decode cX9_append 35 = .ok (.aload_n 0, 1) := by decide +kernel
theorem dX9_append_36 : decode cX9_append 36 = .ok (.iload 4, 2) := by decide +kernel
theorem dX9_append_38 : decode cX9_append 38 = .ok (.invokevirtual 69, 3) := by decide +kernel
theorem dX9_append_41 : decode cX9_append 41 = .ok (.aload_n 0, 1) := by decide +kernel
theorem dX9_append_42 : decode cX9_append 42 = .ok (.iload 5, 2) := by decide +kernel
theorem dX9_append_44 : decode cX9_append 44 = .ok (.invokevirtual 69, 3) := by decide +kernel
theorem dX9_append_47 : decode cX9_append 47 = .ok (.aload_n 0, 1) := by decide +kernel
theorem dX9_append_48 : decode cX9_append 48 = .ok (.getfield 59, 3) := by decide +kernel
theorem dX9_append_51 : decode cX9_append 51 = .ok (.ireturn, 1) := by decide +kernel
theorem dX9_appendBytes_0 : decode cX9_appendBytes 0 = .ok (.bipush 24, 2) := by decide +kernel
theorem dX9_appendBytes_2 : decode cX9_appendBytes 2 = .ok (.istore_n 2, 1) := by decide +kernel
theorem dX9_appendBytes_3 : decode cX9_appendBytes 3 = .ok (.iload_n 2, 1) := by decide +kernel
theorem dX9_appendBytes_4 : decode cX9_appendBytes 4 = .ok (.ifCond .lt 35, 3) := by decide +kernel
theorem dX9_appendBytes_7 : decode cX9_appendBytes 7 = .ok (.aload_n 0, 1) := by decide +kernel
theorem dX9_appendBytes_8 : decode cX9_appendBytes 8 = .ok (.getfield 9, 3) := by decide +kernel
theorem dX9_appendBytes_11 : decode cX9_appendBytes 11 = .ok (.aload_n 0, 1) := by decide +kernel
theorem dX9_appendBytes_12 : decode cX9_appendBytes 12 = .ok (.getfield 59, 3) := by decide +kernel
theorem dX9_appendBytes_15 : decode cX9_appendBytes 15 = .ok (.iload_n 1, 1) := by decide +kernel
theorem dX9_appendBytes_16 : decode cX9_appendBytes 16 = .ok (.iload_n 2, 1) := by decide +kernel
theorem dX9_appendBytes_17 : decode cX9_appendBytes 17 = .ok (.iushr, 1) := by decide +kernel
theorem dX9_appendBytes_18 : decode cX9_appendBytes 18 = .ok (.sipush 255, 3) := by decide +kernel
theorem dX9_appendBytes_21 : decode cX9_appendBytes 21 = .ok (.iand, 1) := by decide +kernel
theorem dX9_appendBytes_22 : decode cX9_appendBytes 22 = .ok (.iastore, 1) := by decide +kernel
theorem dX9_appendBytes_23 : decode cX9_appendBytes 23 = .ok (.aload_n 0, 1) := by decide +kernel
theorem dX9_appendBytes_24 : decode cX9_appendBytes 24 = .ok (.dup, 1) := by decide +kernel
theorem dX9_appendBytes_25 : decode cX9_appendBytes 25 = .ok (.getfield 59, 3) := by decide +kernel
theorem dX9_appendBytes_28 : decode cX9_appendBytes 28 = .ok (.iconst 1, 1) := by decide +kernel
theorem dX9_appendBytes_29 : decode cX9_appendBytes 29 = .ok (.iadd, 1) := by decide +kernel
theorem dX9_appendBytes_30 : decode cX9_appendBytes 30 = .ok (.putfield 59, 3) := by decide +kernel
theorem dX9_appendBytes_33 : decode cX9_appendBytes 33 = .ok (.iinc 2 (-8), 3) := by decide +kernel
theorem dX9_appendBytes_36 : decode cX9_appendBytes 36 = .ok (.goto (-33), 3) := by decide +kernel
theorem dX9_appendBytes_39 : decode cX9_appendBytes 39 = .ok (.return_, 1) := by decide +kernel
theorem dX9_truncate_0 : decode cX9_truncate 0 = .ok (.iload_n 1, 1) := by decide +kernel
theorem dX9_truncate_1 : decode cX9_truncate 1 = .ok (.ifCond .lt 11, 3) := by decide +kernel
theorem dX9_truncate_4 : decode cX9_truncate 4 = .ok (.iload_n 1, 1) := by decide +kernel
theorem dX9_truncate_5 : decode cX9_truncate 5 = .ok (.aload_n 0, 1) := by decide +kernel
theorem dX9_truncate_6 : decode cX9_truncate 6 = .ok (.getfield 59, 3) := by decide +kernel
theorem dX9_truncate_9 : decode cX9_truncate 9 = .ok (.if_icmp .le 13, 3) := by decide +kernel
theorem dX9_truncate_12 : decode cX9_truncate 12 = .ok (.new 73, 3) := by decide +kernel
theorem dX9_truncate_15 : decode cX9_truncate 15 = .ok (.dup, 1) := by decide +kernel
theorem dX9_truncate_16 : decode cX9_truncate 16 = .ok (.ldc 75, 2) := by decide +kernel
theorem dX9_truncate_18 : decode cX9_truncate 18 = .ok (.invokespecial 77, 3) := by decide +kernel
theorem dX9_truncate_21 : decode cX9_truncate 21 = .ok (.athrow, 1) := by decide +kernel
theorem dX9_truncate_22 : decode cX9_truncate 22 = .ok (.aload_n 0, 1) := by decide +kernel
theorem dX9_truncate_23 : decode cX9_truncate 23 = .ok (.iload_n 1, 1) := by decide +kernel
theorem dX9_truncate_24 : decode cX9_truncate 24 = .ok (.putfield 59, 3) := by decide +kernel
theorem dX9_truncate_27 : decode cX9_truncate 27 = .ok (.aload_n 0, 1) := by decide +kernel
theorem dX9_truncate_28 : decode cX9_truncate 28 = .ok (.getfield 59, 3) := by decide +kernel
theorem dX9_truncate_31 : decode cX9_truncate 31 = .ok (.ireturn, 1) := by decide +kernel
theorem dX9_load_0 : decode cX9_load 0 = .ok (.aload_n 0, 1) := by decide +kernel
theorem dX9_load_1 : decode cX9_load 1 = .ok (.getfield 59, 3) := by decide +kernel
theorem dX9_load_4 : decode cX9_load 4 = .ok (.istore_n 1, 1) := by decide +kernel
theorem dX9_load_5 : decode cX9_load 5 = .ok (.aload_n 0, 1) := by decide +kernel
theorem dX9_load_6 : decode cX9_load 6 = .ok (.iconst 0, 1) := by decide +kernel
theorem dX9_load_7 : decode cX9_load 7 = .ok (.putfield 59, 3) := by decide +kernel
theorem dX9_load_10 : decode cX9_load 10 = .ok (.aload_n 0, 1) := by decide +kernel
theorem dX9_load_11 : decode cX9_load 11 = .ok (.getfield 16, 3) := by decide +kernel
theorem dX9_load_14 : decode cX9_load 14 = .ok (.aload_n 0, 1) := by decide +kernel
theorem dX9_load_15 : decode cX9_load 15 = .ok (.getfield 9, 3) := by decide +kernel
theorem dX9_load_18 : decode cX9_load 18 = .ok (.iload_n 1, 1) := by decide +kernel
theorem dX9_load_19 : decode cX9_load 19 = .ok (.aload_n 0, 1) := by decide +kernel
theorem dX9_load_20 : decode cX9_load 20 = .ok (.getfield 27, 3) := by decide +kernel
theorem dX9_load_23 : decode cX9_load 23 = .ok (.invokevirtual 78, 3) := by decide +kernel
theorem dX9_load_26 : decode cX9_load 26 = .ok (.aload_n 0, 1) := by decide +kernel
theorem dX9_load_27 : decode cX9_load 27 = .ok (.aload_n 0, 1) := by decide +kernel
theorem dX9_load_28 : decode cX9_load 28 = .ok (.getfield 16, 3) := by decide +kernel
theorem dX9_load_31 : decode cX9_load 31 = .ok (.getfield 82, 3) := by decide +kernel
theorem dX9_load_34 : decode cX9_load 34 = .ok (.putfield 85, 3) := by decide +kernel
theorem dX9_load_37 : decode cX9_load 37 = .ok (.aload_n 0, 1) := by decide +kernel
theorem dX9_load_38 : decode cX9_load 38 = .ok (.aload_n 0, 1) := by decide +kernel
theorem dX9_load_39 : decode cX9_load 39 = .ok (.getfield 16, 3) := by decide +kernel
theorem dX9_load_42 : decode cX9_load 42 = .ok (.getfield 88, 3) := by decide +kernel
theorem dX9_load_45 : decode cX9_load 45 = .ok (.putfield 51, 3) := by decide +kernel
theorem dX9_load_48 : decode cX9_load 48 = .ok (.aload_n 0, 1) := by decide +kernel
theorem dX9_load_49 : decode cX9_load 49 = .ok (.getfield 85, 3) := by decide +kernel
theorem dX9_load_52 : decode cX9_load 52 = .ok (.ifCond .eq 13, 3) := by decide +kernel
theorem dX9_load_55 : decode cX9_load 55 = .ok (.new 91, 3) := by decide +kernel
theorem dX9_load_58 : decode cX9_load 58 = .ok (.dup, 1) := by decide +kernel
theorem dX9_load_59 : decode cX9_load 59 = .ok (.ldc 93, 2) := by decide +kernel
theorem dX9_load_61 : decode cX9_load 61 = .ok (.invokespecial 95, 3) := by decide +kernel
theorem dX9_load_64 : decode cX9_load 64 = .ok (.athrow, 1) := by decide +kernel
theorem dX9_load_65 : decode cX9_load 65 = .ok (.aload_n 0, 1) := by decide +kernel
theorem dX9_load_66 : decode cX9_load 66 = .ok (.getfield 27, 3) := by decide +kernel
theorem dX9_load_69 : decode cX9_load 69 = .ok (.astore_n 2, 1) := by decide +kernel
theorem dX9_load_70 : decode cX9_load 70 = .ok (.aload_n 0, 1) := by decide +kernel
theorem dX9_load_71 : decode cX9_load 71 = .ok (.aload_n 0, 1) := by decide +kernel
theorem dX9_load_72 : decode cX9_load 72 = .ok (.getfield 23, 3) := by decide +kernel
theorem dX9_load_75 : decode cX9_load 75 = .ok (.putfield 27, 3) := by decide +kernel
theorem dX9_load_78 : decode cX9_load 78 = .ok (.aload_n 0, 1) := by decide +kernel
theorem dX9_load_79 : decode cX9_load 79 = .ok (.aload_n 2, 1) := by decide +kernel
theorem dX9_load_80 : decode cX9_load 80 = .ok (.putfield 23, 3) := by decide +kernel
theorem dX9_load_83 : decode cX9_load 83 = .ok (.aload_n 0, 1) := by decide +kernel
theorem dX9_load_84 : decode cX9_load 84 = .ok (.getfield 33, 3) := by decide +kernel
theorem dX9_load_87 : decode cX9_load 87 = .ok (.invokevirtual 58, 3) := by decide +kernel
theorem dX9_load_90 : decode cX9_load 90 = .ok (.aload_n 0, 1) := by decide +kernel
theorem dX9_load_91 : decode cX9_load 91 = .ok (.getfield 47, 3) := by decide +kernel
theorem dX9_load_94 : decode cX9_load 94 = .ok (.invokevirtual 96, 3) := by decide +kernel
theorem dX9_load_97 : decode cX9_load 97 = .ok (.aload_n 0, 1) := by decide +kernel
theorem dX9_load_98 : decode cX9_load 98 = .ok (.iconst 0, 1) := by decide +kernel
theorem dX9_load_99 : decode cX9_load 99 = .ok (.putfield 99, 3) := by decide +kernel
theorem dX9_load_102 : decode cX9_load 102 = .ok (.aload_n 0, 1) := by decide +kernel
theorem dX9_load_103 : decode cX9_load 103 = .ok (.getfield 23, 3) := by decide +kernel
theorem dX9_load_106 : decode cX9_load 106 = .ok (.getfield 102, 3) := by decide +kernel
theorem dX9_load_109 : decode cX9_load 109 = .ok (.ireturn, 1) := by decide +kernel
theorem dX9_errorCode_0 : decode cX9_errorCode 0 = .ok (.aload_n 0, 1) := by decide +kernel
theorem dX9_errorCode_1 : decode cX9_errorCode 1 = .ok (.getfield 85, 3) := by decide +kernel
theorem dX9_errorCode_4 : decode cX9_errorCode 4 = .ok (.ireturn, 1) := by decide +kernel
theorem dX9_errorPosition_0 : decode cX9_errorPosition 0 = .ok (.aload_n 0, 1) := by decide +kernel
theorem dX9_errorPosition_1 : decode cX9_errorPosition 1 = .ok (.getfield 51, 3) := by decide +kernel
theorem dX9_errorPosition_4 : decode cX9_errorPosition 4 = .ok (.ireturn, 1) := by decide +kernel
theorem dX9_count_0 : decode cX9_count 0 = .ok (.iload_n 1, 1) := by decide +kernel
theorem dX9_count_1 : decode cX9_count 1 = .ok (.tableswitch 108 0 6 #[43, 51, 59, 67, 75, 86, 97], 43) := by decide +kernel
theorem dX9_count_44 : decode cX9_count 44 = .ok (.aload_n 0, 1) := by decide +kernel
theorem dX9_count_45 : decode cX9_count 45 = .ok (.getfield 23, 3) := by decide +kernel
theorem dX9_count_48 : decode cX9_count 48 = .ok (.getfield 105, 3) := by decide +kernel
theorem dX9_count_51 : decode cX9_count 51 = .ok (.ireturn, 1) := by decide +kernel
theorem dX9_count_52 : decode cX9_count 52 = .ok (.aload_n 0, 1) := by decide +kernel
theorem dX9_count_53 : decode cX9_count 53 = .ok (.getfield 23, 3) := by decide +kernel
theorem dX9_count_56 : decode cX9_count 56 = .ok (.getfield 108, 3) := by decide +kernel
theorem dX9_count_59 : decode cX9_count 59 = .ok (.ireturn, 1) := by decide +kernel
theorem dX9_count_60 : decode cX9_count 60 = .ok (.aload_n 0, 1) := by decide +kernel
theorem dX9_count_61 : decode cX9_count 61 = .ok (.getfield 23, 3) := by decide +kernel
theorem dX9_count_64 : decode cX9_count 64 = .ok (.getfield 111, 3) := by decide +kernel
theorem dX9_count_67 : decode cX9_count 67 = .ok (.ireturn, 1) := by decide +kernel
theorem dX9_count_68 : decode cX9_count 68 = .ok (.aload_n 0, 1) := by decide +kernel
theorem dX9_count_69 : decode cX9_count 69 = .ok (.getfield 23, 3) := by decide +kernel
theorem dX9_count_72 : decode cX9_count 72 = .ok (.getfield 102, 3) := by decide +kernel
theorem dX9_count_75 : decode cX9_count 75 = .ok (.ireturn, 1) := by decide +kernel
theorem dX9_count_76 : decode cX9_count 76 = .ok (.aload_n 0, 1) := by decide +kernel
theorem dX9_count_77 : decode cX9_count 77 = .ok (.getfield 33, 3) := by decide +kernel
theorem dX9_count_80 : decode cX9_count 80 = .ok (.getfield 114, 3) := by decide +kernel
theorem dX9_count_83 : decode cX9_count 83 = .ok (.getfield 118, 3) := by decide +kernel
theorem dX9_count_86 : decode cX9_count 86 = .ok (.ireturn, 1) := by decide +kernel
theorem dX9_count_87 : decode cX9_count 87 = .ok (.aload_n 0, 1) := by decide +kernel
theorem dX9_count_88 : decode cX9_count 88 = .ok (.getfield 33, 3) := by decide +kernel
theorem dX9_count_91 : decode cX9_count 91 = .ok (.getfield 114, 3) := by decide +kernel
theorem dX9_count_94 : decode cX9_count 94 = .ok (.getfield 123, 3) := by decide +kernel
theorem dX9_count_97 : decode cX9_count 97 = .ok (.ireturn, 1) := by decide +kernel
theorem dX9_count_98 : decode cX9_count 98 = .ok (.aload_n 0, 1) := by decide +kernel
theorem dX9_count_99 : decode cX9_count 99 = .ok (.getfield 33, 3) := by decide +kernel
theorem dX9_count_102 : decode cX9_count 102 = .ok (.getfield 126, 3) := by decide +kernel
theorem dX9_count_105 : decode cX9_count 105 = .ok (.invokevirtual 130, 3) := by decide +kernel
theorem dX9_count_108 : decode cX9_count 108 = .ok (.ireturn, 1) := by decide +kernel
theorem dX9_count_109 : decode cX9_count 109 = .ok (.new 91, 3) := by decide +kernel
theorem dX9_count_112 : decode cX9_count 112 = .ok (.dup, 1) := by decide +kernel
theorem dX9_count_113 : decode cX9_count 113 = .ok (.ldc 136, 2) := by decide +kernel
theorem dX9_count_115 : decode cX9_count 115 = .ok (.invokespecial 95, 3) := by decide +kernel
theorem dX9_count_118 : decode cX9_count 118 = .ok (.athrow, 1) := by decide +kernel
theorem dX9_commands_0 : decode cX9_commands 0 = .ok (.aload_n 0, 1) := by decide +kernel
theorem dX9_commands_1 : decode cX9_commands 1 = .ok (.iload_n 1, 1) := by decide +kernel
theorem dX9_commands_2 : decode cX9_commands 2 = .ok (.invokevirtual 138, 3) := by decide +kernel
theorem dX9_commands_5 : decode cX9_commands 5 = .ok (.aload_n 0, 1) := by decide +kernel
theorem dX9_commands_6 : decode cX9_commands 6 = .ok (.getfield 23, 3) := by decide +kernel
theorem dX9_commands_9 : decode cX9_commands 9 = .ok (.getfield 141, 3) := by decide +kernel
theorem dX9_commands_12 : decode cX9_commands 12 = .ok (.iload_n 1, 1) := by decide +kernel
theorem dX9_commands_13 : decode cX9_commands 13 = .ok (.iaload, 1) := by decide +kernel
theorem dX9_commands_14 : decode cX9_commands 14 = .ok (.aload_n 0, 1) := by decide +kernel
theorem dX9_commands_15 : decode cX9_commands 15 = .ok (.getfield 23, 3) := by decide +kernel
theorem dX9_commands_18 : decode cX9_commands 18 = .ok (.getfield 144, 3) := by decide +kernel
theorem dX9_commands_21 : decode cX9_commands 21 = .ok (.iload_n 1, 1) := by decide +kernel
theorem dX9_commands_22 : decode cX9_commands 22 = .ok (.iaload, 1) := by decide +kernel
theorem dX9_commands_23 : decode cX9_commands 23 = .ok (.isub, 1) := by decide +kernel
theorem dX9_commands_24 : decode cX9_commands 24 = .ok (.ireturn, 1) := by decide +kernel
theorem dX9_banks_0 : decode cX9_banks 0 = .ok (.aload_n 0, 1) := by decide +kernel
theorem dX9_banks_1 : decode cX9_banks 1 = .ok (.iload_n 1, 1) := by decide +kernel
theorem dX9_banks_2 : decode cX9_banks 2 = .ok (.invokevirtual 138, 3) := by decide +kernel
theorem dX9_banks_5 : decode cX9_banks 5 = .ok (.aload_n 0, 1) := by decide +kernel
theorem dX9_banks_6 : decode cX9_banks 6 = .ok (.getfield 23, 3) := by decide +kernel
theorem dX9_banks_9 : decode cX9_banks 9 = .ok (.getfield 147, 3) := by decide +kernel
theorem dX9_banks_12 : decode cX9_banks 12 = .ok (.iload_n 1, 1) := by decide +kernel
theorem dX9_banks_13 : decode cX9_banks 13 = .ok (.iaload, 1) := by decide +kernel
theorem dX9_banks_14 : decode cX9_banks 14 = .ok (.ireturn, 1) := by decide +kernel
theorem dX9_memory_0 : decode cX9_memory 0 = .ok (.aload_n 0, 1) := by decide +kernel
theorem dX9_memory_1 : decode cX9_memory 1 = .ok (.iload_n 1, 1) := by decide +kernel
theorem dX9_memory_2 : decode cX9_memory 2 = .ok (.iload_n 2, 1) := by decide +kernel
theorem dX9_memory_3 : decode cX9_memory 3 = .ok (.iload_n 3, 1) := by decide +kernel
theorem dX9_memory_4 : decode cX9_memory 4 = .ok (.invokevirtual 150, 3) := by decide +kernel
theorem dX9_memory_7 : decode cX9_memory 7 = .ok (.aload_n 0, 1) := by decide +kernel
theorem dX9_memory_8 : decode cX9_memory 8 = .ok (.getfield 33, 3) := by decide +kernel
theorem dX9_memory_11 : decode cX9_memory 11 = .ok (.getfield 154, 3) := by decide +kernel
theorem dX9_memory_14 : decode cX9_memory 14 = .ok (.getfield 158, 3) := by decide +kernel
theorem dX9_memory_17 : decode cX9_memory 17 = .ok (.iload_n 1, 1) := by decide +kernel
theorem dX9_memory_18 : decode cX9_memory 18 = .ok (.iload_n 2, 1) := by decide +kernel
theorem dX9_memory_19 : decode cX9_memory 19 = .ok (.iload_n 3, 1) := by decide +kernel
theorem dX9_memory_20 : decode cX9_memory 20 = .ok (.invokestatic 163, 3) := by decide +kernel
theorem dX9_memory_23 : decode cX9_memory 23 = .ok (.iaload, 1) := by decide +kernel
theorem dX9_memory_24 : decode cX9_memory 24 = .ok (.ireturn, 1) := by decide +kernel
theorem dX9_fill_0 : decode cX9_fill 0 = .ok (.aload_n 0, 1) := by decide +kernel
theorem dX9_fill_1 : decode cX9_fill 1 = .ok (.iload_n 1, 1) := by decide +kernel
theorem dX9_fill_2 : decode cX9_fill 2 = .ok (.iload_n 2, 1) := by decide +kernel
theorem dX9_fill_3 : decode cX9_fill 3 = .ok (.invokevirtual 167, 3) := by decide +kernel
theorem dX9_fill_6 : decode cX9_fill 6 = .ok (.iconst 0, 1) := by decide +kernel
theorem dX9_fill_7 : decode cX9_fill 7 = .ok (.istore 5, 2) := by decide +kernel
theorem dX9_fill_9 : decode cX9_fill 9 = .ok (.iload 5, 2) := by decide +kernel
theorem dX9_fill_11 : decode cX9_fill 11 = .ok (.aload_n 0, 1) := by decide +kernel
theorem dX9_fill_12 : decode cX9_fill 12 = .ok (.getfield 23, 3) := by decide +kernel
theorem dX9_fill_15 : decode cX9_fill 15 = .ok (.getfield 111, 3) := by decide +kernel
theorem dX9_fill_18 : decode cX9_fill 18 = .ok (.if_icmp .ge 34, 3) := by decide +kernel
theorem dX9_fill_21 : decode cX9_fill 21 = .ok (.aload_n 0, 1) := by decide +kernel
theorem dX9_fill_22 : decode cX9_fill 22 = .ok (.getfield 33, 3) := by decide +kernel
theorem dX9_fill_25 : decode cX9_fill 25 = .ok (.getfield 154, 3) := by decide +kernel
theorem dX9_fill_28 : decode cX9_fill 28 = .ok (.getfield 158, 3) := by decide +kernel
theorem dX9_fill_31 : decode cX9_fill 31 = .ok (.iload_n 1, 1) := by decide +kernel
theorem dX9_fill_32 : decode cX9_fill 32 = .ok (.iload_n 2, 1) := by decide +kernel
theorem dX9_fill_33 : decode cX9_fill 33 = .ok (.iload 5, 2) := by decide +kernel
theorem dX9_fill_35 : decode cX9_fill 35 = .ok (.invokestatic 163, 3) := by decide +kernel
theorem dX9_fill_38 : decode cX9_fill 38 = .ok (.iload_n 3, 1) := by decide +kernel
theorem dX9_fill_39 : decode cX9_fill 39 = .ok (.iload 5, 2) := by decide +kernel
theorem dX9_fill_41 : decode cX9_fill 41 = .ok (.iload 4, 2) := by decide +kernel
theorem dX9_fill_43 : decode cX9_fill 43 = .ok (.imul, 1) := by decide +kernel
theorem dX9_fill_44 : decode cX9_fill 44 = .ok (.iadd, 1) := by decide +kernel
theorem dX9_fill_45 : decode cX9_fill 45 = .ok (.iastore, 1) := by decide +kernel
theorem dX9_fill_46 : decode cX9_fill 46 = .ok (.iinc 5 1, 3) := by decide +kernel
theorem dX9_fill_49 : decode cX9_fill 49 = .ok (.goto (-40), 3) := by decide +kernel
theorem dX9_fill_52 : decode cX9_fill 52 = .ok (.aload_n 0, 1) := by decide +kernel
theorem dX9_fill_53 : decode cX9_fill 53 = .ok (.getfield 33, 3) := by decide +kernel
theorem dX9_fill_56 : decode cX9_fill 56 = .ok (.getfield 171, 3) := by decide +kernel
theorem dX9_fill_59 : decode cX9_fill 59 = .ok (.ifCond .eq 26, 3) := by decide +kernel
theorem dX9_fill_62 : decode cX9_fill 62 = .ok (.aload_n 0, 1) := by decide +kernel
theorem dX9_fill_63 : decode cX9_fill 63 = .ok (.getfield 33, 3) := by decide +kernel
theorem dX9_fill_66 : decode cX9_fill 66 = .ok (.getfield 126, 3) := by decide +kernel
theorem dX9_fill_69 : decode cX9_fill 69 = .ok (.aload_n 0, 1) := by decide +kernel
theorem dX9_fill_70 : decode cX9_fill 70 = .ok (.getfield 33, 3) := by decide +kernel
theorem dX9_fill_73 : decode cX9_fill 73 = .ok (.getfield 126, 3) := by decide +kernel
theorem dX9_fill_76 : decode cX9_fill 76 = .ok (.iload_n 1, 1) := by decide +kernel
theorem dX9_fill_77 : decode cX9_fill 77 = .ok (.iload_n 2, 1) := by decide +kernel
theorem dX9_fill_78 : decode cX9_fill 78 = .ok (.invokevirtual 175, 3) := by decide +kernel
theorem dX9_fill_81 : decode cX9_fill 81 = .ok (.invokevirtual 179, 3) := by decide +kernel
theorem dX9_fill_84 : decode cX9_fill 84 = .ok (.pop, 1) := by decide +kernel
theorem dX9_fill_85 : decode cX9_fill 85 = .ok (.iload_n 3, 1) := by decide +kernel
theorem dX9_fill_86 : decode cX9_fill 86 = .ok (.aload_n 0, 1) := by decide +kernel
theorem dX9_fill_87 : decode cX9_fill 87 = .ok (.getfield 23, 3) := by decide +kernel
theorem dX9_fill_90 : decode cX9_fill 90 = .ok (.getfield 111, 3) := by decide +kernel
theorem dX9_fill_93 : decode cX9_fill 93 = .ok (.iconst 1, 1) := by decide +kernel
theorem dX9_fill_94 : decode cX9_fill 94 = .ok (.isub, 1) := by decide +kernel
theorem dX9_fill_95 : decode cX9_fill 95 = .ok (.iload 4, 2) := by decide +kernel
theorem dX9_fill_97 : decode cX9_fill 97 = .ok (.imul, 1) := by decide +kernel
theorem dX9_fill_98 : decode cX9_fill 98 = .ok (.iadd, 1) := by decide +kernel
theorem dX9_fill_99 : decode cX9_fill 99 = .ok (.ireturn, 1) := by decide +kernel
theorem dX9_register_0 : decode cX9_register 0 = .ok (.aload_n 0, 1) := by decide +kernel
theorem dX9_register_1 : decode cX9_register 1 = .ok (.iload_n 1, 1) := by decide +kernel
theorem dX9_register_2 : decode cX9_register 2 = .ok (.iload_n 2, 1) := by decide +kernel
theorem dX9_register_3 : decode cX9_register 3 = .ok (.iload_n 3, 1) := by decide +kernel
theorem dX9_register_4 : decode cX9_register 4 = .ok (.invokevirtual 183, 3) := by decide +kernel
theorem dX9_register_7 : decode cX9_register 7 = .ok (.aload_n 0, 1) := by decide +kernel
theorem dX9_register_8 : decode cX9_register 8 = .ok (.getfield 33, 3) := by decide +kernel
theorem dX9_register_11 : decode cX9_register 11 = .ok (.getfield 154, 3) := by decide +kernel
theorem dX9_register_14 : decode cX9_register 14 = .ok (.getfield 186, 3) := by decide +kernel
theorem dX9_register_17 : decode cX9_register 17 = .ok (.iload_n 1, 1) := by decide +kernel
theorem dX9_register_18 : decode cX9_register 18 = .ok (.iload_n 2, 1) := by decide +kernel
theorem dX9_register_19 : decode cX9_register 19 = .ok (.iload_n 3, 1) := by decide +kernel
theorem dX9_register_20 : decode cX9_register 20 = .ok (.invokestatic 189, 3) := by decide +kernel
theorem dX9_register_23 : decode cX9_register 23 = .ok (.iaload, 1) := by decide +kernel
theorem dX9_register_24 : decode cX9_register 24 = .ok (.ireturn, 1) := by decide +kernel
theorem dX9_hostRead_0 : decode cX9_hostRead 0 = .ok (.aload_n 0, 1) := by decide +kernel
theorem dX9_hostRead_1 : decode cX9_hostRead 1 = .ok (.iload_n 1, 1) := by decide +kernel
theorem dX9_hostRead_2 : decode cX9_hostRead 2 = .ok (.iload_n 2, 1) := by decide +kernel
theorem dX9_hostRead_3 : decode cX9_hostRead 3 = .ok (.iload_n 3, 1) := by decide +kernel
theorem dX9_hostRead_4 : decode cX9_hostRead 4 = .ok (.invokevirtual 150, 3) := by decide +kernel
theorem dX9_hostRead_7 : decode cX9_hostRead 7 = .ok (.aload_n 0, 1) := by decide +kernel
theorem dX9_hostRead_8 : decode cX9_hostRead 8 = .ok (.getfield 33, 3) := by decide +kernel
theorem dX9_hostRead_11 : decode cX9_hostRead 11 = .ok (.getfield 126, 3) := by decide +kernel
theorem dX9_hostRead_14 : decode cX9_hostRead 14 = .ok (.astore 4, 2) := by decide +kernel
theorem dX9_hostRead_16 : decode cX9_hostRead 16 = .ok (.aload 4, 2) := by decide +kernel
theorem dX9_hostRead_18 : decode cX9_hostRead 18 = .ok (.iload_n 1, 1) := by decide +kernel
theorem dX9_hostRead_19 : decode cX9_hostRead 19 = .ok (.iload_n 2, 1) := by decide +kernel
theorem dX9_hostRead_20 : decode cX9_hostRead 20 = .ok (.aload_n 0, 1) := by decide +kernel
theorem dX9_hostRead_21 : decode cX9_hostRead 21 = .ok (.getfield 23, 3) := by decide +kernel
theorem dX9_hostRead_24 : decode cX9_hostRead 24 = .ok (.getfield 192, 3) := by decide +kernel
theorem dX9_hostRead_27 : decode cX9_hostRead 27 = .ok (.bipush 7, 2) := by decide +kernel
theorem dX9_hostRead_29 : decode cX9_hostRead 29 = .ok (.iaload, 1) := by decide +kernel
theorem dX9_hostRead_30 : decode cX9_hostRead 30 = .ok (.aload_n 0, 1) := by decide +kernel
theorem dX9_hostRead_31 : decode cX9_hostRead 31 = .ok (.getfield 33, 3) := by decide +kernel
theorem dX9_hostRead_34 : decode cX9_hostRead 34 = .ok (.getfield 154, 3) := by decide +kernel
theorem dX9_hostRead_37 : decode cX9_hostRead 37 = .ok (.invokevirtual 195, 3) := by decide +kernel
theorem dX9_hostRead_40 : decode cX9_hostRead 40 = .ok (.istore 5, 2) := by decide +kernel
theorem dX9_hostRead_42 : decode cX9_hostRead 42 = .ok (.iload 5, 2) := by decide +kernel
theorem dX9_hostRead_44 : decode cX9_hostRead 44 = .ok (.iconst (-1), 1) := by decide +kernel
theorem dX9_hostRead_45 : decode cX9_hostRead 45 = .ok (.if_icmp .ne 23, 3) := by decide +kernel
theorem dX9_hostRead_48 : decode cX9_hostRead 48 = .ok (.aload_n 0, 1) := by decide +kernel
theorem dX9_hostRead_49 : decode cX9_hostRead 49 = .ok (.getfield 33, 3) := by decide +kernel
theorem dX9_hostRead_52 : decode cX9_hostRead 52 = .ok (.getfield 154, 3) := by decide +kernel
theorem dX9_hostRead_55 : decode cX9_hostRead 55 = .ok (.getfield 158, 3) := by decide +kernel
theorem dX9_hostRead_58 : decode cX9_hostRead 58 = .ok (.iload_n 1, 1) := by decide +kernel
theorem dX9_hostRead_59 : decode cX9_hostRead 59 = .ok (.iload_n 2, 1) := by decide +kernel
theorem dX9_hostRead_60 : decode cX9_hostRead 60 = .ok (.iload_n 3, 1) := by decide +kernel
theorem dX9_hostRead_61 : decode cX9_hostRead 61 = .ok (.invokestatic 163, 3) := by decide +kernel
theorem dX9_hostRead_64 : decode cX9_hostRead 64 = .ok (.iaload, 1) := by decide +kernel
theorem dX9_hostRead_65 : decode cX9_hostRead 65 = .ok (.goto 16, 3) := by decide +kernel
theorem dX9_hostRead_68 : decode cX9_hostRead 68 = .ok (.aload 4, 2) := by decide +kernel
theorem dX9_hostRead_70 : decode cX9_hostRead 70 = .ok (.getfield 199, 3) := by decide +kernel
theorem dX9_hostRead_73 : decode cX9_hostRead 73 = .ok (.iload 5, 2) := by decide +kernel
theorem dX9_hostRead_75 : decode cX9_hostRead 75 = .ok (.bipush 8, 2) := by decide +kernel
theorem dX9_hostRead_77 : decode cX9_hostRead 77 = .ok (.imul, 1) := by decide +kernel
theorem dX9_hostRead_78 : decode cX9_hostRead 78 = .ok (.iload_n 3, 1) := by decide +kernel
theorem dX9_hostRead_79 : decode cX9_hostRead 79 = .ok (.iadd, 1) := by decide +kernel
theorem dX9_hostRead_80 : decode cX9_hostRead 80 = .ok (.iaload, 1) := by decide +kernel
theorem dX9_hostRead_81 : decode cX9_hostRead 81 = .ok (.ireturn, 1) := by decide +kernel
theorem dX9_hostWrite_0 : decode cX9_hostWrite 0 = .ok (.aload_n 0, 1) := by decide +kernel
theorem dX9_hostWrite_1 : decode cX9_hostWrite 1 = .ok (.iload_n 1, 1) := by decide +kernel
theorem dX9_hostWrite_2 : decode cX9_hostWrite 2 = .ok (.iload_n 2, 1) := by decide +kernel
theorem dX9_hostWrite_3 : decode cX9_hostWrite 3 = .ok (.iload_n 3, 1) := by decide +kernel
theorem dX9_hostWrite_4 : decode cX9_hostWrite 4 = .ok (.invokevirtual 150, 3) := by decide +kernel
theorem dX9_hostWrite_7 : decode cX9_hostWrite 7 = .ok (.aload_n 0, 1) := by decide +kernel
theorem dX9_hostWrite_8 : decode cX9_hostWrite 8 = .ok (.getfield 33, 3) := by decide +kernel
theorem dX9_hostWrite_11 : decode cX9_hostWrite 11 = .ok (.getfield 126, 3) := by decide +kernel
theorem dX9_hostWrite_14 : decode cX9_hostWrite 14 = .ok (.astore 5, 2) := by decide +kernel
theorem dX9_hostWrite_16 : decode cX9_hostWrite 16 = .ok (.aload 5, 2) := by decide +kernel
theorem dX9_hostWrite_18 : decode cX9_hostWrite 18 = .ok (.iload_n 1, 1) := by decide +kernel
theorem dX9_hostWrite_19 : decode cX9_hostWrite 19 = .ok (.iload_n 2, 1) := by decide +kernel
theorem dX9_hostWrite_20 : decode cX9_hostWrite 20 = .ok (.aload_n 0, 1) := by decide +kernel
theorem dX9_hostWrite_21 : decode cX9_hostWrite 21 = .ok (.getfield 23, 3) := by decide +kernel
theorem dX9_hostWrite_24 : decode cX9_hostWrite 24 = .ok (.getfield 192, 3) := by decide +kernel
theorem dX9_hostWrite_27 : decode cX9_hostWrite 27 = .ok (.bipush 7, 2) := by decide +kernel
theorem dX9_hostWrite_29 : decode cX9_hostWrite 29 = .ok (.iaload, 1) := by decide +kernel
theorem dX9_hostWrite_30 : decode cX9_hostWrite 30 = .ok (.aload_n 0, 1) := by decide +kernel
theorem dX9_hostWrite_31 : decode cX9_hostWrite 31 = .ok (.getfield 33, 3) := by decide +kernel
theorem dX9_hostWrite_34 : decode cX9_hostWrite 34 = .ok (.getfield 154, 3) := by decide +kernel
theorem dX9_hostWrite_37 : decode cX9_hostWrite 37 = .ok (.invokevirtual 195, 3) := by decide +kernel
theorem dX9_hostWrite_40 : decode cX9_hostWrite 40 = .ok (.istore 6, 2) := by decide +kernel
theorem dX9_hostWrite_42 : decode cX9_hostWrite 42 = .ok (.iload 6, 2) := by decide +kernel
theorem dX9_hostWrite_44 : decode cX9_hostWrite 44 = .ok (.iconst (-1), 1) := by decide +kernel
theorem dX9_hostWrite_45 : decode cX9_hostWrite 45 = .ok (.if_icmp .ne 44, 3) := by decide +kernel
theorem dX9_hostWrite_48 : decode cX9_hostWrite 48 = .ok (.aload_n 0, 1) := by decide +kernel
theorem dX9_hostWrite_49 : decode cX9_hostWrite 49 = .ok (.getfield 33, 3) := by decide +kernel
theorem dX9_hostWrite_52 : decode cX9_hostWrite 52 = .ok (.getfield 154, 3) := by decide +kernel
theorem dX9_hostWrite_55 : decode cX9_hostWrite 55 = .ok (.getfield 158, 3) := by decide +kernel
theorem dX9_hostWrite_58 : decode cX9_hostWrite 58 = .ok (.iload_n 1, 1) := by decide +kernel
theorem dX9_hostWrite_59 : decode cX9_hostWrite 59 = .ok (.iload_n 2, 1) := by decide +kernel
theorem dX9_hostWrite_60 : decode cX9_hostWrite 60 = .ok (.iload_n 3, 1) := by decide +kernel
theorem dX9_hostWrite_61 : decode cX9_hostWrite 61 = .ok (.invokestatic 163, 3) := by decide +kernel
theorem dX9_hostWrite_64 : decode cX9_hostWrite 64 = .ok (.iaload, 1) := by decide +kernel
theorem dX9_hostWrite_65 : decode cX9_hostWrite 65 = .ok (.istore 7, 2) := by decide +kernel
theorem dX9_hostWrite_67 : decode cX9_hostWrite 67 = .ok (.aload_n 0, 1) := by decide +kernel
theorem dX9_hostWrite_68 : decode cX9_hostWrite 68 = .ok (.getfield 33, 3) := by decide +kernel
theorem dX9_hostWrite_71 : decode cX9_hostWrite 71 = .ok (.getfield 154, 3) := by decide +kernel
theorem dX9_hostWrite_74 : decode cX9_hostWrite 74 = .ok (.getfield 158, 3) := by decide +kernel
theorem dX9_hostWrite_77 : decode cX9_hostWrite 77 = .ok (.iload_n 1, 1) := by decide +kernel
theorem dX9_hostWrite_78 : decode cX9_hostWrite 78 = .ok (.iload_n 2, 1) := by decide +kernel
theorem dX9_hostWrite_79 : decode cX9_hostWrite 79 = .ok (.iload_n 3, 1) := by decide +kernel
theorem dX9_hostWrite_80 : decode cX9_hostWrite 80 = .ok (.invokestatic 163, 3) := by decide +kernel
theorem dX9_hostWrite_83 : decode cX9_hostWrite 83 = .ok (.iload 4, 2) := by decide +kernel
theorem dX9_hostWrite_85 : decode cX9_hostWrite 85 = .ok (.iastore, 1) := by decide +kernel
theorem dX9_hostWrite_86 : decode cX9_hostWrite 86 = .ok (.goto 42, 3) := by decide +kernel
theorem dX9_hostWrite_89 : decode cX9_hostWrite 89 = .ok (.aload 5, 2) := by decide +kernel
theorem dX9_hostWrite_91 : decode cX9_hostWrite 91 = .ok (.getfield 199, 3) := by decide +kernel
theorem dX9_hostWrite_94 : decode cX9_hostWrite 94 = .ok (.iload 6, 2) := by decide +kernel
theorem dX9_hostWrite_96 : decode cX9_hostWrite 96 = .ok (.bipush 8, 2) := by decide +kernel
theorem dX9_hostWrite_98 : decode cX9_hostWrite 98 = .ok (.imul, 1) := by decide +kernel
theorem dX9_hostWrite_99 : decode cX9_hostWrite 99 = .ok (.iload_n 3, 1) := by decide +kernel
theorem dX9_hostWrite_100 : decode cX9_hostWrite 100 = .ok (.iadd, 1) := by decide +kernel
theorem dX9_hostWrite_101 : decode cX9_hostWrite 101 = .ok (.iaload, 1) := by decide +kernel
theorem dX9_hostWrite_102 : decode cX9_hostWrite 102 = .ok (.istore 7, 2) := by decide +kernel
theorem dX9_hostWrite_104 : decode cX9_hostWrite 104 = .ok (.aload 5, 2) := by decide +kernel
theorem dX9_hostWrite_106 : decode cX9_hostWrite 106 = .ok (.getfield 199, 3) := by decide +kernel
theorem dX9_hostWrite_109 : decode cX9_hostWrite 109 = .ok (.iload 6, 2) := by decide +kernel
theorem dX9_hostWrite_111 : decode cX9_hostWrite 111 = .ok (.bipush 8, 2) := by decide +kernel
theorem dX9_hostWrite_113 : decode cX9_hostWrite 113 = .ok (.imul, 1) := by decide +kernel
theorem dX9_hostWrite_114 : decode cX9_hostWrite 114 = .ok (.iload_n 3, 1) := by decide +kernel
theorem dX9_hostWrite_115 : decode cX9_hostWrite 115 = .ok (.iadd, 1) := by decide +kernel
theorem dX9_hostWrite_116 : decode cX9_hostWrite 116 = .ok (.iload 4, 2) := by decide +kernel
theorem dX9_hostWrite_118 : decode cX9_hostWrite 118 = .ok (.iastore, 1) := by decide +kernel
theorem dX9_hostWrite_119 : decode cX9_hostWrite 119 = .ok (.aload 5, 2) := by decide +kernel
theorem dX9_hostWrite_121 : decode cX9_hostWrite 121 = .ok (.getfield 200, 3) := by decide +kernel
theorem dX9_hostWrite_124 : decode cX9_hostWrite 124 = .ok (.iload 6, 2) := by decide +kernel
theorem dX9_hostWrite_126 : decode cX9_hostWrite 126 = .ok (.iconst 1, 1) := by decide +kernel
theorem dX9_hostWrite_127 : decode cX9_hostWrite 127 = .ok (.bastore, 1) := by decide +kernel
theorem dX9_hostWrite_128 : decode cX9_hostWrite 128 = .ok (.iload 7, 2) := by decide +kernel
theorem dX9_hostWrite_130 : decode cX9_hostWrite 130 = .ok (.ireturn, 1) := by decide +kernel
theorem dX9_flush_0 : decode cX9_flush 0 = .ok (.aload_n 0, 1) := by decide +kernel
theorem dX9_flush_1 : decode cX9_flush 1 = .ok (.iload_n 1, 1) := by decide +kernel
theorem dX9_flush_2 : decode cX9_flush 2 = .ok (.iload_n 2, 1) := by decide +kernel
theorem dX9_flush_3 : decode cX9_flush 3 = .ok (.invokevirtual 167, 3) := by decide +kernel
theorem dX9_flush_6 : decode cX9_flush 6 = .ok (.aload_n 0, 1) := by decide +kernel
theorem dX9_flush_7 : decode cX9_flush 7 = .ok (.getfield 33, 3) := by decide +kernel
theorem dX9_flush_10 : decode cX9_flush 10 = .ok (.getfield 126, 3) := by decide +kernel
theorem dX9_flush_13 : decode cX9_flush 13 = .ok (.aload_n 0, 1) := by decide +kernel
theorem dX9_flush_14 : decode cX9_flush 14 = .ok (.getfield 33, 3) := by decide +kernel
theorem dX9_flush_17 : decode cX9_flush 17 = .ok (.getfield 126, 3) := by decide +kernel
theorem dX9_flush_20 : decode cX9_flush 20 = .ok (.iload_n 1, 1) := by decide +kernel
theorem dX9_flush_21 : decode cX9_flush 21 = .ok (.iload_n 2, 1) := by decide +kernel
theorem dX9_flush_22 : decode cX9_flush 22 = .ok (.invokevirtual 175, 3) := by decide +kernel
theorem dX9_flush_25 : decode cX9_flush 25 = .ok (.aload_n 0, 1) := by decide +kernel
theorem dX9_flush_26 : decode cX9_flush 26 = .ok (.getfield 33, 3) := by decide +kernel
theorem dX9_flush_29 : decode cX9_flush 29 = .ok (.getfield 154, 3) := by decide +kernel
theorem dX9_flush_32 : decode cX9_flush 32 = .ok (.invokevirtual 204, 3) := by decide +kernel
theorem dX9_flush_35 : decode cX9_flush 35 = .ok (.ireturn, 1) := by decide +kernel
theorem dX9_flushAll_0 : decode cX9_flushAll 0 = .ok (.iconst 0, 1) := by decide +kernel
theorem dX9_flushAll_1 : decode cX9_flushAll 1 = .ok (.istore_n 1, 1) := by decide +kernel
theorem dX9_flushAll_2 : decode cX9_flushAll 2 = .ok (.iconst 0, 1) := by decide +kernel
theorem dX9_flushAll_3 : decode cX9_flushAll 3 = .ok (.istore_n 2, 1) := by decide +kernel
theorem dX9_flushAll_4 : decode cX9_flushAll 4 = .ok (.iload_n 2, 1) := by decide +kernel
theorem dX9_flushAll_5 : decode cX9_flushAll 5 = .ok (.bipush 8, 2) := by decide +kernel
theorem dX9_flushAll_7 : decode cX9_flushAll 7 = .ok (.if_icmp .ge 33, 3) := by decide +kernel
theorem dX9_flushAll_10 : decode cX9_flushAll 10 = .ok (.aload_n 0, 1) := by decide +kernel
theorem dX9_flushAll_11 : decode cX9_flushAll 11 = .ok (.getfield 33, 3) := by decide +kernel
theorem dX9_flushAll_14 : decode cX9_flushAll 14 = .ok (.getfield 126, 3) := by decide +kernel
theorem dX9_flushAll_17 : decode cX9_flushAll 17 = .ok (.iload_n 2, 1) := by decide +kernel
theorem dX9_flushAll_18 : decode cX9_flushAll 18 = .ok (.aload_n 0, 1) := by decide +kernel
theorem dX9_flushAll_19 : decode cX9_flushAll 19 = .ok (.getfield 33, 3) := by decide +kernel
theorem dX9_flushAll_22 : decode cX9_flushAll 22 = .ok (.getfield 154, 3) := by decide +kernel
theorem dX9_flushAll_25 : decode cX9_flushAll 25 = .ok (.invokevirtual 204, 3) := by decide +kernel
theorem dX9_flushAll_28 : decode cX9_flushAll 28 = .ok (.ifCond .eq 6, 3) := by decide +kernel
theorem dX9_flushAll_31 : decode cX9_flushAll 31 = .ok (.iinc 1 1, 3) := by decide +kernel
theorem dX9_flushAll_34 : decode cX9_flushAll 34 = .ok (.iinc 2 1, 3) := by decide +kernel
theorem dX9_flushAll_37 : decode cX9_flushAll 37 = .ok (.goto (-33), 3) := by decide +kernel
theorem dX9_flushAll_40 : decode cX9_flushAll 40 = .ok (.iload_n 1, 1) := by decide +kernel
theorem dX9_flushAll_41 : decode cX9_flushAll 41 = .ok (.ireturn, 1) := by decide +kernel
theorem dX9_invalidate_0 : decode cX9_invalidate 0 = .ok (.aload_n 0, 1) := by decide +kernel
theorem dX9_invalidate_1 : decode cX9_invalidate 1 = .ok (.iload_n 1, 1) := by decide +kernel
theorem dX9_invalidate_2 : decode cX9_invalidate 2 = .ok (.iload_n 2, 1) := by decide +kernel
theorem dX9_invalidate_3 : decode cX9_invalidate 3 = .ok (.invokevirtual 167, 3) := by decide +kernel
theorem dX9_invalidate_6 : decode cX9_invalidate 6 = .ok (.aload_n 0, 1) := by decide +kernel
theorem dX9_invalidate_7 : decode cX9_invalidate 7 = .ok (.getfield 33, 3) := by decide +kernel
theorem dX9_invalidate_10 : decode cX9_invalidate 10 = .ok (.getfield 126, 3) := by decide +kernel
theorem dX9_invalidate_13 : decode cX9_invalidate 13 = .ok (.aload_n 0, 1) := by decide +kernel
theorem dX9_invalidate_14 : decode cX9_invalidate 14 = .ok (.getfield 33, 3) := by decide +kernel
theorem dX9_invalidate_17 : decode cX9_invalidate 17 = .ok (.getfield 126, 3) := by decide +kernel
theorem dX9_invalidate_20 : decode cX9_invalidate 20 = .ok (.iload_n 1, 1) := by decide +kernel
theorem dX9_invalidate_21 : decode cX9_invalidate 21 = .ok (.iload_n 2, 1) := by decide +kernel
theorem dX9_invalidate_22 : decode cX9_invalidate 22 = .ok (.invokevirtual 175, 3) := by decide +kernel
theorem dX9_invalidate_25 : decode cX9_invalidate 25 = .ok (.invokevirtual 179, 3) := by decide +kernel
theorem dX9_invalidate_28 : decode cX9_invalidate 28 = .ok (.ireturn, 1) := by decide +kernel
theorem dX9_line_0 : decode cX9_line 0 = .ok (.aload_n 0, 1) := by decide +kernel
theorem dX9_line_1 : decode cX9_line 1 = .ok (.iload_n 1, 1) := by decide +kernel
theorem dX9_line_2 : decode cX9_line 2 = .ok (.iload_n 2, 1) := by decide +kernel
theorem dX9_line_3 : decode cX9_line 3 = .ok (.invokevirtual 167, 3) := by decide +kernel
theorem dX9_line_6 : decode cX9_line 6 = .ok (.aload_n 0, 1) := by decide +kernel
theorem dX9_line_7 : decode cX9_line 7 = .ok (.getfield 33, 3) := by decide +kernel
theorem dX9_line_10 : decode cX9_line 10 = .ok (.getfield 126, 3) := by decide +kernel
theorem dX9_line_13 : decode cX9_line 13 = .ok (.iload_n 1, 1) := by decide +kernel
theorem dX9_line_14 : decode cX9_line 14 = .ok (.iload_n 2, 1) := by decide +kernel
theorem dX9_line_15 : decode cX9_line 15 = .ok (.invokevirtual 175, 3) := by decide +kernel
theorem dX9_line_18 : decode cX9_line 18 = .ok (.istore_n 3, 1) := by decide +kernel
theorem dX9_line_19 : decode cX9_line 19 = .ok (.iload_n 3, 1) := by decide +kernel
theorem dX9_line_20 : decode cX9_line 20 = .ok (.iconst (-1), 1) := by decide +kernel
theorem dX9_line_21 : decode cX9_line 21 = .ok (.if_icmp .ne 5, 3) := by decide +kernel
theorem dX9_line_24 : decode cX9_line 24 = .ok (.iconst 0, 1) := by decide +kernel
theorem dX9_line_25 : decode cX9_line 25 = .ok (.ireturn, 1) := by decide +kernel
theorem dX9_line_26 : decode cX9_line 26 = .ok (.aload_n 0, 1) := by decide +kernel
theorem dX9_line_27 : decode cX9_line 27 = .ok (.getfield 33, 3) := by decide +kernel
theorem dX9_line_30 : decode cX9_line 30 = .ok (.getfield 126, 3) := by decide +kernel
theorem dX9_line_33 : decode cX9_line 33 = .ok (.getfield 200, 3) := by decide +kernel
theorem dX9_line_36 : decode cX9_line 36 = .ok (.iload_n 3, 1) := by decide +kernel
theorem dX9_line_37 : decode cX9_line 37 = .ok (.baload, 1) := by decide +kernel
theorem dX9_line_38 : decode cX9_line 38 = .ok (.ifCond .eq 7, 3) := by decide +kernel
theorem dX9_line_41 : decode cX9_line 41 = .ok (.iconst 2, 1) := by decide +kernel
theorem dX9_line_42 : decode cX9_line 42 = .ok (.goto 4, 3) := by decide +kernel
theorem dX9_line_45 : decode cX9_line 45 = .ok (.iconst 1, 1) := by decide +kernel
theorem dX9_line_46 : decode cX9_line 46 = .ok (.istore 4, 2) := by decide +kernel
theorem dX9_line_48 : decode cX9_line 48 = .ok (.aload_n 0, 1) := by decide +kernel
theorem dX9_line_49 : decode cX9_line 49 = .ok (.getfield 33, 3) := by decide +kernel
theorem dX9_line_52 : decode cX9_line 52 = .ok (.getfield 126, 3) := by decide +kernel
theorem dX9_line_55 : decode cX9_line 55 = .ok (.iload_n 3, 1) := by decide +kernel
theorem dX9_line_56 : decode cX9_line 56 = .ok (.aload_n 0, 1) := by decide +kernel
theorem dX9_line_57 : decode cX9_line 57 = .ok (.getfield 23, 3) := by decide +kernel
theorem dX9_line_60 : decode cX9_line 60 = .ok (.getfield 111, 3) := by decide +kernel
theorem dX9_line_63 : decode cX9_line 63 = .ok (.aload_n 0, 1) := by decide +kernel
theorem dX9_line_64 : decode cX9_line 64 = .ok (.getfield 33, 3) := by decide +kernel
theorem dX9_line_67 : decode cX9_line 67 = .ok (.getfield 154, 3) := by decide +kernel
theorem dX9_line_70 : decode cX9_line 70 = .ok (.invokevirtual 208, 3) := by decide +kernel
theorem dX9_line_73 : decode cX9_line 73 = .ok (.ifCond .eq 10, 3) := by decide +kernel
theorem dX9_line_76 : decode cX9_line 76 = .ok (.iload 4, 2) := by decide +kernel
theorem dX9_line_78 : decode cX9_line 78 = .ok (.iconst 4, 1) := by decide +kernel
theorem dX9_line_79 : decode cX9_line 79 = .ok (.iadd, 1) := by decide +kernel
theorem dX9_line_80 : decode cX9_line 80 = .ok (.goto 5, 3) := by decide +kernel
theorem dX9_line_83 : decode cX9_line 83 = .ok (.iload 4, 2) := by decide +kernel
theorem dX9_line_85 : decode cX9_line 85 = .ok (.ireturn, 1) := by decide +kernel
theorem dX9_cache_0 : decode cX9_cache 0 = .ok (.iload_n 1, 1) := by decide +kernel
theorem dX9_cache_1 : decode cX9_cache 1 = .ok (.tableswitch 60 0 2 #[27, 38, 49], 27) := by decide +kernel
theorem dX9_cache_28 : decode cX9_cache 28 = .ok (.aload_n 0, 1) := by decide +kernel
theorem dX9_cache_29 : decode cX9_cache 29 = .ok (.getfield 33, 3) := by decide +kernel
theorem dX9_cache_32 : decode cX9_cache 32 = .ok (.getfield 126, 3) := by decide +kernel
theorem dX9_cache_35 : decode cX9_cache 35 = .ok (.getfield 212, 3) := by decide +kernel
theorem dX9_cache_38 : decode cX9_cache 38 = .ok (.ireturn, 1) := by decide +kernel
theorem dX9_cache_39 : decode cX9_cache 39 = .ok (.aload_n 0, 1) := by decide +kernel
theorem dX9_cache_40 : decode cX9_cache 40 = .ok (.getfield 33, 3) := by decide +kernel
theorem dX9_cache_43 : decode cX9_cache 43 = .ok (.getfield 126, 3) := by decide +kernel
theorem dX9_cache_46 : decode cX9_cache 46 = .ok (.getfield 215, 3) := by decide +kernel
theorem dX9_cache_49 : decode cX9_cache 49 = .ok (.ireturn, 1) := by decide +kernel
theorem dX9_cache_50 : decode cX9_cache 50 = .ok (.aload_n 0, 1) := by decide +kernel
theorem dX9_cache_51 : decode cX9_cache 51 = .ok (.getfield 33, 3) := by decide +kernel
theorem dX9_cache_54 : decode cX9_cache 54 = .ok (.getfield 126, 3) := by decide +kernel
theorem dX9_cache_57 : decode cX9_cache 57 = .ok (.getfield 218, 3) := by decide +kernel
theorem dX9_cache_60 : decode cX9_cache 60 = .ok (.ireturn, 1) := by decide +kernel
theorem dX9_cache_61 : decode cX9_cache 61 = .ok (.new 91, 3) := by decide +kernel
theorem dX9_cache_64 : decode cX9_cache 64 = .ok (.dup, 1) := by decide +kernel
theorem dX9_cache_65 : decode cX9_cache 65 = .ok (.ldc 221, 2) := by decide +kernel
theorem dX9_cache_67 : decode cX9_cache 67 = .ok (.invokespecial 95, 3) := by decide +kernel
theorem dX9_cache_70 : decode cX9_cache 70 = .ok (.athrow, 1) := by decide +kernel
theorem dX9_setCoherence_0 : decode cX9_setCoherence 0 = .ok (.aload_n 0, 1) := by decide +kernel
theorem dX9_setCoherence_1 : decode cX9_setCoherence 1 = .ok (.getfield 33, 3) := by decide +kernel
theorem dX9_setCoherence_4 : decode cX9_setCoherence 4 = .ok (.getfield 171, 3) := by decide +kernel
theorem dX9_setCoherence_7 : decode cX9_setCoherence 7 = .ok (.istore_n 2, 1) := by decide +kernel
theorem dX9_setCoherence_8 : decode cX9_setCoherence 8 = .ok (.aload_n 0, 1) := by decide +kernel
theorem dX9_setCoherence_9 : decode cX9_setCoherence 9 = .ok (.getfield 33, 3) := by decide +kernel
theorem dX9_setCoherence_12 : decode cX9_setCoherence 12 = .ok (.iload_n 1, 1) := by decide +kernel
theorem dX9_setCoherence_13 : decode cX9_setCoherence 13 = .ok (.putfield 171, 3) := by decide +kernel
theorem dX9_setCoherence_16 : decode cX9_setCoherence 16 = .ok (.iload_n 2, 1) := by decide +kernel
theorem dX9_setCoherence_17 : decode cX9_setCoherence 17 = .ok (.ireturn, 1) := by decide +kernel
theorem dX9_submit_0 : decode cX9_submit 0 = .ok (.aload_n 0, 1) := by decide +kernel
theorem dX9_submit_1 : decode cX9_submit 1 = .ok (.iload_n 1, 1) := by decide +kernel
theorem dX9_submit_2 : decode cX9_submit 2 = .ok (.invokevirtual 138, 3) := by decide +kernel
theorem dX9_submit_5 : decode cX9_submit 5 = .ok (.aload_n 0, 1) := by decide +kernel
theorem dX9_submit_6 : decode cX9_submit 6 = .ok (.getfield 33, 3) := by decide +kernel
theorem dX9_submit_9 : decode cX9_submit 9 = .ok (.getfield 114, 3) := by decide +kernel
theorem dX9_submit_12 : decode cX9_submit 12 = .ok (.getfield 118, 3) := by decide +kernel
theorem dX9_submit_15 : decode cX9_submit 15 = .ok (.bipush 16, 2) := by decide +kernel
theorem dX9_submit_17 : decode cX9_submit 17 = .ok (.if_icmp .lt 13, 3) := by decide +kernel
theorem dX9_submit_20 : decode cX9_submit 20 = .ok (.new 62, 3) := by decide +kernel
theorem dX9_submit_23 : decode cX9_submit 23 = .ok (.dup, 1) := by decide +kernel
theorem dX9_submit_24 : decode cX9_submit 24 = .ok (.ldc 223, 2) := by decide +kernel
theorem dX9_submit_26 : decode cX9_submit 26 = .ok (.invokespecial 66, 3) := by decide +kernel
theorem dX9_submit_29 : decode cX9_submit 29 = .ok (.athrow, 1) := by decide +kernel
theorem dX9_submit_30 : decode cX9_submit 30 = .ok (.aload_n 0, 1) := by decide +kernel
theorem dX9_submit_31 : decode cX9_submit 31 = .ok (.getfield 33, 3) := by decide +kernel
theorem dX9_submit_34 : decode cX9_submit 34 = .ok (.getfield 114, 3) := by decide +kernel
theorem dX9_submit_37 : decode cX9_submit 37 = .ok (.iload_n 1, 1) := by decide +kernel
theorem dX9_submit_38 : decode cX9_submit 38 = .ok (.invokevirtual 225, 3) := by decide +kernel
theorem dX9_submit_41 : decode cX9_submit 41 = .ok (.aload_n 0, 1) := by decide +kernel
theorem dX9_submit_42 : decode cX9_submit 42 = .ok (.getfield 47, 3) := by decide +kernel
theorem dX9_submit_45 : decode cX9_submit 45 = .ok (.invokevirtual 96, 3) := by decide +kernel
theorem dX9_submit_48 : decode cX9_submit 48 = .ok (.aload_n 0, 1) := by decide +kernel
theorem dX9_submit_49 : decode cX9_submit 49 = .ok (.getfield 33, 3) := by decide +kernel
theorem dX9_submit_52 : decode cX9_submit 52 = .ok (.getfield 114, 3) := by decide +kernel
theorem dX9_submit_55 : decode cX9_submit 55 = .ok (.getfield 118, 3) := by decide +kernel
theorem dX9_submit_58 : decode cX9_submit 58 = .ok (.ireturn, 1) := by decide +kernel
theorem dX9_queued_0 : decode cX9_queued 0 = .ok (.iload_n 1, 1) := by decide +kernel
theorem dX9_queued_1 : decode cX9_queued 1 = .ok (.ifCond .lt 17, 3) := by decide +kernel
theorem dX9_queued_4 : decode cX9_queued 4 = .ok (.iload_n 1, 1) := by decide +kernel
theorem dX9_queued_5 : decode cX9_queued 5 = .ok (.aload_n 0, 1) := by decide +kernel
theorem dX9_queued_6 : decode cX9_queued 6 = .ok (.getfield 33, 3) := by decide +kernel
theorem dX9_queued_9 : decode cX9_queued 9 = .ok (.getfield 114, 3) := by decide +kernel
theorem dX9_queued_12 : decode cX9_queued 12 = .ok (.getfield 118, 3) := by decide +kernel
theorem dX9_queued_15 : decode cX9_queued 15 = .ok (.if_icmp .lt 13, 3) := by decide +kernel
theorem dX9_queued_18 : decode cX9_queued 18 = .ok (.new 73, 3) := by decide +kernel
theorem dX9_queued_21 : decode cX9_queued 21 = .ok (.dup, 1) := by decide +kernel
theorem dX9_queued_22 : decode cX9_queued 22 = .ok (.ldc 228, 2) := by decide +kernel
theorem dX9_queued_24 : decode cX9_queued 24 = .ok (.invokespecial 77, 3) := by decide +kernel
theorem dX9_queued_27 : decode cX9_queued 27 = .ok (.athrow, 1) := by decide +kernel
theorem dX9_queued_28 : decode cX9_queued 28 = .ok (.aload_n 0, 1) := by decide +kernel
theorem dX9_queued_29 : decode cX9_queued 29 = .ok (.getfield 33, 3) := by decide +kernel
theorem dX9_queued_32 : decode cX9_queued 32 = .ok (.getfield 114, 3) := by decide +kernel
theorem dX9_queued_35 : decode cX9_queued 35 = .ok (.getfield 230, 3) := by decide +kernel
theorem dX9_queued_38 : decode cX9_queued 38 = .ok (.iload_n 1, 1) := by decide +kernel
theorem dX9_queued_39 : decode cX9_queued 39 = .ok (.iaload, 1) := by decide +kernel
theorem dX9_queued_40 : decode cX9_queued 40 = .ok (.ireturn, 1) := by decide +kernel
theorem dX9_run_0 : decode cX9_run 0 = .ok (.iload_n 1, 1) := by decide +kernel
theorem dX9_run_1 : decode cX9_run 1 = .ok (.iconst 1, 1) := by decide +kernel
theorem dX9_run_2 : decode cX9_run 2 = .ok (.if_icmp .lt 9, 3) := by decide +kernel
theorem dX9_run_5 : decode cX9_run 5 = .ok (.iload_n 1, 1) := by decide +kernel
theorem dX9_run_6 : decode cX9_run 6 = .ok (.bipush 16, 2) := by decide +kernel
theorem dX9_run_8 : decode cX9_run 8 = .ok (.if_icmp .le 13, 3) := by decide +kernel
theorem dX9_run_11 : decode cX9_run 11 = .ok (.new 91, 3) := by decide +kernel
theorem dX9_run_14 : decode cX9_run 14 = .ok (.dup, 1) := by decide +kernel
theorem dX9_run_15 : decode cX9_run 15 = .ok (.ldc 233, 2) := by decide +kernel
theorem dX9_run_17 : decode cX9_run 17 = .ok (.invokespecial 95, 3) := by decide +kernel
theorem dX9_run_20 : decode cX9_run 20 = .ok (.athrow, 1) := by decide +kernel
theorem dX9_run_21 : decode cX9_run 21 = .ok (.iload_n 1, 1) := by decide +kernel
theorem dX9_run_22 : decode cX9_run 22 = .ok (.aload_n 0, 1) := by decide +kernel
theorem dX9_run_23 : decode cX9_run 23 = .ok (.getfield 33, 3) := by decide +kernel
theorem dX9_run_26 : decode cX9_run 26 = .ok (.getfield 114, 3) := by decide +kernel
theorem dX9_run_29 : decode cX9_run 29 = .ok (.getfield 118, 3) := by decide +kernel
theorem dX9_run_32 : decode cX9_run 32 = .ok (.invokestatic 235, 3) := by decide +kernel
theorem dX9_run_35 : decode cX9_run 35 = .ok (.istore_n 2, 1) := by decide +kernel
theorem dX9_run_36 : decode cX9_run 36 = .ok (.iconst 0, 1) := by decide +kernel
theorem dX9_run_37 : decode cX9_run 37 = .ok (.istore_n 3, 1) := by decide +kernel
theorem dX9_run_38 : decode cX9_run 38 = .ok (.iload_n 3, 1) := by decide +kernel
theorem dX9_run_39 : decode cX9_run 39 = .ok (.iload_n 2, 1) := by decide +kernel
theorem dX9_run_40 : decode cX9_run 40 = .ok (.if_icmp .ge 20, 3) := by decide +kernel
theorem dX9_run_43 : decode cX9_run 43 = .ok (.aload_n 0, 1) := by decide +kernel
theorem dX9_run_44 : decode cX9_run 44 = .ok (.getfield 33, 3) := by decide +kernel
theorem dX9_run_47 : decode cX9_run 47 = .ok (.aload_n 0, 1) := by decide +kernel
theorem dX9_run_48 : decode cX9_run 48 = .ok (.getfield 23, 3) := by decide +kernel
theorem dX9_run_51 : decode cX9_run 51 = .ok (.invokevirtual 240, 3) := by decide +kernel
theorem dX9_run_54 : decode cX9_run 54 = .ok (.iinc 3 1, 3) := by decide +kernel
theorem dX9_run_57 : decode cX9_run 57 = .ok (.goto (-19), 3) := by decide +kernel
theorem dX9_run_60 : decode cX9_run 60 = .ok (.aload_n 0, 1) := by decide +kernel
theorem dX9_run_61 : decode cX9_run 61 = .ok (.getfield 47, 3) := by decide +kernel
theorem dX9_run_64 : decode cX9_run 64 = .ok (.invokevirtual 96, 3) := by decide +kernel
theorem dX9_run_67 : decode cX9_run 67 = .ok (.iload_n 2, 1) := by decide +kernel
theorem dX9_run_68 : decode cX9_run 68 = .ok (.ireturn, 1) := by decide +kernel
theorem dX9_runOf_0 : decode cX9_runOf 0 = .ok (.aload_n 0, 1) := by decide +kernel
theorem dX9_runOf_1 : decode cX9_runOf 1 = .ok (.getfield 33, 3) := by decide +kernel
theorem dX9_runOf_4 : decode cX9_runOf 4 = .ok (.getfield 114, 3) := by decide +kernel
theorem dX9_runOf_7 : decode cX9_runOf 7 = .ok (.getfield 123, 3) := by decide +kernel
theorem dX9_runOf_10 : decode cX9_runOf 10 = .ok (.istore_n 3, 1) := by decide +kernel
theorem dX9_runOf_11 : decode cX9_runOf 11 = .ok (.iload_n 1, 1) := by decide +kernel
theorem dX9_runOf_12 : decode cX9_runOf 12 = .ok (.ifCond .lt 16, 3) := by decide +kernel
theorem dX9_runOf_15 : decode cX9_runOf 15 = .ok (.iload_n 1, 1) := by decide +kernel
theorem dX9_runOf_16 : decode cX9_runOf 16 = .ok (.iload_n 3, 1) := by decide +kernel
theorem dX9_runOf_17 : decode cX9_runOf 17 = .ok (.if_icmp .ge 11, 3) := by decide +kernel
theorem dX9_runOf_20 : decode cX9_runOf 20 = .ok (.iload_n 1, 1) := by decide +kernel
theorem dX9_runOf_21 : decode cX9_runOf 21 = .ok (.iload_n 3, 1) := by decide +kernel
theorem dX9_runOf_22 : decode cX9_runOf 22 = .ok (.bipush 40, 2) := by decide +kernel
theorem dX9_runOf_24 : decode cX9_runOf 24 = .ok (.isub, 1) := by decide +kernel
theorem dX9_runOf_25 : decode cX9_runOf 25 = .ok (.if_icmp .ge 13, 3) := by decide +kernel
theorem dX9_runOf_28 : decode cX9_runOf 28 = .ok (.new 73, 3) := by decide +kernel
theorem dX9_runOf_31 : decode cX9_runOf 31 = .ok (.dup, 1) := by decide +kernel
theorem dX9_runOf_32 : decode cX9_runOf 32 = .ok (.ldc 244, 2) := by decide +kernel
theorem dX9_runOf_34 : decode cX9_runOf 34 = .ok (.invokespecial 77, 3) := by decide +kernel
theorem dX9_runOf_37 : decode cX9_runOf 37 = .ok (.athrow, 1) := by decide +kernel
theorem dX9_runOf_38 : decode cX9_runOf 38 = .ok (.iload_n 2, 1) := by decide +kernel
theorem dX9_runOf_39 : decode cX9_runOf 39 = .ok (.ifCond .lt 8, 3) := by decide +kernel
theorem dX9_runOf_42 : decode cX9_runOf 42 = .ok (.iload_n 2, 1) := by decide +kernel
theorem dX9_runOf_43 : decode cX9_runOf 43 = .ok (.iconst 3, 1) := by decide +kernel
theorem dX9_runOf_44 : decode cX9_runOf 44 = .ok (.if_icmp .lt 13, 3) := by decide +kernel
theorem dX9_runOf_47 : decode cX9_runOf 47 = .ok (.new 91, 3) := by decide +kernel
theorem dX9_runOf_50 : decode cX9_runOf 50 = .ok (.dup, 1) := by decide +kernel
theorem dX9_runOf_51 : decode cX9_runOf 51 = .ok (.ldc 246, 2) := by decide +kernel
theorem dX9_runOf_53 : decode cX9_runOf 53 = .ok (.invokespecial 95, 3) := by decide +kernel
theorem dX9_runOf_56 : decode cX9_runOf 56 = .ok (.athrow, 1) := by decide +kernel
theorem dX9_runOf_57 : decode cX9_runOf 57 = .ok (.aload_n 0, 1) := by decide +kernel
theorem dX9_runOf_58 : decode cX9_runOf 58 = .ok (.getfield 33, 3) := by decide +kernel
theorem dX9_runOf_61 : decode cX9_runOf 61 = .ok (.getfield 114, 3) := by decide +kernel
theorem dX9_runOf_64 : decode cX9_runOf 64 = .ok (.getfield 248, 3) := by decide +kernel
theorem dX9_runOf_67 : decode cX9_runOf 67 = .ok (.iload_n 1, 1) := by decide +kernel
theorem dX9_runOf_68 : decode cX9_runOf 68 = .ok (.bipush 40, 2) := by decide +kernel
theorem dX9_runOf_70 : decode cX9_runOf 70 = .ok (.irem, 1) := by decide +kernel
theorem dX9_runOf_71 : decode cX9_runOf 71 = .ok (.iconst 3, 1) := by decide +kernel
theorem dX9_runOf_72 : decode cX9_runOf 72 = .ok (.imul, 1) := by decide +kernel
theorem dX9_runOf_73 : decode cX9_runOf 73 = .ok (.iload_n 2, 1) := by decide +kernel
theorem dX9_runOf_74 : decode cX9_runOf 74 = .ok (.iadd, 1) := by decide +kernel
theorem dX9_runOf_75 : decode cX9_runOf 75 = .ok (.iaload, 1) := by decide +kernel
theorem dX9_runOf_76 : decode cX9_runOf 76 = .ok (.ireturn, 1) := by decide +kernel
theorem dX9_clock_0 : decode cX9_clock 0 = .ok (.aload_n 0, 1) := by decide +kernel
theorem dX9_clock_1 : decode cX9_clock 1 = .ok (.iload_n 1, 1) := by decide +kernel
theorem dX9_clock_2 : decode cX9_clock 2 = .ok (.invokevirtual 251, 3) := by decide +kernel
theorem dX9_clock_5 : decode cX9_clock 5 = .ok (.aload_n 0, 1) := by decide +kernel
theorem dX9_clock_6 : decode cX9_clock 6 = .ok (.getfield 33, 3) := by decide +kernel
theorem dX9_clock_9 : decode cX9_clock 9 = .ok (.getfield 254, 3) := by decide +kernel
theorem dX9_clock_12 : decode cX9_clock 12 = .ok (.getfield 258, 3) := by decide +kernel
theorem dX9_clock_15 : decode cX9_clock 15 = .ok (.iload_n 1, 1) := by decide +kernel
theorem dX9_clock_16 : decode cX9_clock 16 = .ok (.iaload, 1) := by decide +kernel
theorem dX9_clock_17 : decode cX9_clock 17 = .ok (.ireturn, 1) := by decide +kernel
theorem dX9_ready_0 : decode cX9_ready 0 = .ok (.aload_n 0, 1) := by decide +kernel
theorem dX9_ready_1 : decode cX9_ready 1 = .ok (.iload_n 1, 1) := by decide +kernel
theorem dX9_ready_2 : decode cX9_ready 2 = .ok (.iload_n 2, 1) := by decide +kernel
theorem dX9_ready_3 : decode cX9_ready 3 = .ok (.invokevirtual 263, 3) := by decide +kernel
theorem dX9_ready_6 : decode cX9_ready 6 = .ok (.aload_n 0, 1) := by decide +kernel
theorem dX9_ready_7 : decode cX9_ready 7 = .ok (.getfield 33, 3) := by decide +kernel
theorem dX9_ready_10 : decode cX9_ready 10 = .ok (.getfield 254, 3) := by decide +kernel
theorem dX9_ready_13 : decode cX9_ready 13 = .ok (.getfield 266, 3) := by decide +kernel
theorem dX9_ready_16 : decode cX9_ready 16 = .ok (.iload_n 1, 1) := by decide +kernel
theorem dX9_ready_17 : decode cX9_ready 17 = .ok (.iconst 4, 1) := by decide +kernel
theorem dX9_ready_18 : decode cX9_ready 18 = .ok (.imul, 1) := by decide +kernel
theorem dX9_ready_19 : decode cX9_ready 19 = .ok (.iload_n 2, 1) := by decide +kernel
theorem dX9_ready_20 : decode cX9_ready 20 = .ok (.iadd, 1) := by decide +kernel
theorem dX9_ready_21 : decode cX9_ready 21 = .ok (.iaload, 1) := by decide +kernel
theorem dX9_ready_22 : decode cX9_ready 22 = .ok (.ireturn, 1) := by decide +kernel
theorem dX9_openRow_0 : decode cX9_openRow 0 = .ok (.aload_n 0, 1) := by decide +kernel
theorem dX9_openRow_1 : decode cX9_openRow 1 = .ok (.iload_n 1, 1) := by decide +kernel
theorem dX9_openRow_2 : decode cX9_openRow 2 = .ok (.invokevirtual 251, 3) := by decide +kernel
theorem dX9_openRow_5 : decode cX9_openRow 5 = .ok (.aload_n 0, 1) := by decide +kernel
theorem dX9_openRow_6 : decode cX9_openRow 6 = .ok (.getfield 33, 3) := by decide +kernel
theorem dX9_openRow_9 : decode cX9_openRow 9 = .ok (.getfield 254, 3) := by decide +kernel
theorem dX9_openRow_12 : decode cX9_openRow 12 = .ok (.getfield 269, 3) := by decide +kernel
theorem dX9_openRow_15 : decode cX9_openRow 15 = .ok (.iload_n 1, 1) := by decide +kernel
theorem dX9_openRow_16 : decode cX9_openRow 16 = .ok (.iaload, 1) := by decide +kernel
theorem dX9_openRow_17 : decode cX9_openRow 17 = .ok (.ireturn, 1) := by decide +kernel
theorem dX9_stalls_0 : decode cX9_stalls 0 = .ok (.aload_n 0, 1) := by decide +kernel
theorem dX9_stalls_1 : decode cX9_stalls 1 = .ok (.iload_n 1, 1) := by decide +kernel
theorem dX9_stalls_2 : decode cX9_stalls 2 = .ok (.invokevirtual 251, 3) := by decide +kernel
theorem dX9_stalls_5 : decode cX9_stalls 5 = .ok (.iload_n 2, 1) := by decide +kernel
theorem dX9_stalls_6 : decode cX9_stalls 6 = .ok (.ifCond .lt 8, 3) := by decide +kernel
theorem dX9_stalls_9 : decode cX9_stalls 9 = .ok (.iload_n 2, 1) := by decide +kernel
theorem dX9_stalls_10 : decode cX9_stalls 10 = .ok (.iconst 4, 1) := by decide +kernel
theorem dX9_stalls_11 : decode cX9_stalls 11 = .ok (.if_icmp .lt 14, 3) := by decide +kernel
theorem dX9_stalls_14 : decode cX9_stalls 14 = .ok (.new 91, 3) := by decide +kernel
theorem dX9_stalls_17 : decode cX9_stalls 17 = .ok (.dup, 1) := by decide +kernel
theorem dX9_stalls_18 : decode cX9_stalls 18 = .ok (.ldc_w 272, 3) := by decide +kernel
theorem dX9_stalls_21 : decode cX9_stalls 21 = .ok (.invokespecial 95, 3) := by decide +kernel
theorem dX9_stalls_24 : decode cX9_stalls 24 = .ok (.athrow, 1) := by decide +kernel
theorem dX9_stalls_25 : decode cX9_stalls 25 = .ok (.aload_n 0, 1) := by decide +kernel
theorem dX9_stalls_26 : decode cX9_stalls 26 = .ok (.getfield 33, 3) := by decide +kernel
theorem dX9_stalls_29 : decode cX9_stalls 29 = .ok (.getfield 254, 3) := by decide +kernel
theorem dX9_stalls_32 : decode cX9_stalls 32 = .ok (.getfield 274, 3) := by decide +kernel
theorem dX9_stalls_35 : decode cX9_stalls 35 = .ok (.iload_n 1, 1) := by decide +kernel
theorem dX9_stalls_36 : decode cX9_stalls 36 = .ok (.iconst 4, 1) := by decide +kernel
theorem dX9_stalls_37 : decode cX9_stalls 37 = .ok (.imul, 1) := by decide +kernel
theorem dX9_stalls_38 : decode cX9_stalls 38 = .ok (.iload_n 2, 1) := by decide +kernel
theorem dX9_stalls_39 : decode cX9_stalls 39 = .ok (.iadd, 1) := by decide +kernel
theorem dX9_stalls_40 : decode cX9_stalls 40 = .ok (.iaload, 1) := by decide +kernel
theorem dX9_stalls_41 : decode cX9_stalls 41 = .ok (.ireturn, 1) := by decide +kernel
theorem dX9_finish_0 : decode cX9_finish 0 = .ok (.aload_n 0, 1) := by decide +kernel
theorem dX9_finish_1 : decode cX9_finish 1 = .ok (.getfield 33, 3) := by decide +kernel
theorem dX9_finish_4 : decode cX9_finish 4 = .ok (.getfield 254, 3) := by decide +kernel
theorem dX9_finish_7 : decode cX9_finish 7 = .ok (.sipush 255, 3) := by decide +kernel
theorem dX9_finish_10 : decode cX9_finish 10 = .ok (.invokevirtual 277, 3) := by decide +kernel
theorem dX9_finish_13 : decode cX9_finish 13 = .ok (.ireturn, 1) := by decide +kernel
theorem dX9_utilization_0 : decode cX9_utilization 0 = .ok (.aload_n 0, 1) := by decide +kernel
theorem dX9_utilization_1 : decode cX9_utilization 1 = .ok (.iload_n 1, 1) := by decide +kernel
theorem dX9_utilization_2 : decode cX9_utilization 2 = .ok (.invokevirtual 251, 3) := by decide +kernel
theorem dX9_utilization_5 : decode cX9_utilization 5 = .ok (.aload_n 0, 1) := by decide +kernel
theorem dX9_utilization_6 : decode cX9_utilization 6 = .ok (.invokevirtual 281, 3) := by decide +kernel
theorem dX9_utilization_9 : decode cX9_utilization 9 = .ok (.istore_n 2, 1) := by decide +kernel
theorem dX9_utilization_10 : decode cX9_utilization 10 = .ok (.iload_n 2, 1) := by decide +kernel
theorem dX9_utilization_11 : decode cX9_utilization 11 = .ok (.ifCond .ne 14, 3) := by decide +kernel
theorem dX9_utilization_14 : decode cX9_utilization 14 = .ok (.new 62, 3) := by decide +kernel
theorem dX9_utilization_17 : decode cX9_utilization 17 = .ok (.dup, 1) := by decide +kernel
theorem dX9_utilization_18 : decode cX9_utilization 18 = .ok (.ldc_w 284, 3) := by decide +kernel
theorem dX9_utilization_21 : decode cX9_utilization 21 = .ok (.invokespecial 66, 3) := by decide +kernel
theorem dX9_utilization_24 : decode cX9_utilization 24 = .ok (.athrow, 1) := by decide +kernel
theorem dX9_utilization_25 : decode cX9_utilization 25 = .ok (.aload_n 0, 1) := by decide +kernel
theorem dX9_utilization_26 : decode cX9_utilization 26 = .ok (.getfield 33, 3) := by decide +kernel
theorem dX9_utilization_29 : decode cX9_utilization 29 = .ok (.getfield 254, 3) := by decide +kernel
theorem dX9_utilization_32 : decode cX9_utilization 32 = .ok (.getfield 286, 3) := by decide +kernel
theorem dX9_utilization_35 : decode cX9_utilization 35 = .ok (.iload_n 1, 1) := by decide +kernel
theorem dX9_utilization_36 : decode cX9_utilization 36 = .ok (.iaload, 1) := by decide +kernel
theorem dX9_utilization_37 : decode cX9_utilization 37 = .ok (.i2d, 1) := by decide +kernel
theorem dX9_utilization_38 : decode cX9_utilization 38 = .ok (.iload_n 2, 1) := by decide +kernel
theorem dX9_utilization_39 : decode cX9_utilization 39 = .ok (.i2d, 1) := by decide +kernel
theorem dX9_utilization_40 : decode cX9_utilization 40 = .ok (.ddiv, 1) := by decide +kernel
theorem dX9_utilization_41 : decode cX9_utilization 41 = .ok (.dreturn, 1) := by decide +kernel
theorem dX9_wouldFinish_0 : decode cX9_wouldFinish 0 = .ok (.iload_n 1, 1) := by decide +kernel
theorem dX9_wouldFinish_1 : decode cX9_wouldFinish 1 = .ok (.iconst (-1), 1) := by decide +kernel
theorem dX9_wouldFinish_2 : decode cX9_wouldFinish 2 = .ok (.if_icmp .eq 8, 3) := by decide +kernel
theorem dX9_wouldFinish_5 : decode cX9_wouldFinish 5 = .ok (.aload_n 0, 1) := by decide +kernel
theorem dX9_wouldFinish_6 : decode cX9_wouldFinish 6 = .ok (.iload_n 1, 1) := by decide +kernel
theorem dX9_wouldFinish_7 : decode cX9_wouldFinish 7 = .ok (.invokevirtual 138, 3) := by decide +kernel
theorem dX9_wouldFinish_10 : decode cX9_wouldFinish 10 = .ok (.aload_n 0, 1) := by decide +kernel
theorem dX9_wouldFinish_11 : decode cX9_wouldFinish 11 = .ok (.iload_n 1, 1) := by decide +kernel
theorem dX9_wouldFinish_12 : decode cX9_wouldFinish 12 = .ok (.aload_n 0, 1) := by decide +kernel
theorem dX9_wouldFinish_13 : decode cX9_wouldFinish 13 = .ok (.getfield 23, 3) := by decide +kernel
theorem dX9_wouldFinish_16 : decode cX9_wouldFinish 16 = .ok (.getfield 192, 3) := by decide +kernel
theorem dX9_wouldFinish_19 : decode cX9_wouldFinish 19 = .ok (.iconst 5, 1) := by decide +kernel
theorem dX9_wouldFinish_20 : decode cX9_wouldFinish 20 = .ok (.iaload, 1) := by decide +kernel
theorem dX9_wouldFinish_21 : decode cX9_wouldFinish 21 = .ok (.invokevirtual 289, 3) := by decide +kernel
theorem dX9_wouldFinish_24 : decode cX9_wouldFinish 24 = .ok (.ireturn, 1) := by decide +kernel
theorem dX9_predictFinish_0 : decode cX9_predictFinish 0 = .ok (.aload_n 0, 1) := by decide +kernel
theorem dX9_predictFinish_1 : decode cX9_predictFinish 1 = .ok (.getfield 37, 3) := by decide +kernel
theorem dX9_predictFinish_4 : decode cX9_predictFinish 4 = .ok (.getfield 254, 3) := by decide +kernel
theorem dX9_predictFinish_7 : decode cX9_predictFinish 7 = .ok (.astore_n 3, 1) := by decide +kernel
theorem dX9_predictFinish_8 : decode cX9_predictFinish 8 = .ok (.aload_n 3, 1) := by decide +kernel
theorem dX9_predictFinish_9 : decode cX9_predictFinish 9 = .ok (.aload_n 0, 1) := by decide +kernel
theorem dX9_predictFinish_10 : decode cX9_predictFinish 10 = .ok (.getfield 33, 3) := by decide +kernel
theorem dX9_predictFinish_13 : decode cX9_predictFinish 13 = .ok (.getfield 254, 3) := by decide +kernel
theorem dX9_predictFinish_16 : decode cX9_predictFinish 16 = .ok (.invokevirtual 292, 3) := by decide +kernel
theorem dX9_predictFinish_19 : decode cX9_predictFinish 19 = .ok (.iconst 0, 1) := by decide +kernel
theorem dX9_predictFinish_20 : decode cX9_predictFinish 20 = .ok (.istore 4, 2) := by decide +kernel
theorem dX9_predictFinish_22 : decode cX9_predictFinish 22 = .ok (.iload 4, 2) := by decide +kernel
theorem dX9_predictFinish_24 : decode cX9_predictFinish 24 = .ok (.aload_n 0, 1) := by decide +kernel
theorem dX9_predictFinish_25 : decode cX9_predictFinish 25 = .ok (.getfield 33, 3) := by decide +kernel
theorem dX9_predictFinish_28 : decode cX9_predictFinish 28 = .ok (.getfield 114, 3) := by decide +kernel
theorem dX9_predictFinish_31 : decode cX9_predictFinish 31 = .ok (.getfield 118, 3) := by decide +kernel
theorem dX9_predictFinish_34 : decode cX9_predictFinish 34 = .ok (.if_icmp .ge 31, 3) := by decide +kernel
theorem dX9_predictFinish_37 : decode cX9_predictFinish 37 = .ok (.aload_n 3, 1) := by decide +kernel
theorem dX9_predictFinish_38 : decode cX9_predictFinish 38 = .ok (.aload_n 0, 1) := by decide +kernel
theorem dX9_predictFinish_39 : decode cX9_predictFinish 39 = .ok (.getfield 23, 3) := by decide +kernel
theorem dX9_predictFinish_42 : decode cX9_predictFinish 42 = .ok (.aload_n 0, 1) := by decide +kernel
theorem dX9_predictFinish_43 : decode cX9_predictFinish 43 = .ok (.getfield 33, 3) := by decide +kernel
theorem dX9_predictFinish_46 : decode cX9_predictFinish 46 = .ok (.getfield 114, 3) := by decide +kernel
theorem dX9_predictFinish_49 : decode cX9_predictFinish 49 = .ok (.getfield 230, 3) := by decide +kernel
theorem dX9_predictFinish_52 : decode cX9_predictFinish 52 = .ok (.iload 4, 2) := by decide +kernel
theorem dX9_predictFinish_54 : decode cX9_predictFinish 54 = .ok (.iaload, 1) := by decide +kernel
theorem dX9_predictFinish_55 : decode cX9_predictFinish 55 = .ok (.iload_n 2, 1) := by decide +kernel
theorem dX9_predictFinish_56 : decode cX9_predictFinish 56 = .ok (.invokevirtual 296, 3) := by decide +kernel
theorem dX9_predictFinish_59 : decode cX9_predictFinish 59 = .ok (.iinc 4 1, 3) := by decide +kernel
theorem dX9_predictFinish_62 : decode cX9_predictFinish 62 = .ok (.goto (-40), 3) := by decide +kernel
theorem dX9_predictFinish_65 : decode cX9_predictFinish 65 = .ok (.iload_n 1, 1) := by decide +kernel
theorem dX9_predictFinish_66 : decode cX9_predictFinish 66 = .ok (.iconst (-1), 1) := by decide +kernel
theorem dX9_predictFinish_67 : decode cX9_predictFinish 67 = .ok (.if_icmp .eq 13, 3) := by decide +kernel
theorem dX9_predictFinish_70 : decode cX9_predictFinish 70 = .ok (.aload_n 3, 1) := by decide +kernel
theorem dX9_predictFinish_71 : decode cX9_predictFinish 71 = .ok (.aload_n 0, 1) := by decide +kernel
theorem dX9_predictFinish_72 : decode cX9_predictFinish 72 = .ok (.getfield 23, 3) := by decide +kernel
theorem dX9_predictFinish_75 : decode cX9_predictFinish 75 = .ok (.iload_n 1, 1) := by decide +kernel
theorem dX9_predictFinish_76 : decode cX9_predictFinish 76 = .ok (.iload_n 2, 1) := by decide +kernel
theorem dX9_predictFinish_77 : decode cX9_predictFinish 77 = .ok (.invokevirtual 296, 3) := by decide +kernel
theorem dX9_predictFinish_80 : decode cX9_predictFinish 80 = .ok (.aload_n 3, 1) := by decide +kernel
theorem dX9_predictFinish_81 : decode cX9_predictFinish 81 = .ok (.sipush 255, 3) := by decide +kernel
theorem dX9_predictFinish_84 : decode cX9_predictFinish 84 = .ok (.invokevirtual 277, 3) := by decide +kernel
theorem dX9_predictFinish_87 : decode cX9_predictFinish 87 = .ok (.ireturn, 1) := by decide +kernel
theorem dX9_wouldBe_0 : decode cX9_wouldBe 0 = .ok (.aload_n 0, 1) := by decide +kernel
theorem dX9_wouldBe_1 : decode cX9_wouldBe 1 = .ok (.iload_n 1, 1) := by decide +kernel
theorem dX9_wouldBe_2 : decode cX9_wouldBe 2 = .ok (.iload_n 2, 1) := by decide +kernel
theorem dX9_wouldBe_3 : decode cX9_wouldBe 3 = .ok (.iload_n 3, 1) := by decide +kernel
theorem dX9_wouldBe_4 : decode cX9_wouldBe 4 = .ok (.invokevirtual 183, 3) := by decide +kernel
theorem dX9_wouldBe_7 : decode cX9_wouldBe 7 = .ok (.aload_n 0, 1) := by decide +kernel
theorem dX9_wouldBe_8 : decode cX9_wouldBe 8 = .ok (.getfield 37, 3) := by decide +kernel
theorem dX9_wouldBe_11 : decode cX9_wouldBe 11 = .ok (.aload_n 0, 1) := by decide +kernel
theorem dX9_wouldBe_12 : decode cX9_wouldBe 12 = .ok (.getfield 33, 3) := by decide +kernel
theorem dX9_wouldBe_15 : decode cX9_wouldBe 15 = .ok (.invokevirtual 300, 3) := by decide +kernel
theorem dX9_wouldBe_18 : decode cX9_wouldBe 18 = .ok (.iconst 0, 1) := by decide +kernel
theorem dX9_wouldBe_19 : decode cX9_wouldBe 19 = .ok (.istore 4, 2) := by decide +kernel
theorem dX9_wouldBe_21 : decode cX9_wouldBe 21 = .ok (.iload 4, 2) := by decide +kernel
theorem dX9_wouldBe_23 : decode cX9_wouldBe 23 = .ok (.aload_n 0, 1) := by decide +kernel
theorem dX9_wouldBe_24 : decode cX9_wouldBe 24 = .ok (.getfield 33, 3) := by decide +kernel
theorem dX9_wouldBe_27 : decode cX9_wouldBe 27 = .ok (.getfield 114, 3) := by decide +kernel
theorem dX9_wouldBe_30 : decode cX9_wouldBe 30 = .ok (.getfield 118, 3) := by decide +kernel
theorem dX9_wouldBe_33 : decode cX9_wouldBe 33 = .ok (.if_icmp .ge 33, 3) := by decide +kernel
theorem dX9_wouldBe_36 : decode cX9_wouldBe 36 = .ok (.aload_n 0, 1) := by decide +kernel
theorem dX9_wouldBe_37 : decode cX9_wouldBe 37 = .ok (.getfield 37, 3) := by decide +kernel
theorem dX9_wouldBe_40 : decode cX9_wouldBe 40 = .ok (.aload_n 0, 1) := by decide +kernel
theorem dX9_wouldBe_41 : decode cX9_wouldBe 41 = .ok (.getfield 23, 3) := by decide +kernel
theorem dX9_wouldBe_44 : decode cX9_wouldBe 44 = .ok (.aload_n 0, 1) := by decide +kernel
theorem dX9_wouldBe_45 : decode cX9_wouldBe 45 = .ok (.getfield 33, 3) := by decide +kernel
theorem dX9_wouldBe_48 : decode cX9_wouldBe 48 = .ok (.getfield 114, 3) := by decide +kernel
theorem dX9_wouldBe_51 : decode cX9_wouldBe 51 = .ok (.getfield 230, 3) := by decide +kernel
theorem dX9_wouldBe_54 : decode cX9_wouldBe 54 = .ok (.iload 4, 2) := by decide +kernel
theorem dX9_wouldBe_56 : decode cX9_wouldBe 56 = .ok (.iaload, 1) := by decide +kernel
theorem dX9_wouldBe_57 : decode cX9_wouldBe 57 = .ok (.invokevirtual 304, 3) := by decide +kernel
theorem dX9_wouldBe_60 : decode cX9_wouldBe 60 = .ok (.iinc 4 1, 3) := by decide +kernel
theorem dX9_wouldBe_63 : decode cX9_wouldBe 63 = .ok (.goto (-42), 3) := by decide +kernel
theorem dX9_wouldBe_66 : decode cX9_wouldBe 66 = .ok (.aload_n 0, 1) := by decide +kernel
theorem dX9_wouldBe_67 : decode cX9_wouldBe 67 = .ok (.getfield 37, 3) := by decide +kernel
theorem dX9_wouldBe_70 : decode cX9_wouldBe 70 = .ok (.getfield 154, 3) := by decide +kernel
theorem dX9_wouldBe_73 : decode cX9_wouldBe 73 = .ok (.getfield 186, 3) := by decide +kernel
theorem dX9_wouldBe_76 : decode cX9_wouldBe 76 = .ok (.iload_n 1, 1) := by decide +kernel
theorem dX9_wouldBe_77 : decode cX9_wouldBe 77 = .ok (.iload_n 2, 1) := by decide +kernel
theorem dX9_wouldBe_78 : decode cX9_wouldBe 78 = .ok (.iload_n 3, 1) := by decide +kernel
theorem dX9_wouldBe_79 : decode cX9_wouldBe 79 = .ok (.invokestatic 189, 3) := by decide +kernel
theorem dX9_wouldBe_82 : decode cX9_wouldBe 82 = .ok (.iaload, 1) := by decide +kernel
theorem dX9_wouldBe_83 : decode cX9_wouldBe 83 = .ok (.ireturn, 1) := by decide +kernel
theorem dX9_isConflict_0 : decode cX9_isConflict 0 = .ok (.aload_n 0, 1) := by decide +kernel
theorem dX9_isConflict_1 : decode cX9_isConflict 1 = .ok (.iload_n 1, 1) := by decide +kernel
theorem dX9_isConflict_2 : decode cX9_isConflict 2 = .ok (.invokevirtual 138, 3) := by decide +kernel
theorem dX9_isConflict_5 : decode cX9_isConflict 5 = .ok (.aload_n 0, 1) := by decide +kernel
theorem dX9_isConflict_6 : decode cX9_isConflict 6 = .ok (.iload_n 2, 1) := by decide +kernel
theorem dX9_isConflict_7 : decode cX9_isConflict 7 = .ok (.invokevirtual 138, 3) := by decide +kernel
theorem dX9_isConflict_10 : decode cX9_isConflict 10 = .ok (.aload_n 0, 1) := by decide +kernel
theorem dX9_isConflict_11 : decode cX9_isConflict 11 = .ok (.getfield 23, 3) := by decide +kernel
theorem dX9_isConflict_14 : decode cX9_isConflict 14 = .ok (.iload_n 1, 1) := by decide +kernel
theorem dX9_isConflict_15 : decode cX9_isConflict 15 = .ok (.iload_n 2, 1) := by decide +kernel
theorem dX9_isConflict_16 : decode cX9_isConflict 16 = .ok (.invokevirtual 308, 3) := by decide +kernel
theorem dX9_isConflict_19 : decode cX9_isConflict 19 = .ok (.ireturn, 1) := by decide +kernel
theorem dX9_longestChain_0 : decode cX9_longestChain 0 = .ok (.aload_n 0, 1) := by decide +kernel
theorem dX9_longestChain_1 : decode cX9_longestChain 1 = .ok (.getfield 47, 3) := by decide +kernel
theorem dX9_longestChain_4 : decode cX9_longestChain 4 = .ok (.aload_n 0, 1) := by decide +kernel
theorem dX9_longestChain_5 : decode cX9_longestChain 5 = .ok (.getfield 23, 3) := by decide +kernel
theorem dX9_longestChain_8 : decode cX9_longestChain 8 = .ok (.aload_n 0, 1) := by decide +kernel
theorem dX9_longestChain_9 : decode cX9_longestChain 9 = .ok (.getfield 33, 3) := by decide +kernel
theorem dX9_longestChain_12 : decode cX9_longestChain 12 = .ok (.getfield 114, 3) := by decide +kernel
theorem dX9_longestChain_15 : decode cX9_longestChain 15 = .ok (.invokevirtual 312, 3) := by decide +kernel
theorem dX9_longestChain_18 : decode cX9_longestChain 18 = .ok (.ireturn, 1) := by decide +kernel
theorem dX9_bestFinish_0 : decode cX9_bestFinish 0 = .ok (.aload_n 0, 1) := by decide +kernel
theorem dX9_bestFinish_1 : decode cX9_bestFinish 1 = .ok (.invokevirtual 316, 3) := by decide +kernel
theorem dX9_bestFinish_4 : decode cX9_bestFinish 4 = .ok (.aload_n 0, 1) := by decide +kernel
theorem dX9_bestFinish_5 : decode cX9_bestFinish 5 = .ok (.getfield 47, 3) := by decide +kernel
theorem dX9_bestFinish_8 : decode cX9_bestFinish 8 = .ok (.aload_n 0, 1) := by decide +kernel
theorem dX9_bestFinish_9 : decode cX9_bestFinish 9 = .ok (.getfield 23, 3) := by decide +kernel
theorem dX9_bestFinish_12 : decode cX9_bestFinish 12 = .ok (.aload_n 0, 1) := by decide +kernel
theorem dX9_bestFinish_13 : decode cX9_bestFinish 13 = .ok (.getfield 33, 3) := by decide +kernel
theorem dX9_bestFinish_16 : decode cX9_bestFinish 16 = .ok (.invokevirtual 319, 3) := by decide +kernel
theorem dX9_bestFinish_19 : decode cX9_bestFinish 19 = .ok (.aload_n 0, 1) := by decide +kernel
theorem dX9_bestFinish_20 : decode cX9_bestFinish 20 = .ok (.getfield 47, 3) := by decide +kernel
theorem dX9_bestFinish_23 : decode cX9_bestFinish 23 = .ok (.getfield 323, 3) := by decide +kernel
theorem dX9_bestFinish_26 : decode cX9_bestFinish 26 = .ok (.ireturn, 1) := by decide +kernel
theorem dX9_bestOrder_0 : decode cX9_bestOrder 0 = .ok (.aload_n 0, 1) := by decide +kernel
theorem dX9_bestOrder_1 : decode cX9_bestOrder 1 = .ok (.invokevirtual 316, 3) := by decide +kernel
theorem dX9_bestOrder_4 : decode cX9_bestOrder 4 = .ok (.aload_n 0, 1) := by decide +kernel
theorem dX9_bestOrder_5 : decode cX9_bestOrder 5 = .ok (.getfield 47, 3) := by decide +kernel
theorem dX9_bestOrder_8 : decode cX9_bestOrder 8 = .ok (.aload_n 0, 1) := by decide +kernel
theorem dX9_bestOrder_9 : decode cX9_bestOrder 9 = .ok (.getfield 23, 3) := by decide +kernel
theorem dX9_bestOrder_12 : decode cX9_bestOrder 12 = .ok (.aload_n 0, 1) := by decide +kernel
theorem dX9_bestOrder_13 : decode cX9_bestOrder 13 = .ok (.getfield 33, 3) := by decide +kernel
theorem dX9_bestOrder_16 : decode cX9_bestOrder 16 = .ok (.invokevirtual 319, 3) := by decide +kernel
theorem dX9_bestOrder_19 : decode cX9_bestOrder 19 = .ok (.iload_n 1, 1) := by decide +kernel
theorem dX9_bestOrder_20 : decode cX9_bestOrder 20 = .ok (.ifCond .lt 17, 3) := by decide +kernel
theorem dX9_bestOrder_23 : decode cX9_bestOrder 23 = .ok (.iload_n 1, 1) := by decide +kernel
theorem dX9_bestOrder_24 : decode cX9_bestOrder 24 = .ok (.aload_n 0, 1) := by decide +kernel
theorem dX9_bestOrder_25 : decode cX9_bestOrder 25 = .ok (.getfield 33, 3) := by decide +kernel
theorem dX9_bestOrder_28 : decode cX9_bestOrder 28 = .ok (.getfield 114, 3) := by decide +kernel
theorem dX9_bestOrder_31 : decode cX9_bestOrder 31 = .ok (.getfield 118, 3) := by decide +kernel
theorem dX9_bestOrder_34 : decode cX9_bestOrder 34 = .ok (.if_icmp .lt 14, 3) := by decide +kernel
theorem dX9_bestOrder_37 : decode cX9_bestOrder 37 = .ok (.new 73, 3) := by decide +kernel
theorem dX9_bestOrder_40 : decode cX9_bestOrder 40 = .ok (.dup, 1) := by decide +kernel
theorem dX9_bestOrder_41 : decode cX9_bestOrder 41 = .ok (.ldc_w 326, 3) := by decide +kernel
theorem dX9_bestOrder_44 : decode cX9_bestOrder 44 = .ok (.invokespecial 77, 3) := by decide +kernel
theorem dX9_bestOrder_47 : decode cX9_bestOrder 47 = .ok (.athrow, 1) := by decide +kernel
theorem dX9_bestOrder_48 : decode cX9_bestOrder 48 = .ok (.aload_n 0, 1) := by decide +kernel
theorem dX9_bestOrder_49 : decode cX9_bestOrder 49 = .ok (.getfield 47, 3) := by decide +kernel
theorem dX9_bestOrder_52 : decode cX9_bestOrder 52 = .ok (.getfield 328, 3) := by decide +kernel
theorem dX9_bestOrder_55 : decode cX9_bestOrder 55 = .ok (.iload_n 1, 1) := by decide +kernel
theorem dX9_bestOrder_56 : decode cX9_bestOrder 56 = .ok (.iaload, 1) := by decide +kernel
theorem dX9_bestOrder_57 : decode cX9_bestOrder 57 = .ok (.ireturn, 1) := by decide +kernel
theorem dX9_reorder_0 : decode cX9_reorder 0 = .ok (.aload_n 0, 1) := by decide +kernel
theorem dX9_reorder_1 : decode cX9_reorder 1 = .ok (.invokevirtual 316, 3) := by decide +kernel
theorem dX9_reorder_4 : decode cX9_reorder 4 = .ok (.aload_n 0, 1) := by decide +kernel
theorem dX9_reorder_5 : decode cX9_reorder 5 = .ok (.getfield 47, 3) := by decide +kernel
theorem dX9_reorder_8 : decode cX9_reorder 8 = .ok (.aload_n 0, 1) := by decide +kernel
theorem dX9_reorder_9 : decode cX9_reorder 9 = .ok (.getfield 23, 3) := by decide +kernel
theorem dX9_reorder_12 : decode cX9_reorder 12 = .ok (.aload_n 0, 1) := by decide +kernel
theorem dX9_reorder_13 : decode cX9_reorder 13 = .ok (.getfield 33, 3) := by decide +kernel
theorem dX9_reorder_16 : decode cX9_reorder 16 = .ok (.invokevirtual 319, 3) := by decide +kernel
theorem dX9_reorder_19 : decode cX9_reorder 19 = .ok (.aload_n 0, 1) := by decide +kernel
theorem dX9_reorder_20 : decode cX9_reorder 20 = .ok (.iconst (-1), 1) := by decide +kernel
theorem dX9_reorder_21 : decode cX9_reorder 21 = .ok (.aload_n 0, 1) := by decide +kernel
theorem dX9_reorder_22 : decode cX9_reorder 22 = .ok (.getfield 23, 3) := by decide +kernel
theorem dX9_reorder_25 : decode cX9_reorder 25 = .ok (.getfield 192, 3) := by decide +kernel
theorem dX9_reorder_28 : decode cX9_reorder 28 = .ok (.iconst 5, 1) := by decide +kernel
theorem dX9_reorder_29 : decode cX9_reorder 29 = .ok (.iaload, 1) := by decide +kernel
theorem dX9_reorder_30 : decode cX9_reorder 30 = .ok (.invokevirtual 289, 3) := by decide +kernel
theorem dX9_reorder_33 : decode cX9_reorder 33 = .ok (.istore_n 1, 1) := by decide +kernel
theorem dX9_reorder_34 : decode cX9_reorder 34 = .ok (.aload_n 0, 1) := by decide +kernel
theorem dX9_reorder_35 : decode cX9_reorder 35 = .ok (.getfield 47, 3) := by decide +kernel
theorem dX9_reorder_38 : decode cX9_reorder 38 = .ok (.aload_n 0, 1) := by decide +kernel
theorem dX9_reorder_39 : decode cX9_reorder 39 = .ok (.getfield 33, 3) := by decide +kernel
theorem dX9_reorder_42 : decode cX9_reorder 42 = .ok (.getfield 114, 3) := by decide +kernel
theorem dX9_reorder_45 : decode cX9_reorder 45 = .ok (.invokevirtual 331, 3) := by decide +kernel
theorem dX9_reorder_48 : decode cX9_reorder 48 = .ok (.aload_n 0, 1) := by decide +kernel
theorem dX9_reorder_49 : decode cX9_reorder 49 = .ok (.getfield 47, 3) := by decide +kernel
theorem dX9_reorder_52 : decode cX9_reorder 52 = .ok (.invokevirtual 96, 3) := by decide +kernel
theorem dX9_reorder_55 : decode cX9_reorder 55 = .ok (.iload_n 1, 1) := by decide +kernel
theorem dX9_reorder_56 : decode cX9_reorder 56 = .ok (.aload_n 0, 1) := by decide +kernel
theorem dX9_reorder_57 : decode cX9_reorder 57 = .ok (.getfield 47, 3) := by decide +kernel
theorem dX9_reorder_60 : decode cX9_reorder 60 = .ok (.getfield 323, 3) := by decide +kernel
theorem dX9_reorder_63 : decode cX9_reorder 63 = .ok (.isub, 1) := by decide +kernel
theorem dX9_reorder_64 : decode cX9_reorder 64 = .ok (.ireturn, 1) := by decide +kernel
theorem dX9_budgetFor_0 : decode cX9_budgetFor 0 = .ok (.iconst 1, 1) := by decide +kernel
theorem dX9_budgetFor_1 : decode cX9_budgetFor 1 = .ok (.istore_n 2, 1) := by decide +kernel
theorem dX9_budgetFor_2 : decode cX9_budgetFor 2 = .ok (.iload_n 2, 1) := by decide +kernel
theorem dX9_budgetFor_3 : decode cX9_budgetFor 3 = .ok (.bipush 8, 2) := by decide +kernel
theorem dX9_budgetFor_5 : decode cX9_budgetFor 5 = .ok (.if_icmp .gt 21, 3) := by decide +kernel
theorem dX9_budgetFor_8 : decode cX9_budgetFor 8 = .ok (.aload_n 0, 1) := by decide +kernel
theorem dX9_budgetFor_9 : decode cX9_budgetFor 9 = .ok (.iconst (-1), 1) := by decide +kernel
theorem dX9_budgetFor_10 : decode cX9_budgetFor 10 = .ok (.iload_n 2, 1) := by decide +kernel
theorem dX9_budgetFor_11 : decode cX9_budgetFor 11 = .ok (.invokevirtual 289, 3) := by decide +kernel
theorem dX9_budgetFor_14 : decode cX9_budgetFor 14 = .ok (.iload_n 1, 1) := by decide +kernel
theorem dX9_budgetFor_15 : decode cX9_budgetFor 15 = .ok (.if_icmp .gt 5, 3) := by decide +kernel
theorem dX9_budgetFor_18 : decode cX9_budgetFor 18 = .ok (.iload_n 2, 1) := by decide +kernel
theorem dX9_budgetFor_19 : decode cX9_budgetFor 19 = .ok (.ireturn, 1) := by decide +kernel
theorem dX9_budgetFor_20 : decode cX9_budgetFor 20 = .ok (.iinc 2 1, 3) := by decide +kernel
theorem dX9_budgetFor_23 : decode cX9_budgetFor 23 = .ok (.goto (-21), 3) := by decide +kernel
theorem dX9_budgetFor_26 : decode cX9_budgetFor 26 = .ok (.new 335, 3) := by decide +kernel
theorem dX9_budgetFor_29 : decode cX9_budgetFor 29 = .ok (.dup, 1) := by decide +kernel
theorem dX9_budgetFor_30 : decode cX9_budgetFor 30 = .ok (.ldc_w 337, 3) := by decide +kernel
theorem dX9_budgetFor_33 : decode cX9_budgetFor 33 = .ok (.invokespecial 339, 3) := by decide +kernel
theorem dX9_budgetFor_36 : decode cX9_budgetFor 36 = .ok (.athrow, 1) := by decide +kernel
theorem dX9_save_0 : decode cX9_save 0 = .ok (.aload_n 0, 1) := by decide +kernel
theorem dX9_save_1 : decode cX9_save 1 = .ok (.iload_n 1, 1) := by decide +kernel
theorem dX9_save_2 : decode cX9_save 2 = .ok (.invokevirtual 340, 3) := by decide +kernel
theorem dX9_save_5 : decode cX9_save 5 = .ok (.aload_n 0, 1) := by decide +kernel
theorem dX9_save_6 : decode cX9_save 6 = .ok (.getfield 40, 3) := by decide +kernel
theorem dX9_save_9 : decode cX9_save 9 = .ok (.iload_n 1, 1) := by decide +kernel
theorem dX9_save_10 : decode cX9_save 10 = .ok (.aaload, 1) := by decide +kernel
theorem dX9_save_11 : decode cX9_save 11 = .ok (.aload_n 0, 1) := by decide +kernel
theorem dX9_save_12 : decode cX9_save 12 = .ok (.getfield 33, 3) := by decide +kernel
theorem dX9_save_15 : decode cX9_save 15 = .ok (.invokevirtual 343, 3) := by decide +kernel
theorem dX9_save_18 : decode cX9_save 18 = .ok (.aload_n 0, 1) := by decide +kernel
theorem dX9_save_19 : decode cX9_save 19 = .ok (.dup, 1) := by decide +kernel
theorem dX9_save_20 : decode cX9_save 20 = .ok (.getfield 99, 3) := by decide +kernel
theorem dX9_save_23 : decode cX9_save 23 = .ok (.iconst 1, 1) := by decide +kernel
theorem dX9_save_24 : decode cX9_save 24 = .ok (.iload_n 1, 1) := by decide +kernel
theorem dX9_save_25 : decode cX9_save 25 = .ok (.ishl, 1) := by decide +kernel
theorem dX9_save_26 : decode cX9_save 26 = .ok (.ior, 1) := by decide +kernel
theorem dX9_save_27 : decode cX9_save 27 = .ok (.putfield 99, 3) := by decide +kernel
theorem dX9_save_30 : decode cX9_save 30 = .ok (.return_, 1) := by decide +kernel
theorem dX9_restore_0 : decode cX9_restore 0 = .ok (.aload_n 0, 1) := by decide +kernel
theorem dX9_restore_1 : decode cX9_restore 1 = .ok (.iload_n 1, 1) := by decide +kernel
theorem dX9_restore_2 : decode cX9_restore 2 = .ok (.invokevirtual 340, 3) := by decide +kernel
theorem dX9_restore_5 : decode cX9_restore 5 = .ok (.aload_n 0, 1) := by decide +kernel
theorem dX9_restore_6 : decode cX9_restore 6 = .ok (.getfield 99, 3) := by decide +kernel
theorem dX9_restore_9 : decode cX9_restore 9 = .ok (.iload_n 1, 1) := by decide +kernel
theorem dX9_restore_10 : decode cX9_restore 10 = .ok (.ishr, 1) := by decide +kernel
theorem dX9_restore_11 : decode cX9_restore 11 = .ok (.iconst 1, 1) := by decide +kernel
theorem dX9_restore_12 : decode cX9_restore 12 = .ok (.iand, 1) := by decide +kernel
theorem dX9_restore_13 : decode cX9_restore 13 = .ok (.ifCond .ne 14, 3) := by decide +kernel
theorem dX9_restore_16 : decode cX9_restore 16 = .ok (.new 335, 3) := by decide +kernel
theorem dX9_restore_19 : decode cX9_restore 19 = .ok (.dup, 1) := by decide +kernel
theorem dX9_restore_20 : decode cX9_restore 20 = .ok (.ldc_w 345, 3) := by decide +kernel
theorem dX9_restore_23 : decode cX9_restore 23 = .ok (.invokespecial 339, 3) := by decide +kernel
theorem dX9_restore_26 : decode cX9_restore 26 = .ok (.athrow, 1) := by decide +kernel
theorem dX9_restore_27 : decode cX9_restore 27 = .ok (.aload_n 0, 1) := by decide +kernel
theorem dX9_restore_28 : decode cX9_restore 28 = .ok (.getfield 33, 3) := by decide +kernel
theorem dX9_restore_31 : decode cX9_restore 31 = .ok (.aload_n 0, 1) := by decide +kernel
theorem dX9_restore_32 : decode cX9_restore 32 = .ok (.getfield 40, 3) := by decide +kernel
theorem dX9_restore_35 : decode cX9_restore 35 = .ok (.iload_n 1, 1) := by decide +kernel
theorem dX9_restore_36 : decode cX9_restore 36 = .ok (.aaload, 1) := by decide +kernel
theorem dX9_restore_37 : decode cX9_restore 37 = .ok (.invokevirtual 343, 3) := by decide +kernel
theorem dX9_restore_40 : decode cX9_restore 40 = .ok (.aload_n 0, 1) := by decide +kernel
theorem dX9_restore_41 : decode cX9_restore 41 = .ok (.getfield 47, 3) := by decide +kernel
theorem dX9_restore_44 : decode cX9_restore 44 = .ok (.invokevirtual 96, 3) := by decide +kernel
theorem dX9_restore_47 : decode cX9_restore 47 = .ok (.return_, 1) := by decide +kernel
theorem dX9_requireBatch_0 : decode cX9_requireBatch 0 = .ok (.iload_n 1, 1) := by decide +kernel
theorem dX9_requireBatch_1 : decode cX9_requireBatch 1 = .ok (.ifCond .lt 14, 3) := by decide +kernel
theorem dX9_requireBatch_4 : decode cX9_requireBatch 4 = .ok (.iload_n 1, 1) := by decide +kernel
theorem dX9_requireBatch_5 : decode cX9_requireBatch 5 = .ok (.aload_n 0, 1) := by decide +kernel
theorem dX9_requireBatch_6 : decode cX9_requireBatch 6 = .ok (.getfield 23, 3) := by decide +kernel
theorem dX9_requireBatch_9 : decode cX9_requireBatch 9 = .ok (.getfield 102, 3) := by decide +kernel
theorem dX9_requireBatch_12 : decode cX9_requireBatch 12 = .ok (.if_icmp .lt 14, 3) := by decide +kernel
theorem dX9_requireBatch_15 : decode cX9_requireBatch 15 = .ok (.new 73, 3) := by decide +kernel
theorem dX9_requireBatch_18 : decode cX9_requireBatch 18 = .ok (.dup, 1) := by decide +kernel
theorem dX9_requireBatch_19 : decode cX9_requireBatch 19 = .ok (.ldc_w 347, 3) := by decide +kernel
theorem dX9_requireBatch_22 : decode cX9_requireBatch 22 = .ok (.invokespecial 77, 3) := by decide +kernel
theorem dX9_requireBatch_25 : decode cX9_requireBatch 25 = .ok (.athrow, 1) := by decide +kernel
theorem dX9_requireBatch_26 : decode cX9_requireBatch 26 = .ok (.return_, 1) := by decide +kernel
theorem dX9_requireBank_0 : decode cX9_requireBank 0 = .ok (.iload_n 1, 1) := by decide +kernel
theorem dX9_requireBank_1 : decode cX9_requireBank 1 = .ok (.ifCond .lt 14, 3) := by decide +kernel
theorem dX9_requireBank_4 : decode cX9_requireBank 4 = .ok (.iload_n 1, 1) := by decide +kernel
theorem dX9_requireBank_5 : decode cX9_requireBank 5 = .ok (.aload_n 0, 1) := by decide +kernel
theorem dX9_requireBank_6 : decode cX9_requireBank 6 = .ok (.getfield 23, 3) := by decide +kernel
theorem dX9_requireBank_9 : decode cX9_requireBank 9 = .ok (.getfield 105, 3) := by decide +kernel
theorem dX9_requireBank_12 : decode cX9_requireBank 12 = .ok (.if_icmp .lt 14, 3) := by decide +kernel
theorem dX9_requireBank_15 : decode cX9_requireBank 15 = .ok (.new 73, 3) := by decide +kernel
theorem dX9_requireBank_18 : decode cX9_requireBank 18 = .ok (.dup, 1) := by decide +kernel
theorem dX9_requireBank_19 : decode cX9_requireBank 19 = .ok (.ldc_w 349, 3) := by decide +kernel
theorem dX9_requireBank_22 : decode cX9_requireBank 22 = .ok (.invokespecial 77, 3) := by decide +kernel
theorem dX9_requireBank_25 : decode cX9_requireBank 25 = .ok (.athrow, 1) := by decide +kernel
theorem dX9_requireBank_26 : decode cX9_requireBank 26 = .ok (.return_, 1) := by decide +kernel
theorem dX9_requireRow_0 : decode cX9_requireRow 0 = .ok (.aload_n 0, 1) := by decide +kernel
theorem dX9_requireRow_1 : decode cX9_requireRow 1 = .ok (.iload_n 1, 1) := by decide +kernel
theorem dX9_requireRow_2 : decode cX9_requireRow 2 = .ok (.invokevirtual 251, 3) := by decide +kernel
theorem dX9_requireRow_5 : decode cX9_requireRow 5 = .ok (.iload_n 2, 1) := by decide +kernel
theorem dX9_requireRow_6 : decode cX9_requireRow 6 = .ok (.ifCond .lt 14, 3) := by decide +kernel
theorem dX9_requireRow_9 : decode cX9_requireRow 9 = .ok (.iload_n 2, 1) := by decide +kernel
theorem dX9_requireRow_10 : decode cX9_requireRow 10 = .ok (.aload_n 0, 1) := by decide +kernel
theorem dX9_requireRow_11 : decode cX9_requireRow 11 = .ok (.getfield 23, 3) := by decide +kernel
theorem dX9_requireRow_14 : decode cX9_requireRow 14 = .ok (.getfield 108, 3) := by decide +kernel
theorem dX9_requireRow_17 : decode cX9_requireRow 17 = .ok (.if_icmp .lt 14, 3) := by decide +kernel
theorem dX9_requireRow_20 : decode cX9_requireRow 20 = .ok (.new 73, 3) := by decide +kernel
theorem dX9_requireRow_23 : decode cX9_requireRow 23 = .ok (.dup, 1) := by decide +kernel
theorem dX9_requireRow_24 : decode cX9_requireRow 24 = .ok (.ldc_w 351, 3) := by decide +kernel
theorem dX9_requireRow_27 : decode cX9_requireRow 27 = .ok (.invokespecial 77, 3) := by decide +kernel
theorem dX9_requireRow_30 : decode cX9_requireRow 30 = .ok (.athrow, 1) := by decide +kernel
theorem dX9_requireRow_31 : decode cX9_requireRow 31 = .ok (.return_, 1) := by decide +kernel
theorem dX9_requireWord_0 : decode cX9_requireWord 0 = .ok (.aload_n 0, 1) := by decide +kernel
theorem dX9_requireWord_1 : decode cX9_requireWord 1 = .ok (.iload_n 1, 1) := by decide +kernel
theorem dX9_requireWord_2 : decode cX9_requireWord 2 = .ok (.iload_n 2, 1) := by decide +kernel
theorem dX9_requireWord_3 : decode cX9_requireWord 3 = .ok (.invokevirtual 167, 3) := by decide +kernel
theorem dX9_requireWord_6 : decode cX9_requireWord 6 = .ok (.iload_n 3, 1) := by decide +kernel
theorem dX9_requireWord_7 : decode cX9_requireWord 7 = .ok (.ifCond .lt 14, 3) := by decide +kernel
theorem dX9_requireWord_10 : decode cX9_requireWord 10 = .ok (.iload_n 3, 1) := by decide +kernel
theorem dX9_requireWord_11 : decode cX9_requireWord 11 = .ok (.aload_n 0, 1) := by decide +kernel
theorem dX9_requireWord_12 : decode cX9_requireWord 12 = .ok (.getfield 23, 3) := by decide +kernel
theorem dX9_requireWord_15 : decode cX9_requireWord 15 = .ok (.getfield 111, 3) := by decide +kernel
theorem dX9_requireWord_18 : decode cX9_requireWord 18 = .ok (.if_icmp .lt 14, 3) := by decide +kernel
theorem dX9_requireWord_21 : decode cX9_requireWord 21 = .ok (.new 73, 3) := by decide +kernel
theorem dX9_requireWord_24 : decode cX9_requireWord 24 = .ok (.dup, 1) := by decide +kernel
theorem dX9_requireWord_25 : decode cX9_requireWord 25 = .ok (.ldc_w 353, 3) := by decide +kernel
theorem dX9_requireWord_28 : decode cX9_requireWord 28 = .ok (.invokespecial 77, 3) := by decide +kernel
theorem dX9_requireWord_31 : decode cX9_requireWord 31 = .ok (.athrow, 1) := by decide +kernel
theorem dX9_requireWord_32 : decode cX9_requireWord 32 = .ok (.return_, 1) := by decide +kernel
theorem dX9_requireRegister_0 : decode cX9_requireRegister 0 = .ok (.aload_n 0, 1) := by decide +kernel
theorem dX9_requireRegister_1 : decode cX9_requireRegister 1 = .ok (.iload_n 1, 1) := by decide +kernel
theorem dX9_requireRegister_2 : decode cX9_requireRegister 2 = .ok (.invokevirtual 251, 3) := by decide +kernel
theorem dX9_requireRegister_5 : decode cX9_requireRegister 5 = .ok (.iload_n 2, 1) := by decide +kernel
theorem dX9_requireRegister_6 : decode cX9_requireRegister 6 = .ok (.ifCond .lt 8, 3) := by decide +kernel
theorem dX9_requireRegister_9 : decode cX9_requireRegister 9 = .ok (.iload_n 2, 1) := by decide +kernel
theorem dX9_requireRegister_10 : decode cX9_requireRegister 10 = .ok (.iconst 4, 1) := by decide +kernel
theorem dX9_requireRegister_11 : decode cX9_requireRegister 11 = .ok (.if_icmp .lt 14, 3) := by decide +kernel
theorem dX9_requireRegister_14 : decode cX9_requireRegister 14 = .ok (.new 73, 3) := by decide +kernel
theorem dX9_requireRegister_17 : decode cX9_requireRegister 17 = .ok (.dup, 1) := by decide +kernel
theorem dX9_requireRegister_18 : decode cX9_requireRegister 18 = .ok (.ldc_w 355, 3) := by decide +kernel
theorem dX9_requireRegister_21 : decode cX9_requireRegister 21 = .ok (.invokespecial 77, 3) := by decide +kernel
theorem dX9_requireRegister_24 : decode cX9_requireRegister 24 = .ok (.athrow, 1) := by decide +kernel
theorem dX9_requireRegister_25 : decode cX9_requireRegister 25 = .ok (.return_, 1) := by decide +kernel
theorem dX9_requireLane_0 : decode cX9_requireLane 0 = .ok (.aload_n 0, 1) := by decide +kernel
theorem dX9_requireLane_1 : decode cX9_requireLane 1 = .ok (.iload_n 1, 1) := by decide +kernel
theorem dX9_requireLane_2 : decode cX9_requireLane 2 = .ok (.iload_n 2, 1) := by decide +kernel
theorem dX9_requireLane_3 : decode cX9_requireLane 3 = .ok (.invokevirtual 263, 3) := by decide +kernel
theorem dX9_requireLane_6 : decode cX9_requireLane 6 = .ok (.iload_n 3, 1) := by decide +kernel
theorem dX9_requireLane_7 : decode cX9_requireLane 7 = .ok (.ifCond .lt 14, 3) := by decide +kernel
theorem dX9_requireLane_10 : decode cX9_requireLane 10 = .ok (.iload_n 3, 1) := by decide +kernel
theorem dX9_requireLane_11 : decode cX9_requireLane 11 = .ok (.aload_n 0, 1) := by decide +kernel
theorem dX9_requireLane_12 : decode cX9_requireLane 12 = .ok (.getfield 23, 3) := by decide +kernel
theorem dX9_requireLane_15 : decode cX9_requireLane 15 = .ok (.getfield 111, 3) := by decide +kernel
theorem dX9_requireLane_18 : decode cX9_requireLane 18 = .ok (.if_icmp .lt 14, 3) := by decide +kernel
theorem dX9_requireLane_21 : decode cX9_requireLane 21 = .ok (.new 73, 3) := by decide +kernel
theorem dX9_requireLane_24 : decode cX9_requireLane 24 = .ok (.dup, 1) := by decide +kernel
theorem dX9_requireLane_25 : decode cX9_requireLane 25 = .ok (.ldc_w 357, 3) := by decide +kernel
theorem dX9_requireLane_28 : decode cX9_requireLane 28 = .ok (.invokespecial 77, 3) := by decide +kernel
theorem dX9_requireLane_31 : decode cX9_requireLane 31 = .ok (.athrow, 1) := by decide +kernel
theorem dX9_requireLane_32 : decode cX9_requireLane 32 = .ok (.return_, 1) := by decide +kernel
theorem dX9_requireSlot_0 : decode cX9_requireSlot 0 = .ok (.iload_n 1, 1) := by decide +kernel
theorem dX9_requireSlot_1 : decode cX9_requireSlot 1 = .ok (.ifCond .lt 8, 3) := by decide +kernel
theorem dX9_requireSlot_4 : decode cX9_requireSlot 4 = .ok (.iload_n 1, 1) := by decide +kernel
theorem dX9_requireSlot_5 : decode cX9_requireSlot 5 = .ok (.iconst 2, 1) := by decide +kernel
theorem dX9_requireSlot_6 : decode cX9_requireSlot 6 = .ok (.if_icmp .lt 14, 3) := by decide +kernel
theorem dX9_requireSlot_9 : decode cX9_requireSlot 9 = .ok (.new 73, 3) := by decide +kernel
theorem dX9_requireSlot_12 : decode cX9_requireSlot 12 = .ok (.dup, 1) := by decide +kernel
theorem dX9_requireSlot_13 : decode cX9_requireSlot 13 = .ok (.ldc_w 359, 3) := by decide +kernel
theorem dX9_requireSlot_16 : decode cX9_requireSlot 16 = .ok (.invokespecial 77, 3) := by decide +kernel
theorem dX9_requireSlot_19 : decode cX9_requireSlot 19 = .ok (.athrow, 1) := by decide +kernel
theorem dX9_requireSlot_20 : decode cX9_requireSlot 20 = .ok (.return_, 1) := by decide +kernel
theorem dX9_requirePlannable_0 : decode cX9_requirePlannable 0 = .ok (.aload_n 0, 1) := by decide +kernel
theorem dX9_requirePlannable_1 : decode cX9_requirePlannable 1 = .ok (.getfield 33, 3) := by decide +kernel
theorem dX9_requirePlannable_4 : decode cX9_requirePlannable 4 = .ok (.getfield 114, 3) := by decide +kernel
theorem dX9_requirePlannable_7 : decode cX9_requirePlannable 7 = .ok (.getfield 118, 3) := by decide +kernel
theorem dX9_requirePlannable_10 : decode cX9_requirePlannable 10 = .ok (.bipush 6, 2) := by decide +kernel
theorem dX9_requirePlannable_12 : decode cX9_requirePlannable 12 = .ok (.if_icmp .le 14, 3) := by decide +kernel
theorem dX9_requirePlannable_15 : decode cX9_requirePlannable 15 = .ok (.new 62, 3) := by decide +kernel
theorem dX9_requirePlannable_18 : decode cX9_requirePlannable 18 = .ok (.dup, 1) := by decide +kernel
theorem dX9_requirePlannable_19 : decode cX9_requirePlannable 19 = .ok (.ldc_w 361, 3) := by decide +kernel
theorem dX9_requirePlannable_22 : decode cX9_requirePlannable 22 = .ok (.invokespecial 66, 3) := by decide +kernel
theorem dX9_requirePlannable_25 : decode cX9_requirePlannable 25 = .ok (.athrow, 1) := by decide +kernel
theorem dX9_requirePlannable_26 : decode cX9_requirePlannable 26 = .ok (.return_, 1) := by decide +kernel
theorem dX9_wordPlace_0 : decode cX9_wordPlace 0 = .ok (.iload_n 0, 1) := by decide +kernel
theorem dX9_wordPlace_1 : decode cX9_wordPlace 1 = .ok (.bipush 16, 2) := by decide +kernel
theorem dX9_wordPlace_3 : decode cX9_wordPlace 3 = .ok (.imul, 1) := by decide +kernel
theorem dX9_wordPlace_4 : decode cX9_wordPlace 4 = .ok (.iload_n 1, 1) := by decide +kernel
theorem dX9_wordPlace_5 : decode cX9_wordPlace 5 = .ok (.iadd, 1) := by decide +kernel
theorem dX9_wordPlace_6 : decode cX9_wordPlace 6 = .ok (.bipush 8, 2) := by decide +kernel
theorem dX9_wordPlace_8 : decode cX9_wordPlace 8 = .ok (.imul, 1) := by decide +kernel
theorem dX9_wordPlace_9 : decode cX9_wordPlace 9 = .ok (.iload_n 2, 1) := by decide +kernel
theorem dX9_wordPlace_10 : decode cX9_wordPlace 10 = .ok (.iadd, 1) := by decide +kernel
theorem dX9_wordPlace_11 : decode cX9_wordPlace 11 = .ok (.ireturn, 1) := by decide +kernel
theorem dX9_lanePlace_0 : decode cX9_lanePlace 0 = .ok (.iload_n 0, 1) := by decide +kernel
theorem dX9_lanePlace_1 : decode cX9_lanePlace 1 = .ok (.iconst 4, 1) := by decide +kernel
theorem dX9_lanePlace_2 : decode cX9_lanePlace 2 = .ok (.imul, 1) := by decide +kernel
theorem dX9_lanePlace_3 : decode cX9_lanePlace 3 = .ok (.iload_n 1, 1) := by decide +kernel
theorem dX9_lanePlace_4 : decode cX9_lanePlace 4 = .ok (.iadd, 1) := by decide +kernel
theorem dX9_lanePlace_5 : decode cX9_lanePlace 5 = .ok (.bipush 8, 2) := by decide +kernel
theorem dX9_lanePlace_7 : decode cX9_lanePlace 7 = .ok (.imul, 1) := by decide +kernel
theorem dX9_lanePlace_8 : decode cX9_lanePlace 8 = .ok (.iload_n 2, 1) := by decide +kernel
theorem dX9_lanePlace_9 : decode cX9_lanePlace 9 = .ok (.iadd, 1) := by decide +kernel
theorem dX9_lanePlace_10 : decode cX9_lanePlace 10 = .ok (.ireturn, 1) := by decide +kernel
theorem dX9_copyWords_0 : decode cX9_copyWords 0 = .ok (.aload_n 0, 1) := by decide +kernel
theorem dX9_copyWords_1 : decode cX9_copyWords 1 = .ok (.iload_n 1, 1) := by decide +kernel
theorem dX9_copyWords_2 : decode cX9_copyWords 2 = .ok (.aload_n 2, 1) := by decide +kernel
theorem dX9_copyWords_3 : decode cX9_copyWords 3 = .ok (.iload_n 3, 1) := by decide +kernel
theorem dX9_copyWords_4 : decode cX9_copyWords 4 = .ok (.bipush 8, 2) := by decide +kernel
theorem dX9_copyWords_6 : decode cX9_copyWords 6 = .ok (.invokestatic 363, 3) := by decide +kernel
theorem dX9_copyWords_9 : decode cX9_copyWords 9 = .ok (.return_, 1) := by decide +kernel
theorem dX9_isIn_0 : decode cX9_isIn 0 = .ok (.iload_n 1, 1) := by decide +kernel
theorem dX9_isIn_1 : decode cX9_isIn 1 = .ok (.iload_n 0, 1) := by decide +kernel
theorem dX9_isIn_2 : decode cX9_isIn 2 = .ok (.ishr, 1) := by decide +kernel
theorem dX9_isIn_3 : decode cX9_isIn 3 = .ok (.iconst 1, 1) := by decide +kernel
theorem dX9_isIn_4 : decode cX9_isIn 4 = .ok (.iand, 1) := by decide +kernel
theorem dX9_isIn_5 : decode cX9_isIn 5 = .ok (.ifCond .eq 7, 3) := by decide +kernel
theorem dX9_isIn_8 : decode cX9_isIn 8 = .ok (.iconst 1, 1) := by decide +kernel
theorem dX9_isIn_9 : decode cX9_isIn 9 = .ok (.goto 4, 3) := by decide +kernel
theorem dX9_isIn_12 : decode cX9_isIn 12 = .ok (.iconst 0, 1) := by decide +kernel
theorem dX9_isIn_13 : decode cX9_isIn 13 = .ok (.ireturn, 1) := by decide +kernel
theorem dX9_lowestBank_0 : decode cX9_lowestBank 0 = .ok (.iconst 0, 1) := by decide +kernel
theorem dX9_lowestBank_1 : decode cX9_lowestBank 1 = .ok (.istore_n 1, 1) := by decide +kernel
theorem dX9_lowestBank_2 : decode cX9_lowestBank 2 = .ok (.iload_n 1, 1) := by decide +kernel
theorem dX9_lowestBank_3 : decode cX9_lowestBank 3 = .ok (.bipush 7, 2) := by decide +kernel
theorem dX9_lowestBank_5 : decode cX9_lowestBank 5 = .ok (.if_icmp .ge 17, 3) := by decide +kernel
theorem dX9_lowestBank_8 : decode cX9_lowestBank 8 = .ok (.iload_n 1, 1) := by decide +kernel
theorem dX9_lowestBank_9 : decode cX9_lowestBank 9 = .ok (.iload_n 0, 1) := by decide +kernel
theorem dX9_lowestBank_10 : decode cX9_lowestBank 10 = .ok (.invokestatic 369, 3) := by decide +kernel
theorem dX9_lowestBank_13 : decode cX9_lowestBank 13 = .ok (.ifCond .ne 9, 3) := by decide +kernel
theorem dX9_lowestBank_16 : decode cX9_lowestBank 16 = .ok (.iinc 1 1, 3) := by decide +kernel
theorem dX9_lowestBank_19 : decode cX9_lowestBank 19 = .ok (.goto (-17), 3) := by decide +kernel
theorem dX9_lowestBank_22 : decode cX9_lowestBank 22 = .ok (.iload_n 1, 1) := by decide +kernel
theorem dX9_lowestBank_23 : decode cX9_lowestBank 23 = .ok (.ireturn, 1) := by decide +kernel
theorem dX9_combiningSteps_0 : decode cX9_combiningSteps 0 = .ok (.iconst 0, 1) := by decide +kernel
theorem dX9_combiningSteps_1 : decode cX9_combiningSteps 1 = .ok (.istore_n 1, 1) := by decide +kernel
theorem dX9_combiningSteps_2 : decode cX9_combiningSteps 2 = .ok (.iload_n 1, 1) := by decide +kernel
theorem dX9_combiningSteps_3 : decode cX9_combiningSteps 3 = .ok (.bipush 8, 2) := by decide +kernel
theorem dX9_combiningSteps_5 : decode cX9_combiningSteps 5 = .ok (.if_icmp .ge 16, 3) := by decide +kernel
theorem dX9_combiningSteps_8 : decode cX9_combiningSteps 8 = .ok (.iconst 1, 1) := by decide +kernel
theorem dX9_combiningSteps_9 : decode cX9_combiningSteps 9 = .ok (.iload_n 1, 1) := by decide +kernel
theorem dX9_combiningSteps_10 : decode cX9_combiningSteps 10 = .ok (.ishl, 1) := by decide +kernel
theorem dX9_combiningSteps_11 : decode cX9_combiningSteps 11 = .ok (.iload_n 0, 1) := by decide +kernel
theorem dX9_combiningSteps_12 : decode cX9_combiningSteps 12 = .ok (.if_icmp .ge 9, 3) := by decide +kernel
theorem dX9_combiningSteps_15 : decode cX9_combiningSteps 15 = .ok (.iinc 1 1, 3) := by decide +kernel
theorem dX9_combiningSteps_18 : decode cX9_combiningSteps 18 = .ok (.goto (-16), 3) := by decide +kernel
theorem dX9_combiningSteps_21 : decode cX9_combiningSteps 21 = .ok (.iload_n 1, 1) := by decide +kernel
theorem dX9_combiningSteps_22 : decode cX9_combiningSteps 22 = .ok (.ireturn, 1) := by decide +kernel
theorem dX9_combine_0 : decode cX9_combine 0 = .ok (.iload_n 0, 1) := by decide +kernel
theorem dX9_combine_1 : decode cX9_combine 1 = .ok (.tableswitch 93 15 22 #[47, 51, 55, 66, 77, 81, 85, 89], 47) := by decide +kernel
theorem dX9_combine_48 : decode cX9_combine 48 = .ok (.iload_n 1, 1) := by decide +kernel
theorem dX9_combine_49 : decode cX9_combine 49 = .ok (.iload_n 2, 1) := by decide +kernel
theorem dX9_combine_50 : decode cX9_combine 50 = .ok (.iadd, 1) := by decide +kernel
theorem dX9_combine_51 : decode cX9_combine 51 = .ok (.ireturn, 1) := by decide +kernel
theorem dX9_combine_52 : decode cX9_combine 52 = .ok (.iload_n 1, 1) := by decide +kernel
theorem dX9_combine_53 : decode cX9_combine 53 = .ok (.iload_n 2, 1) := by decide +kernel
theorem dX9_combine_54 : decode cX9_combine 54 = .ok (.imul, 1) := by decide +kernel
theorem dX9_combine_55 : decode cX9_combine 55 = .ok (.ireturn, 1) := by decide +kernel
theorem dX9_combine_56 : decode cX9_combine 56 = .ok (.iload_n 1, 1) := by decide +kernel
theorem dX9_combine_57 : decode cX9_combine 57 = .ok (.iload_n 2, 1) := by decide +kernel
theorem dX9_combine_58 : decode cX9_combine 58 = .ok (.if_icmp .ge 7, 3) := by decide +kernel
theorem dX9_combine_61 : decode cX9_combine 61 = .ok (.iload_n 1, 1) := by decide +kernel
theorem dX9_combine_62 : decode cX9_combine 62 = .ok (.goto 4, 3) := by decide +kernel
theorem dX9_combine_65 : decode cX9_combine 65 = .ok (.iload_n 2, 1) := by decide +kernel
theorem dX9_combine_66 : decode cX9_combine 66 = .ok (.ireturn, 1) := by decide +kernel
theorem dX9_combine_67 : decode cX9_combine 67 = .ok (.iload_n 1, 1) := by decide +kernel
theorem dX9_combine_68 : decode cX9_combine 68 = .ok (.iload_n 2, 1) := by decide +kernel
theorem dX9_combine_69 : decode cX9_combine 69 = .ok (.if_icmp .le 7, 3) := by decide +kernel
theorem dX9_combine_72 : decode cX9_combine 72 = .ok (.iload_n 1, 1) := by decide +kernel
theorem dX9_combine_73 : decode cX9_combine 73 = .ok (.goto 4, 3) := by decide +kernel
theorem dX9_combine_76 : decode cX9_combine 76 = .ok (.iload_n 2, 1) := by decide +kernel
theorem dX9_combine_77 : decode cX9_combine 77 = .ok (.ireturn, 1) := by decide +kernel
theorem dX9_combine_78 : decode cX9_combine 78 = .ok (.iload_n 1, 1) := by decide +kernel
theorem dX9_combine_79 : decode cX9_combine 79 = .ok (.iload_n 2, 1) := by decide +kernel
theorem dX9_combine_80 : decode cX9_combine 80 = .ok (.iand, 1) := by decide +kernel
theorem dX9_combine_81 : decode cX9_combine 81 = .ok (.ireturn, 1) := by decide +kernel
theorem dX9_combine_82 : decode cX9_combine 82 = .ok (.iload_n 1, 1) := by decide +kernel
theorem dX9_combine_83 : decode cX9_combine 83 = .ok (.iload_n 2, 1) := by decide +kernel
theorem dX9_combine_84 : decode cX9_combine 84 = .ok (.ior, 1) := by decide +kernel
theorem dX9_combine_85 : decode cX9_combine 85 = .ok (.ireturn, 1) := by decide +kernel
theorem dX9_combine_86 : decode cX9_combine 86 = .ok (.iload_n 1, 1) := by decide +kernel
theorem dX9_combine_87 : decode cX9_combine 87 = .ok (.iload_n 2, 1) := by decide +kernel
theorem dX9_combine_88 : decode cX9_combine 88 = .ok (.ixor, 1) := by decide +kernel
theorem dX9_combine_89 : decode cX9_combine 89 = .ok (.ireturn, 1) := by decide +kernel
theorem dX9_combine_90 : decode cX9_combine 90 = .ok (.iload_n 1, 1) := by decide +kernel
theorem dX9_combine_91 : decode cX9_combine 91 = .ok (.iload_n 2, 1) := by decide +kernel
theorem dX9_combine_92 : decode cX9_combine 92 = .ok (.isub, 1) := by decide +kernel
theorem dX9_combine_93 : decode cX9_combine 93 = .ok (.ireturn, 1) := by decide +kernel
theorem dX9_combine_94 : decode cX9_combine 94 = .ok (.iload_n 1, 1) := by decide +kernel
theorem dX9_combine_95 : decode cX9_combine 95 = .ok (.ireturn, 1) := by decide +kernel
theorem dX10_init_0 : decode cX10_init 0 = .ok (.aload_n 0, 1) := by decide +kernel
theorem dX10_init_1 : decode cX10_init 1 = .ok (.invokespecial 3, 3) := by decide +kernel
theorem dX10_init_4 : decode cX10_init 4 = .ok (.aload_n 0, 1) := by decide +kernel
theorem dX10_init_5 : decode cX10_init 5 = .ok (.sipush 1671, 3) := by decide +kernel
theorem dX10_init_8 : decode cX10_init 8 = .ok (.newarray .int, 2) := by decide +kernel
theorem dX10_init_10 : decode cX10_init 10 = .ok (.putfield 9, 3) := by decide +kernel
theorem dX10_init_13 : decode cX10_init 13 = .ok (.aload_n 0, 1) := by decide +kernel
theorem dX10_init_14 : decode cX10_init 14 = .ok (.sipush 3342, 3) := by decide +kernel
theorem dX10_init_17 : decode cX10_init 17 = .ok (.newarray .int, 2) := by decide +kernel
theorem dX10_init_19 : decode cX10_init 19 = .ok (.putfield 13, 3) := by decide +kernel
theorem dX10_init_22 : decode cX10_init 22 = .ok (.aload_n 0, 1) := by decide +kernel
theorem dX10_init_23 : decode cX10_init 23 = .ok (.sipush 1671, 3) := by decide +kernel
theorem dX10_init_26 : decode cX10_init 26 = .ok (.newarray .int, 2) := by decide +kernel
theorem dX10_init_28 : decode cX10_init 28 = .ok (.putfield 16, 3) := by decide +kernel
theorem dX10_init_31 : decode cX10_init 31 = .ok (.aload_n 0, 1) := by decide +kernel
theorem dX10_init_32 : decode cX10_init 32 = .ok (.iconst 2, 1) := by decide +kernel
theorem dX10_init_33 : decode cX10_init 33 = .ok (.newarray .boolean, 2) := by decide +kernel
theorem dX10_init_35 : decode cX10_init 35 = .ok (.putfield 19, 3) := by decide +kernel
theorem dX10_init_38 : decode cX10_init 38 = .ok (.aload_n 0, 1) := by decide +kernel
theorem dX10_init_39 : decode cX10_init 39 = .ok (.sipush 290, 3) := by decide +kernel
theorem dX10_init_42 : decode cX10_init 42 = .ok (.newarray .int, 2) := by decide +kernel
theorem dX10_init_44 : decode cX10_init 44 = .ok (.putfield 23, 3) := by decide +kernel
theorem dX10_init_47 : decode cX10_init 47 = .ok (.aload_n 0, 1) := by decide +kernel
theorem dX10_init_48 : decode cX10_init 48 = .ok (.sipush 290, 3) := by decide +kernel
theorem dX10_init_51 : decode cX10_init 51 = .ok (.newarray .int, 2) := by decide +kernel
theorem dX10_init_53 : decode cX10_init 53 = .ok (.putfield 26, 3) := by decide +kernel
theorem dX10_init_56 : decode cX10_init 56 = .ok (.aload_n 0, 1) := by decide +kernel
theorem dX10_init_57 : decode cX10_init 57 = .ok (.sipush 900, 3) := by decide +kernel
theorem dX10_init_60 : decode cX10_init 60 = .ok (.newarray .int, 2) := by decide +kernel
theorem dX10_init_62 : decode cX10_init 62 = .ok (.putfield 29, 3) := by decide +kernel
theorem dX10_init_65 : decode cX10_init 65 = .ok (.aload_n 0, 1) := by decide +kernel
