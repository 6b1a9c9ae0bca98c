theorem dX0_init_0 : decode cX0_init 0 = .ok (.aload_n 0, 1) := by decide +kernel
theorem dX0_init_1 : decode cX0_init 1 = .ok (.invokespecial 3, 3) := by decide +kernel
theorem dX0_init_4 : decode cX0_init 4 = .ok (.aload_n 0, 1) := by decide +kernel
theorem dX0_init_5 : decode cX0_init 5 = .ok (.bipush 16, 2) := by decide +kernel
theorem dX0_init_7 : decode cX0_init 7 = .ok (.newarray .int, 2) := by decide +kernel
theorem dX0_init_9 : decode cX0_init 9 = .ok (.putfield 9, 3) := by decide +kernel
theorem dX0_init_12 : decode cX0_init 12 = .ok (.aload_n 0, 1) := by decide +kernel
theorem dX0_init_13 : decode cX0_init 13 = .ok (.bipush 120, 2) := by decide +kernel
theorem dX0_init_15 : decode cX0_init 15 = .ok (.newarray .int, 2) := by decide +kernel
theorem dX0_init_17 : decode cX0_init 17 = .ok (.putfield 15, 3) := by decide +kernel
theorem dX0_init_20 : decode cX0_init 20 = .ok (.return_, 1) := by decide +kernel
theorem dX0_clear_0 : decode cX0_clear 0 = .ok (.aload_n 0, 1) := by decide +kernel
theorem dX0_clear_1 : decode cX0_clear 1 = .ok (.iconst 0, 1) := by decide +kernel
theorem dX0_clear_2 : decode cX0_clear 2 = .ok (.putfield 18, 3) := by decide +kernel
theorem dX0_clear_5 : decode cX0_clear 5 = .ok (.aload_n 0, 1) := by decide +kernel
theorem dX0_clear_6 : decode cX0_clear 6 = .ok (.iconst 0, 1) := by decide +kernel
theorem dX0_clear_7 : decode cX0_clear 7 = .ok (.putfield 22, 3) := by decide +kernel
theorem dX0_clear_10 : decode cX0_clear 10 = .ok (.return_, 1) := by decide +kernel
theorem dX0_copyFrom_0 : decode cX0_copyFrom 0 = .ok (.aload_n 1, 1) := by decide +kernel
theorem dX0_copyFrom_1 : decode cX0_copyFrom 1 = .ok (.getfield 9, 3) := by decide +kernel
theorem dX0_copyFrom_4 : decode cX0_copyFrom 4 = .ok (.iconst 0, 1) := by decide +kernel
theorem dX0_copyFrom_5 : decode cX0_copyFrom 5 = .ok (.aload_n 0, 1) := by decide +kernel
theorem dX0_copyFrom_6 : decode cX0_copyFrom 6 = .ok (.getfield 9, 3) := by decide +kernel
theorem dX0_copyFrom_9 : decode cX0_copyFrom 9 = .ok (.iconst 0, 1) := by decide +kernel
theorem dX0_copyFrom_10 : decode cX0_copyFrom 10 = .ok (.bipush 16, 2) := by decide +kernel
theorem dX0_copyFrom_12 : decode cX0_copyFrom 12 = .ok (.invokestatic 25, 3) := by decide +kernel
theorem dX0_copyFrom_15 : decode cX0_copyFrom 15 = .ok (.aload_n 1, 1) := by decide +kernel
theorem dX0_copyFrom_16 : decode cX0_copyFrom 16 = .ok (.getfield 15, 3) := by decide +kernel
theorem dX0_copyFrom_19 : decode cX0_copyFrom 19 = .ok (.iconst 0, 1) := by decide +kernel
theorem dX0_copyFrom_20 : decode cX0_copyFrom 20 = .ok (.aload_n 0, 1) := by decide +kernel
theorem dX0_copyFrom_21 : decode cX0_copyFrom 21 = .ok (.getfield 15, 3) := by decide +kernel
theorem dX0_copyFrom_24 : decode cX0_copyFrom 24 = .ok (.iconst 0, 1) := by decide +kernel
theorem dX0_copyFrom_25 : decode cX0_copyFrom 25 = .ok (.aload_n 0, 1) := by decide +kernel
theorem dX0_copyFrom_26 : decode cX0_copyFrom 26 = .ok (.getfield 15, 3) := by decide +kernel
theorem dX0_copyFrom_29 : decode cX0_copyFrom 29 = .ok (.arraylength, 1) := by decide +kernel
theorem dX0_copyFrom_30 : decode cX0_copyFrom 30 = .ok (.invokestatic 25, 3) := by decide +kernel
theorem dX0_copyFrom_33 : decode cX0_copyFrom 33 = .ok (.aload_n 0, 1) := by decide +kernel
theorem dX0_copyFrom_34 : decode cX0_copyFrom 34 = .ok (.aload_n 1, 1) := by decide +kernel
theorem dX0_copyFrom_35 : decode cX0_copyFrom 35 = .ok (.getfield 18, 3) := by decide +kernel
theorem dX0_copyFrom_38 : decode cX0_copyFrom 38 = .ok (.putfield 18, 3) := by decide +kernel
theorem dX0_copyFrom_41 : decode cX0_copyFrom 41 = .ok (.aload_n 0, 1) := by decide +kernel
theorem dX0_copyFrom_42 : decode cX0_copyFrom 42 = .ok (.aload_n 1, 1) := by decide +kernel
theorem dX0_copyFrom_43 : decode cX0_copyFrom 43 = .ok (.getfield 22, 3) := by decide +kernel
theorem dX0_copyFrom_46 : decode cX0_copyFrom 46 = .ok (.putfield 22, 3) := by decide +kernel
theorem dX0_copyFrom_49 : decode cX0_copyFrom 49 = .ok (.return_, 1) := by decide +kernel
theorem dX0_addBatch_0 : decode cX0_addBatch 0 = .ok (.aload_n 0, 1) := by decide +kernel
theorem dX0_addBatch_1 : decode cX0_addBatch 1 = .ok (.getfield 9, 3) := by decide +kernel
theorem dX0_addBatch_4 : decode cX0_addBatch 4 = .ok (.aload_n 0, 1) := by decide +kernel
theorem dX0_addBatch_5 : decode cX0_addBatch 5 = .ok (.getfield 18, 3) := by decide +kernel
theorem dX0_addBatch_8 : decode cX0_addBatch 8 = .ok (.iload_n 1, 1) := by decide +kernel
theorem dX0_addBatch_9 : decode cX0_addBatch 9 = .ok (.iastore, 1) := by decide +kernel
theorem dX0_addBatch_10 : decode cX0_addBatch 10 = .ok (.aload_n 0, 1) := by decide +kernel
theorem dX0_addBatch_11 : decode cX0_addBatch 11 = .ok (.dup, 1) := by decide +kernel
theorem dX0_addBatch_12 : decode cX0_addBatch 12 = .ok (.getfield 18, 3) := by decide +kernel
theorem dX0_addBatch_15 : decode cX0_addBatch 15 = .ok (.iconst 1, 1) := by decide +kernel
theorem dX0_addBatch_16 : decode cX0_addBatch 16 = .ok (.iadd, 1) := by decide +kernel
theorem dX0_addBatch_17 : decode cX0_addBatch 17 = .ok (.putfield 18, 3) := by decide +kernel
theorem dX0_addBatch_20 : decode cX0_addBatch 20 = .ok (.return_, 1) := by decide +kernel
theorem dX0_takeFirst_0 : decode cX0_takeFirst 0 = .ok (.aload_n 0, 1) := by decide +kernel
theorem dX0_takeFirst_1 : decode cX0_takeFirst 1 = .ok (.getfield 9, 3) := by decide +kernel
theorem dX0_takeFirst_4 : decode cX0_takeFirst 4 = .ok (.iconst 0, 1) := by decide +kernel
theorem dX0_takeFirst_5 : decode cX0_takeFirst 5 = .ok (.iaload, 1) := by decide +kernel
theorem dX0_takeFirst_6 : decode cX0_takeFirst 6 = .ok (.istore_n 1, 1) := by decide +kernel
theorem dX0_takeFirst_7 : decode cX0_takeFirst 7 = .ok (.aload_n 0, 1) := by decide +kernel
theorem dX0_takeFirst_8 : decode cX0_takeFirst 8 = .ok (.dup, 1) := by decide +kernel
theorem dX0_takeFirst_9 : decode cX0_takeFirst 9 = .ok (.getfield 18, 3) := by decide +kernel
theorem dX0_takeFirst_12 : decode cX0_takeFirst 12 = .ok (.iconst 1, 1) := by decide +kernel
theorem dX0_takeFirst_13 : decode cX0_takeFirst 13 = .ok (.isub, 1) := by decide +kernel
theorem dX0_takeFirst_14 : decode cX0_takeFirst 14 = .ok (.putfield 18, 3) := by decide +kernel
theorem dX0_takeFirst_17 : decode cX0_takeFirst 17 = .ok (.aload_n 0, 1) := by decide +kernel
theorem dX0_takeFirst_18 : decode cX0_takeFirst 18 = .ok (.getfield 9, 3) := by decide +kernel
theorem dX0_takeFirst_21 : decode cX0_takeFirst 21 = .ok (.iconst 1, 1) := by decide +kernel
theorem dX0_takeFirst_22 : decode cX0_takeFirst 22 = .ok (.aload_n 0, 1) := by decide +kernel
theorem dX0_takeFirst_23 : decode cX0_takeFirst 23 = .ok (.getfield 9, 3) := by decide +kernel
theorem dX0_takeFirst_26 : decode cX0_takeFirst 26 = .ok (.iconst 0, 1) := by decide +kernel
theorem dX0_takeFirst_27 : decode cX0_takeFirst 27 = .ok (.aload_n 0, 1) := by decide +kernel
theorem dX0_takeFirst_28 : decode cX0_takeFirst 28 = .ok (.getfield 18, 3) := by decide +kernel
theorem dX0_takeFirst_31 : decode cX0_takeFirst 31 = .ok (.invokestatic 25, 3) := by decide +kernel
theorem dX0_takeFirst_34 : decode cX0_takeFirst 34 = .ok (.iload_n 1, 1) := by decide +kernel
theorem dX0_takeFirst_35 : decode cX0_takeFirst 35 = .ok (.ireturn, 1) := by decide +kernel
theorem dX0_noteRun_0 : decode cX0_noteRun 0 = .ok (.aload_n 0, 1) := by decide +kernel
theorem dX0_noteRun_1 : decode cX0_noteRun 1 = .ok (.getfield 22, 3) := by decide +kernel
theorem dX0_noteRun_4 : decode cX0_noteRun 4 = .ok (.bipush 40, 2) := by decide +kernel
theorem dX0_noteRun_6 : decode cX0_noteRun 6 = .ok (.invokestatic 31, 3) := by decide +kernel
theorem dX0_noteRun_9 : decode cX0_noteRun 9 = .ok (.iconst 3, 1) := by decide +kernel
theorem dX0_noteRun_10 : decode cX0_noteRun 10 = .ok (.imul, 1) := by decide +kernel
theorem dX0_noteRun_11 : decode cX0_noteRun 11 = .ok (.istore 4, 2) := by decide +kernel
theorem dX0_noteRun_13 : decode cX0_noteRun 13 = .ok (.aload_n 0, 1) := by decide +kernel
theorem dX0_noteRun_14 : decode cX0_noteRun 14 = .ok (.getfield 15, 3) := by decide +kernel
theorem dX0_noteRun_17 : decode cX0_noteRun 17 = .ok (.iload 4, 2) := by decide +kernel
theorem dX0_noteRun_19 : decode cX0_noteRun 19 = .ok (.iload_n 1, 1) := by decide +kernel
theorem dX0_noteRun_20 : decode cX0_noteRun 20 = .ok (.iastore, 1) := by decide +kernel
theorem dX0_noteRun_21 : decode cX0_noteRun 21 = .ok (.aload_n 0, 1) := by decide +kernel
theorem dX0_noteRun_22 : decode cX0_noteRun 22 = .ok (.getfield 15, 3) := by decide +kernel
theorem dX0_noteRun_25 : decode cX0_noteRun 25 = .ok (.iload 4, 2) := by decide +kernel
theorem dX0_noteRun_27 : decode cX0_noteRun 27 = .ok (.iconst 1, 1) := by decide +kernel
theorem dX0_noteRun_28 : decode cX0_noteRun 28 = .ok (.iadd, 1) := by decide +kernel
theorem dX0_noteRun_29 : decode cX0_noteRun 29 = .ok (.iload_n 2, 1) := by decide +kernel
theorem dX0_noteRun_30 : decode cX0_noteRun 30 = .ok (.iastore, 1) := by decide +kernel
theorem dX0_noteRun_31 : decode cX0_noteRun 31 = .ok (.aload_n 0, 1) := by decide +kernel
theorem dX0_noteRun_32 : decode cX0_noteRun 32 = .ok (.getfield 15, 3) := by decide +kernel
theorem dX0_noteRun_35 : decode cX0_noteRun 35 = .ok (.iload 4, 2) := by decide +kernel
theorem dX0_noteRun_37 : decode cX0_noteRun 37 = .ok (.iconst 2, 1) := by decide +kernel
theorem dX0_noteRun_38 : decode cX0_noteRun 38 = .ok (.iadd, 1) := by decide +kernel
theorem dX0_noteRun_39 : decode cX0_noteRun 39 = .ok (.iload_n 3, 1) := by decide +kernel
theorem dX0_noteRun_40 : decode cX0_noteRun 40 = .ok (.iastore, 1) := by decide +kernel
theorem dX0_noteRun_41 : decode cX0_noteRun 41 = .ok (.aload_n 0, 1) := by decide +kernel
theorem dX0_noteRun_42 : decode cX0_noteRun 42 = .ok (.dup, 1) := by decide +kernel
theorem dX0_noteRun_43 : decode cX0_noteRun 43 = .ok (.getfield 22, 3) := by decide +kernel
theorem dX0_noteRun_46 : decode cX0_noteRun 46 = .ok (.iconst 1, 1) := by decide +kernel
theorem dX0_noteRun_47 : decode cX0_noteRun 47 = .ok (.iadd, 1) := by decide +kernel
theorem dX0_noteRun_48 : decode cX0_noteRun 48 = .ok (.putfield 22, 3) := by decide +kernel
theorem dX0_noteRun_51 : decode cX0_noteRun 51 = .ok (.return_, 1) := by decide +kernel
theorem dX1_init_0 : decode cX1_init 0 = .ok (.aload_n 0, 1) := by decide +kernel
theorem dX1_init_1 : decode cX1_init 1 = .ok (.invokespecial 3, 3) := by decide +kernel
theorem dX1_init_4 : decode cX1_init 4 = .ok (.aload_n 0, 1) := by decide +kernel
theorem dX1_init_5 : decode cX1_init 5 = .ok (.bipush 8, 2) := by decide +kernel
theorem dX1_init_7 : decode cX1_init 7 = .ok (.newarray .int, 2) := by decide +kernel
theorem dX1_init_9 : decode cX1_init 9 = .ok (.putfield 9, 3) := by decide +kernel
theorem dX1_init_12 : decode cX1_init 12 = .ok (.aload_n 0, 1) := by decide +kernel
theorem dX1_init_13 : decode cX1_init 13 = .ok (.bipush 8, 2) := by decide +kernel
theorem dX1_init_15 : decode cX1_init 15 = .ok (.newarray .boolean, 2) := by decide +kernel
theorem dX1_init_17 : decode cX1_init 17 = .ok (.putfield 15, 3) := by decide +kernel
theorem dX1_init_20 : decode cX1_init 20 = .ok (.aload_n 0, 1) := by decide +kernel
theorem dX1_init_21 : decode cX1_init 21 = .ok (.bipush 8, 2) := by decide +kernel
theorem dX1_init_23 : decode cX1_init 23 = .ok (.newarray .int, 2) := by decide +kernel
theorem dX1_init_25 : decode cX1_init 25 = .ok (.putfield 19, 3) := by decide +kernel
theorem dX1_init_28 : decode cX1_init 28 = .ok (.aload_n 0, 1) := by decide +kernel
theorem dX1_init_29 : decode cX1_init 29 = .ok (.bipush 64, 2) := by decide +kernel
theorem dX1_init_31 : decode cX1_init 31 = .ok (.newarray .int, 2) := by decide +kernel
theorem dX1_init_33 : decode cX1_init 33 = .ok (.putfield 22, 3) := by decide +kernel
theorem dX1_init_36 : decode cX1_init 36 = .ok (.return_, 1) := by decide +kernel
theorem dX1_clear_0 : decode cX1_clear 0 = .ok (.iconst 0, 1) := by decide +kernel
theorem dX1_clear_1 : decode cX1_clear 1 = .ok (.istore_n 1, 1) := by decide +kernel
theorem dX1_clear_2 : decode cX1_clear 2 = .ok (.iload_n 1, 1) := by decide +kernel
theorem dX1_clear_3 : decode cX1_clear 3 = .ok (.bipush 8, 2) := by decide +kernel
theorem dX1_clear_5 : decode cX1_clear 5 = .ok (.if_icmp .ge 15, 3) := by decide +kernel
theorem dX1_clear_8 : decode cX1_clear 8 = .ok (.aload_n 0, 1) := by decide +kernel
theorem dX1_clear_9 : decode cX1_clear 9 = .ok (.iload_n 1, 1) := by decide +kernel
theorem dX1_clear_10 : decode cX1_clear 10 = .ok (.invokevirtual 25, 3) := by decide +kernel
theorem dX1_clear_13 : decode cX1_clear 13 = .ok (.pop, 1) := by decide +kernel
theorem dX1_clear_14 : decode cX1_clear 14 = .ok (.iinc 1 1, 3) := by decide +kernel
theorem dX1_clear_17 : decode cX1_clear 17 = .ok (.goto (-15), 3) := by decide +kernel
theorem dX1_clear_20 : decode cX1_clear 20 = .ok (.aload_n 0, 1) := by decide +kernel
theorem dX1_clear_21 : decode cX1_clear 21 = .ok (.iconst 0, 1) := by decide +kernel
theorem dX1_clear_22 : decode cX1_clear 22 = .ok (.putfield 29, 3) := by decide +kernel
theorem dX1_clear_25 : decode cX1_clear 25 = .ok (.aload_n 0, 1) := by decide +kernel
theorem dX1_clear_26 : decode cX1_clear 26 = .ok (.iconst 0, 1) := by decide +kernel
theorem dX1_clear_27 : decode cX1_clear 27 = .ok (.putfield 33, 3) := by decide +kernel
theorem dX1_clear_30 : decode cX1_clear 30 = .ok (.aload_n 0, 1) := by decide +kernel
theorem dX1_clear_31 : decode cX1_clear 31 = .ok (.iconst 0, 1) := by decide +kernel
theorem dX1_clear_32 : decode cX1_clear 32 = .ok (.putfield 36, 3) := by decide +kernel
theorem dX1_clear_35 : decode cX1_clear 35 = .ok (.return_, 1) := by decide +kernel
theorem dX1_copyFrom_0 : decode cX1_copyFrom 0 = .ok (.iconst 0, 1) := by decide +kernel
theorem dX1_copyFrom_1 : decode cX1_copyFrom 1 = .ok (.istore_n 2, 1) := by decide +kernel
theorem dX1_copyFrom_2 : decode cX1_copyFrom 2 = .ok (.iload_n 2, 1) := by decide +kernel
theorem dX1_copyFrom_3 : decode cX1_copyFrom 3 = .ok (.bipush 8, 2) := by decide +kernel
theorem dX1_copyFrom_5 : decode cX1_copyFrom 5 = .ok (.if_icmp .ge 45, 3) := by decide +kernel
theorem dX1_copyFrom_8 : decode cX1_copyFrom 8 = .ok (.aload_n 0, 1) := by decide +kernel
theorem dX1_copyFrom_9 : decode cX1_copyFrom 9 = .ok (.getfield 9, 3) := by decide +kernel
theorem dX1_copyFrom_12 : decode cX1_copyFrom 12 = .ok (.iload_n 2, 1) := by decide +kernel
theorem dX1_copyFrom_13 : decode cX1_copyFrom 13 = .ok (.aload_n 1, 1) := by decide +kernel
theorem dX1_copyFrom_14 : decode cX1_copyFrom 14 = .ok (.getfield 9, 3) := by decide +kernel
theorem dX1_copyFrom_17 : decode cX1_copyFrom 17 = .ok (.iload_n 2, 1) := by decide +kernel
theorem dX1_copyFrom_18 : decode cX1_copyFrom 18 = .ok (.iaload, 1) := by decide +kernel
theorem dX1_copyFrom_19 : decode cX1_copyFrom 19 = .ok (.iastore, 1) := by decide +kernel
theorem dX1_copyFrom_20 : decode cX1_copyFrom 20 = .ok (.aload_n 0, 1) := by decide +kernel
theorem dX1_copyFrom_21 : decode cX1_copyFrom 21 = .ok (.getfield 15, 3) := by decide +kernel
theorem dX1_copyFrom_24 : decode cX1_copyFrom 24 = .ok (.iload_n 2, 1) := by decide +kernel
theorem dX1_copyFrom_25 : decode cX1_copyFrom 25 = .ok (.aload_n 1, 1) := by decide +kernel
theorem dX1_copyFrom_26 : decode cX1_copyFrom 26 = .ok (.getfield 15, 3) := by decide +kernel
theorem dX1_copyFrom_29 : decode cX1_copyFrom 29 = .ok (.iload_n 2, 1) := by decide +kernel
theorem dX1_copyFrom_30 : decode cX1_copyFrom 30 = .ok (.baload, 1) := by decide +kernel
theorem dX1_copyFrom_31 : decode cX1_copyFrom 31 = .ok (.bastore, 1) := by decide +kernel
theorem dX1_copyFrom_32 : decode cX1_copyFrom 32 = .ok (.aload_n 0, 1) := by decide +kernel
theorem dX1_copyFrom_33 : decode cX1_copyFrom 33 = .ok (.getfield 19, 3) := by decide +kernel
theorem dX1_copyFrom_36 : decode cX1_copyFrom 36 = .ok (.iload_n 2, 1) := by decide +kernel
theorem dX1_copyFrom_37 : decode cX1_copyFrom 37 = .ok (.aload_n 1, 1) := by decide +kernel
theorem dX1_copyFrom_38 : decode cX1_copyFrom 38 = .ok (.getfield 19, 3) := by decide +kernel
theorem dX1_copyFrom_41 : decode cX1_copyFrom 41 = .ok (.iload_n 2, 1) := by decide +kernel
theorem dX1_copyFrom_42 : decode cX1_copyFrom 42 = .ok (.iaload, 1) := by decide +kernel
theorem dX1_copyFrom_43 : decode cX1_copyFrom 43 = .ok (.iastore, 1) := by decide +kernel
theorem dX1_copyFrom_44 : decode cX1_copyFrom 44 = .ok (.iinc 2 1, 3) := by decide +kernel
theorem dX1_copyFrom_47 : decode cX1_copyFrom 47 = .ok (.goto (-45), 3) := by decide +kernel
theorem dX1_copyFrom_50 : decode cX1_copyFrom 50 = .ok (.aload_n 1, 1) := by decide +kernel
theorem dX1_copyFrom_51 : decode cX1_copyFrom 51 = .ok (.getfield 22, 3) := by decide +kernel
theorem dX1_copyFrom_54 : decode cX1_copyFrom 54 = .ok (.iconst 0, 1) := by decide +kernel
theorem dX1_copyFrom_55 : decode cX1_copyFrom 55 = .ok (.aload_n 0, 1) := by decide +kernel
theorem dX1_copyFrom_56 : decode cX1_copyFrom 56 = .ok (.getfield 22, 3) := by decide +kernel
theorem dX1_copyFrom_59 : decode cX1_copyFrom 59 = .ok (.iconst 0, 1) := by decide +kernel
theorem dX1_copyFrom_60 : decode cX1_copyFrom 60 = .ok (.aload_n 0, 1) := by decide +kernel
theorem dX1_copyFrom_61 : decode cX1_copyFrom 61 = .ok (.getfield 22, 3) := by decide +kernel
theorem dX1_copyFrom_64 : decode cX1_copyFrom 64 = .ok (.arraylength, 1) := by decide +kernel
theorem dX1_copyFrom_65 : decode cX1_copyFrom 65 = .ok (.invokestatic 39, 3) := by decide +kernel
theorem dX1_copyFrom_68 : decode cX1_copyFrom 68 = .ok (.aload_n 0, 1) := by decide +kernel
theorem dX1_copyFrom_69 : decode cX1_copyFrom 69 = .ok (.aload_n 1, 1) := by decide +kernel
theorem dX1_copyFrom_70 : decode cX1_copyFrom 70 = .ok (.getfield 29, 3) := by decide +kernel
theorem dX1_copyFrom_73 : decode cX1_copyFrom 73 = .ok (.putfield 29, 3) := by decide +kernel
theorem dX1_copyFrom_76 : decode cX1_copyFrom 76 = .ok (.aload_n 0, 1) := by decide +kernel
theorem dX1_copyFrom_77 : decode cX1_copyFrom 77 = .ok (.aload_n 1, 1) := by decide +kernel
theorem dX1_copyFrom_78 : decode cX1_copyFrom 78 = .ok (.getfield 33, 3) := by decide +kernel
theorem dX1_copyFrom_81 : decode cX1_copyFrom 81 = .ok (.putfield 33, 3) := by decide +kernel
theorem dX1_copyFrom_84 : decode cX1_copyFrom 84 = .ok (.aload_n 0, 1) := by decide +kernel
theorem dX1_copyFrom_85 : decode cX1_copyFrom 85 = .ok (.aload_n 1, 1) := by decide +kernel
theorem dX1_copyFrom_86 : decode cX1_copyFrom 86 = .ok (.getfield 36, 3) := by decide +kernel
theorem dX1_copyFrom_89 : decode cX1_copyFrom 89 = .ok (.putfield 36, 3) := by decide +kernel
theorem dX1_copyFrom_92 : decode cX1_copyFrom 92 = .ok (.return_, 1) := by decide +kernel
theorem dX1_lineCount_0 : decode cX1_lineCount 0 = .ok (.iconst 0, 1) := by decide +kernel
theorem dX1_lineCount_1 : decode cX1_lineCount 1 = .ok (.istore_n 1, 1) := by decide +kernel
theorem dX1_lineCount_2 : decode cX1_lineCount 2 = .ok (.iconst 0, 1) := by decide +kernel
theorem dX1_lineCount_3 : decode cX1_lineCount 3 = .ok (.istore_n 2, 1) := by decide +kernel
theorem dX1_lineCount_4 : decode cX1_lineCount 4 = .ok (.iload_n 2, 1) := by decide +kernel
theorem dX1_lineCount_5 : decode cX1_lineCount 5 = .ok (.bipush 8, 2) := by decide +kernel
theorem dX1_lineCount_7 : decode cX1_lineCount 7 = .ok (.if_icmp .ge 22, 3) := by decide +kernel
theorem dX1_lineCount_10 : decode cX1_lineCount 10 = .ok (.aload_n 0, 1) := by decide +kernel
theorem dX1_lineCount_11 : decode cX1_lineCount 11 = .ok (.getfield 9, 3) := by decide +kernel
theorem dX1_lineCount_14 : decode cX1_lineCount 14 = .ok (.iload_n 2, 1) := by decide +kernel
theorem dX1_lineCount_15 : decode cX1_lineCount 15 = .ok (.iaload, 1) := by decide +kernel
theorem dX1_lineCount_16 : decode cX1_lineCount 16 = .ok (.iconst (-1), 1) := by decide +kernel
theorem dX1_lineCount_17 : decode cX1_lineCount 17 = .ok (.if_icmp .eq 6, 3) := by decide +kernel
theorem dX1_lineCount_20 : decode cX1_lineCount 20 = .ok (.iinc 1 1, 3) := by decide +kernel
theorem dX1_lineCount_23 : decode cX1_lineCount 23 = .ok (.iinc 2 1, 3) := by decide +kernel
theorem dX1_lineCount_26 : decode cX1_lineCount 26 = .ok (.goto (-22), 3) := by decide +kernel
theorem dX1_lineCount_29 : decode cX1_lineCount 29 = .ok (.iload_n 1, 1) := by decide +kernel
theorem dX1_lineCount_30 : decode cX1_lineCount 30 = .ok (.ireturn, 1) := by decide +kernel
theorem dX1_lineOf_0 : decode cX1_lineOf 0 = .ok (.aload_n 0, 1) := by decide +kernel
theorem dX1_lineOf_1 : decode cX1_lineOf 1 = .ok (.iload_n 1, 1) := by decide +kernel
theorem dX1_lineOf_2 : decode cX1_lineOf 2 = .ok (.bipush 16, 2) := by decide +kernel
theorem dX1_lineOf_4 : decode cX1_lineOf 4 = .ok (.imul, 1) := by decide +kernel
theorem dX1_lineOf_5 : decode cX1_lineOf 5 = .ok (.iload_n 2, 1) := by decide +kernel
theorem dX1_lineOf_6 : decode cX1_lineOf 6 = .ok (.iadd, 1) := by decide +kernel
theorem dX1_lineOf_7 : decode cX1_lineOf 7 = .ok (.invokevirtual 45, 3) := by decide +kernel
theorem dX1_lineOf_10 : decode cX1_lineOf 10 = .ok (.ireturn, 1) := by decide +kernel
theorem dX1_lineWith_0 : decode cX1_lineWith 0 = .ok (.iconst 0, 1) := by decide +kernel
theorem dX1_lineWith_1 : decode cX1_lineWith 1 = .ok (.istore_n 2, 1) := by decide +kernel
theorem dX1_lineWith_2 : decode cX1_lineWith 2 = .ok (.iload_n 2, 1) := by decide +kernel
theorem dX1_lineWith_3 : decode cX1_lineWith 3 = .ok (.bipush 8, 2) := by decide +kernel
theorem dX1_lineWith_5 : decode cX1_lineWith 5 = .ok (.if_icmp .ge 21, 3) := by decide +kernel
theorem dX1_lineWith_8 : decode cX1_lineWith 8 = .ok (.aload_n 0, 1) := by decide +kernel
theorem dX1_lineWith_9 : decode cX1_lineWith 9 = .ok (.getfield 9, 3) := by decide +kernel
theorem dX1_lineWith_12 : decode cX1_lineWith 12 = .ok (.iload_n 2, 1) := by decide +kernel
theorem dX1_lineWith_13 : decode cX1_lineWith 13 = .ok (.iaload, 1) := by decide +kernel
theorem dX1_lineWith_14 : decode cX1_lineWith 14 = .ok (.iload_n 1, 1) := by decide +kernel
theorem dX1_lineWith_15 : decode cX1_lineWith 15 = .ok (.if_icmp .ne 5, 3) := by decide +kernel
theorem dX1_lineWith_18 : decode cX1_lineWith 18 = .ok (.iload_n 2, 1) := by decide +kernel
theorem dX1_lineWith_19 : decode cX1_lineWith 19 = .ok (.ireturn, 1) := by decide +kernel
theorem dX1_lineWith_20 : decode cX1_lineWith 20 = .ok (.iinc 2 1, 3) := by decide +kernel
theorem dX1_lineWith_23 : decode cX1_lineWith 23 = .ok (.goto (-21), 3) := by decide +kernel
theorem dX1_lineWith_26 : decode cX1_lineWith 26 = .ok (.iconst (-1), 1) := by decide +kernel
theorem dX1_lineWith_27 : decode cX1_lineWith 27 = .ok (.ireturn, 1) := by decide +kernel
theorem dX1_useLine_0 : decode cX1_useLine 0 = .ok (.aload_n 0, 1) := by decide +kernel
theorem dX1_useLine_1 : decode cX1_useLine 1 = .ok (.iload_n 1, 1) := by decide +kernel
theorem dX1_useLine_2 : decode cX1_useLine 2 = .ok (.iload_n 2, 1) := by decide +kernel
theorem dX1_useLine_3 : decode cX1_useLine 3 = .ok (.invokevirtual 49, 3) := by decide +kernel
theorem dX1_useLine_6 : decode cX1_useLine 6 = .ok (.istore 5, 2) := by decide +kernel
theorem dX1_useLine_8 : decode cX1_useLine 8 = .ok (.iload 5, 2) := by decide +kernel
theorem dX1_useLine_10 : decode cX1_useLine 10 = .ok (.iconst (-1), 1) := by decide +kernel
theorem dX1_useLine_11 : decode cX1_useLine 11 = .ok (.if_icmp .eq 16, 3) := by decide +kernel
theorem dX1_useLine_14 : decode cX1_useLine 14 = .ok (.aload_n 0, 1) := by decide +kernel
theorem dX1_useLine_15 : decode cX1_useLine 15 = .ok (.dup, 1) := by decide +kernel
theorem dX1_useLine_16 : decode cX1_useLine 16 = .ok (.getfield 29, 3) := by decide +kernel
theorem dX1_useLine_19 : decode cX1_useLine 19 = .ok (.iconst 1, 1) := by decide +kernel
theorem dX1_useLine_20 : decode cX1_useLine 20 = .ok (.iadd, 1) := by decide +kernel
theorem dX1_useLine_21 : decode cX1_useLine 21 = .ok (.putfield 29, 3) := by decide +kernel
theorem dX1_useLine_24 : decode cX1_useLine 24 = .ok (.goto 34, 3) := by decide +kernel
theorem dX1_useLine_27 : decode cX1_useLine 27 = .ok (.aload_n 0, 1) := by decide +kernel
theorem dX1_useLine_28 : decode cX1_useLine 28 = .ok (.dup, 1) := by decide +kernel
theorem dX1_useLine_29 : decode cX1_useLine 29 = .ok (.getfield 33, 3) := by decide +kernel
theorem dX1_useLine_32 : decode cX1_useLine 32 = .ok (.iconst 1, 1) := by decide +kernel
theorem dX1_useLine_33 : decode cX1_useLine 33 = .ok (.iadd, 1) := by decide +kernel
theorem dX1_useLine_34 : decode cX1_useLine 34 = .ok (.putfield 33, 3) := by decide +kernel
theorem dX1_useLine_37 : decode cX1_useLine 37 = .ok (.iload_n 3, 1) := by decide +kernel
theorem dX1_useLine_38 : decode cX1_useLine 38 = .ok (.ifCond .ne 5, 3) := by decide +kernel
theorem dX1_useLine_41 : decode cX1_useLine 41 = .ok (.iconst (-1), 1) := by decide +kernel
theorem dX1_useLine_42 : decode cX1_useLine 42 = .ok (.ireturn, 1) := by decide +kernel
theorem dX1_useLine_43 : decode cX1_useLine 43 = .ok (.aload_n 0, 1) := by decide +kernel
theorem dX1_useLine_44 : decode cX1_useLine 44 = .ok (.iload_n 1, 1) := by decide +kernel
theorem dX1_useLine_45 : decode cX1_useLine 45 = .ok (.bipush 16, 2) := by decide +kernel
theorem dX1_useLine_47 : decode cX1_useLine 47 = .ok (.imul, 1) := by decide +kernel
theorem dX1_useLine_48 : decode cX1_useLine 48 = .ok (.iload_n 2, 1) := by decide +kernel
theorem dX1_useLine_49 : decode cX1_useLine 49 = .ok (.iadd, 1) := by decide +kernel
theorem dX1_useLine_50 : decode cX1_useLine 50 = .ok (.iload_n 3, 1) := by decide +kernel
theorem dX1_useLine_51 : decode cX1_useLine 51 = .ok (.aload 4, 2) := by decide +kernel
theorem dX1_useLine_53 : decode cX1_useLine 53 = .ok (.invokevirtual 53, 3) := by decide +kernel
theorem dX1_useLine_56 : decode cX1_useLine 56 = .ok (.istore 5, 2) := by decide +kernel
theorem dX1_useLine_58 : decode cX1_useLine 58 = .ok (.aload_n 0, 1) := by decide +kernel
theorem dX1_useLine_59 : decode cX1_useLine 59 = .ok (.getfield 19, 3) := by decide +kernel
theorem dX1_useLine_62 : decode cX1_useLine 62 = .ok (.iload 5, 2) := by decide +kernel
theorem dX1_useLine_64 : decode cX1_useLine 64 = .ok (.aload_n 0, 1) := by decide +kernel
theorem dX1_useLine_65 : decode cX1_useLine 65 = .ok (.getfield 29, 3) := by decide +kernel
theorem dX1_useLine_68 : decode cX1_useLine 68 = .ok (.aload_n 0, 1) := by decide +kernel
theorem dX1_useLine_69 : decode cX1_useLine 69 = .ok (.getfield 33, 3) := by decide +kernel
theorem dX1_useLine_72 : decode cX1_useLine 72 = .ok (.iadd, 1) := by decide +kernel
theorem dX1_useLine_73 : decode cX1_useLine 73 = .ok (.iastore, 1) := by decide +kernel
theorem dX1_useLine_74 : decode cX1_useLine 74 = .ok (.iload 5, 2) := by decide +kernel
theorem dX1_useLine_76 : decode cX1_useLine 76 = .ok (.ireturn, 1) := by decide +kernel
theorem dX1_makeLine_0 : decode cX1_makeLine 0 = .ok (.aload_n 0, 1) := by decide +kernel
theorem dX1_makeLine_1 : decode cX1_makeLine 1 = .ok (.invokevirtual 57, 3) := by decide +kernel
theorem dX1_makeLine_4 : decode cX1_makeLine 4 = .ok (.iload_n 2, 1) := by decide +kernel
theorem dX1_makeLine_5 : decode cX1_makeLine 5 = .ok (.if_icmp .ge 11, 3) := by decide +kernel
theorem dX1_makeLine_8 : decode cX1_makeLine 8 = .ok (.aload_n 0, 1) := by decide +kernel
theorem dX1_makeLine_9 : decode cX1_makeLine 9 = .ok (.iconst (-1), 1) := by decide +kernel
theorem dX1_makeLine_10 : decode cX1_makeLine 10 = .ok (.invokevirtual 45, 3) := by decide +kernel
theorem dX1_makeLine_13 : decode cX1_makeLine 13 = .ok (.goto 7, 3) := by decide +kernel
theorem dX1_makeLine_16 : decode cX1_makeLine 16 = .ok (.aload_n 0, 1) := by decide +kernel
theorem dX1_makeLine_17 : decode cX1_makeLine 17 = .ok (.invokevirtual 61, 3) := by decide +kernel
theorem dX1_makeLine_20 : decode cX1_makeLine 20 = .ok (.istore 4, 2) := by decide +kernel
theorem dX1_makeLine_22 : decode cX1_makeLine 22 = .ok (.aload_n 0, 1) := by decide +kernel
theorem dX1_makeLine_23 : decode cX1_makeLine 23 = .ok (.iload 4, 2) := by decide +kernel
theorem dX1_makeLine_25 : decode cX1_makeLine 25 = .ok (.aload_n 3, 1) := by decide +kernel
theorem dX1_makeLine_26 : decode cX1_makeLine 26 = .ok (.invokevirtual 64, 3) := by decide +kernel
theorem dX1_makeLine_29 : decode cX1_makeLine 29 = .ok (.pop, 1) := by decide +kernel
theorem dX1_makeLine_30 : decode cX1_makeLine 30 = .ok (.aload_n 0, 1) := by decide +kernel
theorem dX1_makeLine_31 : decode cX1_makeLine 31 = .ok (.getfield 9, 3) := by decide +kernel
theorem dX1_makeLine_34 : decode cX1_makeLine 34 = .ok (.iload 4, 2) := by decide +kernel
theorem dX1_makeLine_36 : decode cX1_makeLine 36 = .ok (.iload_n 1, 1) := by decide +kernel
theorem dX1_makeLine_37 : decode cX1_makeLine 37 = .ok (.iastore, 1) := by decide +kernel
theorem dX1_makeLine_38 : decode cX1_makeLine 38 = .ok (.aload_n 0, 1) := by decide +kernel
theorem dX1_makeLine_39 : decode cX1_makeLine 39 = .ok (.getfield 15, 3) := by decide +kernel
theorem dX1_makeLine_42 : decode cX1_makeLine 42 = .ok (.iload 4, 2) := by decide +kernel
theorem dX1_makeLine_44 : decode cX1_makeLine 44 = .ok (.iconst 0, 1) := by decide +kernel
theorem dX1_makeLine_45 : decode cX1_makeLine 45 = .ok (.bastore, 1) := by decide +kernel
theorem dX1_makeLine_46 : decode cX1_makeLine 46 = .ok (.aload_n 3, 1) := by decide +kernel
theorem dX1_makeLine_47 : decode cX1_makeLine 47 = .ok (.getfield 68, 3) := by decide +kernel
theorem dX1_makeLine_50 : decode cX1_makeLine 50 = .ok (.iload_n 1, 1) := by decide +kernel
theorem dX1_makeLine_51 : decode cX1_makeLine 51 = .ok (.bipush 8, 2) := by decide +kernel
theorem dX1_makeLine_53 : decode cX1_makeLine 53 = .ok (.imul, 1) := by decide +kernel
theorem dX1_makeLine_54 : decode cX1_makeLine 54 = .ok (.aload_n 0, 1) := by decide +kernel
theorem dX1_makeLine_55 : decode cX1_makeLine 55 = .ok (.getfield 22, 3) := by decide +kernel
theorem dX1_makeLine_58 : decode cX1_makeLine 58 = .ok (.iload 4, 2) := by decide +kernel
theorem dX1_makeLine_60 : decode cX1_makeLine 60 = .ok (.bipush 8, 2) := by decide +kernel
theorem dX1_makeLine_62 : decode cX1_makeLine 62 = .ok (.imul, 1) := by decide +kernel
theorem dX1_makeLine_63 : decode cX1_makeLine 63 = .ok (.invokestatic 71, 3) := by decide +kernel
theorem dX1_makeLine_66 : decode cX1_makeLine 66 = .ok (.iload 4, 2) := by decide +kernel
theorem dX1_makeLine_68 : decode cX1_makeLine 68 = .ok (.ireturn, 1) := by decide +kernel
theorem dX1_oldestLine_0 : decode cX1_oldestLine 0 = .ok (.iconst 0, 1) := by decide +kernel
theorem dX1_oldestLine_1 : decode cX1_oldestLine 1 = .ok (.istore_n 1, 1) := by decide +kernel
theorem dX1_oldestLine_2 : decode cX1_oldestLine 2 = .ok (.iconst 1, 1) := by decide +kernel
theorem dX1_oldestLine_3 : decode cX1_oldestLine 3 = .ok (.istore_n 2, 1) := by decide +kernel
theorem dX1_oldestLine_4 : decode cX1_oldestLine 4 = .ok (.iload_n 2, 1) := by decide +kernel
theorem dX1_oldestLine_5 : decode cX1_oldestLine 5 = .ok (.bipush 8, 2) := by decide +kernel
theorem dX1_oldestLine_7 : decode cX1_oldestLine 7 = .ok (.if_icmp .ge 56, 3) := by decide +kernel
theorem dX1_oldestLine_10 : decode cX1_oldestLine 10 = .ok (.aload_n 0, 1) := by decide +kernel
theorem dX1_oldestLine_11 : decode cX1_oldestLine 11 = .ok (.getfield 9, 3) := by decide +kernel
theorem dX1_oldestLine_14 : decode cX1_oldestLine 14 = .ok (.iload_n 1, 1) := by decide +kernel
theorem dX1_oldestLine_15 : decode cX1_oldestLine 15 = .ok (.iaload, 1) := by decide +kernel
theorem dX1_oldestLine_16 : decode cX1_oldestLine 16 = .ok (.iconst (-1), 1) := by decide +kernel
theorem dX1_oldestLine_17 : decode cX1_oldestLine 17 = .ok (.if_icmp .eq 18, 3) := by decide +kernel
theorem dX1_oldestLine_20 : decode cX1_oldestLine 20 = .ok (.aload_n 0, 1) := by decide +kernel
theorem dX1_oldestLine_21 : decode cX1_oldestLine 21 = .ok (.getfield 19, 3) := by decide +kernel
theorem dX1_oldestLine_24 : decode cX1_oldestLine 24 = .ok (.iload_n 2, 1) := by decide +kernel
theorem dX1_oldestLine_25 : decode cX1_oldestLine 25 = .ok (.iaload, 1) := by decide +kernel
theorem dX1_oldestLine_26 : decode cX1_oldestLine 26 = .ok (.aload_n 0, 1) := by decide +kernel
theorem dX1_oldestLine_27 : decode cX1_oldestLine 27 = .ok (.getfield 19, 3) := by decide +kernel
theorem dX1_oldestLine_30 : decode cX1_oldestLine 30 = .ok (.iload_n 1, 1) := by decide +kernel
theorem dX1_oldestLine_31 : decode cX1_oldestLine 31 = .ok (.iaload, 1) := by decide +kernel
theorem dX1_oldestLine_32 : decode cX1_oldestLine 32 = .ok (.if_icmp .ge 7, 3) := by decide +kernel
theorem dX1_oldestLine_35 : decode cX1_oldestLine 35 = .ok (.iconst 1, 1) := by decide +kernel
theorem dX1_oldestLine_36 : decode cX1_oldestLine 36 = .ok (.goto 4, 3) := by decide +kernel
theorem dX1_oldestLine_39 : decode cX1_oldestLine 39 = .ok (.iconst 0, 1) := by decide +kernel
theorem dX1_oldestLine_40 : decode cX1_oldestLine 40 = .ok (.istore_n 3, 1) := by decide +kernel
theorem dX1_oldestLine_41 : decode cX1_oldestLine 41 = .ok (.aload_n 0, 1) := by decide +kernel
theorem dX1_oldestLine_42 : decode cX1_oldestLine 42 = .ok (.getfield 9, 3) := by decide +kernel
theorem dX1_oldestLine_45 : decode cX1_oldestLine 45 = .ok (.iload_n 2, 1) := by decide +kernel
theorem dX1_oldestLine_46 : decode cX1_oldestLine 46 = .ok (.iaload, 1) := by decide +kernel
theorem dX1_oldestLine_47 : decode cX1_oldestLine 47 = .ok (.iconst (-1), 1) := by decide +kernel
theorem dX1_oldestLine_48 : decode cX1_oldestLine 48 = .ok (.if_icmp .eq 9, 3) := by decide +kernel
theorem dX1_oldestLine_51 : decode cX1_oldestLine 51 = .ok (.iload_n 3, 1) := by decide +kernel
theorem dX1_oldestLine_52 : decode cX1_oldestLine 52 = .ok (.ifCond .eq 5, 3) := by decide +kernel
theorem dX1_oldestLine_55 : decode cX1_oldestLine 55 = .ok (.iload_n 2, 1) := by decide +kernel
theorem dX1_oldestLine_56 : decode cX1_oldestLine 56 = .ok (.istore_n 1, 1) := by decide +kernel
theorem dX1_oldestLine_57 : decode cX1_oldestLine 57 = .ok (.iinc 2 1, 3) := by decide +kernel
theorem dX1_oldestLine_60 : decode cX1_oldestLine 60 = .ok (.goto (-56), 3) := by decide +kernel
theorem dX1_oldestLine_63 : decode cX1_oldestLine 63 = .ok (.iload_n 1, 1) := by decide +kernel
theorem dX1_oldestLine_64 : decode cX1_oldestLine 64 = .ok (.ireturn, 1) := by decide +kernel
theorem dX1_writeBack_0 : decode cX1_writeBack 0 = .ok (.iload_n 1, 1) := by decide +kernel
theorem dX1_writeBack_1 : decode cX1_writeBack 1 = .ok (.iconst (-1), 1) := by decide +kernel
theorem dX1_writeBack_2 : decode cX1_writeBack 2 = .ok (.if_icmp .eq 22, 3) := by decide +kernel
theorem dX1_writeBack_5 : decode cX1_writeBack 5 = .ok (.aload_n 0, 1) := by decide +kernel
theorem dX1_writeBack_6 : decode cX1_writeBack 6 = .ok (.getfield 9, 3) := by decide +kernel
theorem dX1_writeBack_9 : decode cX1_writeBack 9 = .ok (.iload_n 1, 1) := by decide +kernel
theorem dX1_writeBack_10 : decode cX1_writeBack 10 = .ok (.iaload, 1) := by decide +kernel
theorem dX1_writeBack_11 : decode cX1_writeBack 11 = .ok (.iconst (-1), 1) := by decide +kernel
theorem dX1_writeBack_12 : decode cX1_writeBack 12 = .ok (.if_icmp .eq 12, 3) := by decide +kernel
theorem dX1_writeBack_15 : decode cX1_writeBack 15 = .ok (.aload_n 0, 1) := by decide +kernel
theorem dX1_writeBack_16 : decode cX1_writeBack 16 = .ok (.getfield 15, 3) := by decide +kernel
theorem dX1_writeBack_19 : decode cX1_writeBack 19 = .ok (.iload_n 1, 1) := by decide +kernel
theorem dX1_writeBack_20 : decode cX1_writeBack 20 = .ok (.baload, 1) := by decide +kernel
theorem dX1_writeBack_21 : decode cX1_writeBack 21 = .ok (.ifCond .ne 5, 3) := by decide +kernel
theorem dX1_writeBack_24 : decode cX1_writeBack 24 = .ok (.iconst 0, 1) := by decide +kernel
theorem dX1_writeBack_25 : decode cX1_writeBack 25 = .ok (.ireturn, 1) := by decide +kernel
theorem dX1_writeBack_26 : decode cX1_writeBack 26 = .ok (.aload_n 0, 1) := by decide +kernel
theorem dX1_writeBack_27 : decode cX1_writeBack 27 = .ok (.getfield 22, 3) := by decide +kernel
theorem dX1_writeBack_30 : decode cX1_writeBack 30 = .ok (.iload_n 1, 1) := by decide +kernel
theorem dX1_writeBack_31 : decode cX1_writeBack 31 = .ok (.bipush 8, 2) := by decide +kernel
theorem dX1_writeBack_33 : decode cX1_writeBack 33 = .ok (.imul, 1) := by decide +kernel
theorem dX1_writeBack_34 : decode cX1_writeBack 34 = .ok (.aload_n 2, 1) := by decide +kernel
theorem dX1_writeBack_35 : decode cX1_writeBack 35 = .ok (.getfield 68, 3) := by decide +kernel
theorem dX1_writeBack_38 : decode cX1_writeBack 38 = .ok (.aload_n 0, 1) := by decide +kernel
theorem dX1_writeBack_39 : decode cX1_writeBack 39 = .ok (.getfield 9, 3) := by decide +kernel
theorem dX1_writeBack_42 : decode cX1_writeBack 42 = .ok (.iload_n 1, 1) := by decide +kernel
theorem dX1_writeBack_43 : decode cX1_writeBack 43 = .ok (.iaload, 1) := by decide +kernel
theorem dX1_writeBack_44 : decode cX1_writeBack 44 = .ok (.bipush 8, 2) := by decide +kernel
theorem dX1_writeBack_46 : decode cX1_writeBack 46 = .ok (.imul, 1) := by decide +kernel
theorem dX1_writeBack_47 : decode cX1_writeBack 47 = .ok (.invokestatic 71, 3) := by decide +kernel
theorem dX1_writeBack_50 : decode cX1_writeBack 50 = .ok (.aload_n 0, 1) := by decide +kernel
theorem dX1_writeBack_51 : decode cX1_writeBack 51 = .ok (.getfield 15, 3) := by decide +kernel
theorem dX1_writeBack_54 : decode cX1_writeBack 54 = .ok (.iload_n 1, 1) := by decide +kernel
theorem dX1_writeBack_55 : decode cX1_writeBack 55 = .ok (.iconst 0, 1) := by decide +kernel
theorem dX1_writeBack_56 : decode cX1_writeBack 56 = .ok (.bastore, 1) := by decide +kernel
theorem dX1_writeBack_57 : decode cX1_writeBack 57 = .ok (.aload_n 0, 1) := by decide +kernel
theorem dX1_writeBack_58 : decode cX1_writeBack 58 = .ok (.dup, 1) := by decide +kernel
theorem dX1_writeBack_59 : decode cX1_writeBack 59 = .ok (.getfield 36, 3) := by decide +kernel
theorem dX1_writeBack_62 : decode cX1_writeBack 62 = .ok (.iconst 1, 1) := by decide +kernel
theorem dX1_writeBack_63 : decode cX1_writeBack 63 = .ok (.iadd, 1) := by decide +kernel
theorem dX1_writeBack_64 : decode cX1_writeBack 64 = .ok (.putfield 36, 3) := by decide +kernel
theorem dX1_writeBack_67 : decode cX1_writeBack 67 = .ok (.iconst 1, 1) := by decide +kernel
theorem dX1_writeBack_68 : decode cX1_writeBack 68 = .ok (.ireturn, 1) := by decide +kernel
theorem dX1_removeLine_0 : decode cX1_removeLine 0 = .ok (.iload_n 1, 1) := by decide +kernel
theorem dX1_removeLine_1 : decode cX1_removeLine 1 = .ok (.iconst (-1), 1) := by decide +kernel
theorem dX1_removeLine_2 : decode cX1_removeLine 2 = .ok (.if_icmp .ne 5, 3) := by decide +kernel
theorem dX1_removeLine_5 : decode cX1_removeLine 5 = .ok (.iconst 0, 1) := by decide +kernel
theorem dX1_removeLine_6 : decode cX1_removeLine 6 = .ok (.ireturn, 1) := by decide +kernel
theorem dX1_removeLine_7 : decode cX1_removeLine 7 = .ok (.aload_n 0, 1) := by decide +kernel
theorem dX1_removeLine_8 : decode cX1_removeLine 8 = .ok (.getfield 9, 3) := by decide +kernel
theorem dX1_removeLine_11 : decode cX1_removeLine 11 = .ok (.iload_n 1, 1) := by decide +kernel
theorem dX1_removeLine_12 : decode cX1_removeLine 12 = .ok (.iconst (-1), 1) := by decide +kernel
theorem dX1_removeLine_13 : decode cX1_removeLine 13 = .ok (.iastore, 1) := by decide +kernel
theorem dX1_removeLine_14 : decode cX1_removeLine 14 = .ok (.iconst 1, 1) := by decide +kernel
theorem dX1_removeLine_15 : decode cX1_removeLine 15 = .ok (.ireturn, 1) := by decide +kernel
theorem dX1_differs_0 : decode cX1_differs 0 = .ok (.iconst 0, 1) := by decide +kernel
theorem dX1_differs_1 : decode cX1_differs 1 = .ok (.istore 4, 2) := by decide +kernel
theorem dX1_differs_3 : decode cX1_differs 3 = .ok (.iload 4, 2) := by decide +kernel
theorem dX1_differs_5 : decode cX1_differs 5 = .ok (.iload_n 2, 1) := by decide +kernel
theorem dX1_differs_6 : decode cX1_differs 6 = .ok (.if_icmp .ge 43, 3) := by decide +kernel
theorem dX1_differs_9 : decode cX1_differs 9 = .ok (.aload_n 0, 1) := by decide +kernel
theorem dX1_differs_10 : decode cX1_differs 10 = .ok (.getfield 22, 3) := by decide +kernel
theorem dX1_differs_13 : decode cX1_differs 13 = .ok (.iload_n 1, 1) := by decide +kernel
theorem dX1_differs_14 : decode cX1_differs 14 = .ok (.bipush 8, 2) := by decide +kernel
theorem dX1_differs_16 : decode cX1_differs 16 = .ok (.imul, 1) := by decide +kernel
theorem dX1_differs_17 : decode cX1_differs 17 = .ok (.iload 4, 2) := by decide +kernel
theorem dX1_differs_19 : decode cX1_differs 19 = .ok (.iadd, 1) := by decide +kernel
theorem dX1_differs_20 : decode cX1_differs 20 = .ok (.iaload, 1) := by decide +kernel
theorem dX1_differs_21 : decode cX1_differs 21 = .ok (.aload_n 3, 1) := by decide +kernel
theorem dX1_differs_22 : decode cX1_differs 22 = .ok (.getfield 68, 3) := by decide +kernel
theorem dX1_differs_25 : decode cX1_differs 25 = .ok (.aload_n 0, 1) := by decide +kernel
theorem dX1_differs_26 : decode cX1_differs 26 = .ok (.getfield 9, 3) := by decide +kernel
theorem dX1_differs_29 : decode cX1_differs 29 = .ok (.iload_n 1, 1) := by decide +kernel
theorem dX1_differs_30 : decode cX1_differs 30 = .ok (.iaload, 1) := by decide +kernel
theorem dX1_differs_31 : decode cX1_differs 31 = .ok (.bipush 8, 2) := by decide +kernel
theorem dX1_differs_33 : decode cX1_differs 33 = .ok (.imul, 1) := by decide +kernel
theorem dX1_differs_34 : decode cX1_differs 34 = .ok (.iload 4, 2) := by decide +kernel
theorem dX1_differs_36 : decode cX1_differs 36 = .ok (.iadd, 1) := by decide +kernel
theorem dX1_differs_37 : decode cX1_differs 37 = .ok (.iaload, 1) := by decide +kernel
theorem dX1_differs_38 : decode cX1_differs 38 = .ok (.if_icmp .eq 5, 3) := by decide +kernel
theorem dX1_differs_41 : decode cX1_differs 41 = .ok (.iconst 1, 1) := by decide +kernel
theorem dX1_differs_42 : decode cX1_differs 42 = .ok (.ireturn, 1) := by decide +kernel
theorem dX1_differs_43 : decode cX1_differs 43 = .ok (.iinc 4 1, 3) := by decide +kernel
theorem dX1_differs_46 : decode cX1_differs 46 = .ok (.goto (-43), 3) := by decide +kernel
theorem dX1_differs_49 : decode cX1_differs 49 = .ok (.iconst 0, 1) := by decide +kernel
theorem dX1_differs_50 : decode cX1_differs 50 = .ok (.ireturn, 1) := by decide +kernel
theorem dX1_writeBackAccessed_0 : decode cX1_writeBackAccessed 0 = .ok (.iconst 0, 1) := by decide +kernel
theorem dX1_writeBackAccessed_1 : decode cX1_writeBackAccessed 1 = .ok (.istore 4, 2) := by decide +kernel
theorem dX1_writeBackAccessed_3 : decode cX1_writeBackAccessed 3 = .ok (.iload 4, 2) := by decide +kernel
theorem dX1_writeBackAccessed_5 : decode cX1_writeBackAccessed 5 = .ok (.bipush 8, 2) := by decide +kernel
theorem dX1_writeBackAccessed_7 : decode cX1_writeBackAccessed 7 = .ok (.if_icmp .ge 50, 3) := by decide +kernel
theorem dX1_writeBackAccessed_10 : decode cX1_writeBackAccessed 10 = .ok (.aload_n 0, 1) := by decide +kernel
theorem dX1_writeBackAccessed_11 : decode cX1_writeBackAccessed 11 = .ok (.getfield 9, 3) := by decide +kernel
theorem dX1_writeBackAccessed_14 : decode cX1_writeBackAccessed 14 = .ok (.iload 4, 2) := by decide +kernel
theorem dX1_writeBackAccessed_16 : decode cX1_writeBackAccessed 16 = .ok (.iaload, 1) := by decide +kernel
theorem dX1_writeBackAccessed_17 : decode cX1_writeBackAccessed 17 = .ok (.istore 5, 2) := by decide +kernel
theorem dX1_writeBackAccessed_19 : decode cX1_writeBackAccessed 19 = .ok (.iload 5, 2) := by decide +kernel
theorem dX1_writeBackAccessed_21 : decode cX1_writeBackAccessed 21 = .ok (.iconst (-1), 1) := by decide +kernel
theorem dX1_writeBackAccessed_22 : decode cX1_writeBackAccessed 22 = .ok (.if_icmp .eq 29, 3) := by decide +kernel
theorem dX1_writeBackAccessed_25 : decode cX1_writeBackAccessed 25 = .ok (.aload_n 1, 1) := by decide +kernel
theorem dX1_writeBackAccessed_26 : decode cX1_writeBackAccessed 26 = .ok (.iload_n 2, 1) := by decide +kernel
theorem dX1_writeBackAccessed_27 : decode cX1_writeBackAccessed 27 = .ok (.iload 5, 2) := by decide +kernel
theorem dX1_writeBackAccessed_29 : decode cX1_writeBackAccessed 29 = .ok (.bipush 16, 2) := by decide +kernel
theorem dX1_writeBackAccessed_31 : decode cX1_writeBackAccessed 31 = .ok (.idiv, 1) := by decide +kernel
theorem dX1_writeBackAccessed_32 : decode cX1_writeBackAccessed 32 = .ok (.iload 5, 2) := by decide +kernel
theorem dX1_writeBackAccessed_34 : decode cX1_writeBackAccessed 34 = .ok (.bipush 16, 2) := by decide +kernel
theorem dX1_writeBackAccessed_36 : decode cX1_writeBackAccessed 36 = .ok (.irem, 1) := by decide +kernel
theorem dX1_writeBackAccessed_37 : decode cX1_writeBackAccessed 37 = .ok (.invokevirtual 75, 3) := by decide +kernel
theorem dX1_writeBackAccessed_40 : decode cX1_writeBackAccessed 40 = .ok (.ifCond .eq 11, 3) := by decide +kernel
theorem dX1_writeBackAccessed_43 : decode cX1_writeBackAccessed 43 = .ok (.aload_n 0, 1) := by decide +kernel
theorem dX1_writeBackAccessed_44 : decode cX1_writeBackAccessed 44 = .ok (.iload 4, 2) := by decide +kernel
theorem dX1_writeBackAccessed_46 : decode cX1_writeBackAccessed 46 = .ok (.aload_n 3, 1) := by decide +kernel
theorem dX1_writeBackAccessed_47 : decode cX1_writeBackAccessed 47 = .ok (.invokevirtual 64, 3) := by decide +kernel
theorem dX1_writeBackAccessed_50 : decode cX1_writeBackAccessed 50 = .ok (.pop, 1) := by decide +kernel
theorem dX1_writeBackAccessed_51 : decode cX1_writeBackAccessed 51 = .ok (.iinc 4 1, 3) := by decide +kernel
theorem dX1_writeBackAccessed_54 : decode cX1_writeBackAccessed 54 = .ok (.goto (-51), 3) := by decide +kernel
theorem dX1_writeBackAccessed_57 : decode cX1_writeBackAccessed 57 = .ok (.return_, 1) := by decide +kernel
theorem dX1_removeStored_0 : decode cX1_removeStored 0 = .ok (.iconst 0, 1) := by decide +kernel
theorem dX1_removeStored_1 : decode cX1_removeStored 1 = .ok (.istore_n 3, 1) := by decide +kernel
theorem dX1_removeStored_2 : decode cX1_removeStored 2 = .ok (.iload_n 3, 1) := by decide +kernel
theorem dX1_removeStored_3 : decode cX1_removeStored 3 = .ok (.bipush 8, 2) := by decide +kernel
theorem dX1_removeStored_5 : decode cX1_removeStored 5 = .ok (.if_icmp .ge 47, 3) := by decide +kernel
theorem dX1_removeStored_8 : decode cX1_removeStored 8 = .ok (.aload_n 0, 1) := by decide +kernel
theorem dX1_removeStored_9 : decode cX1_removeStored 9 = .ok (.getfield 9, 3) := by decide +kernel
theorem dX1_removeStored_12 : decode cX1_removeStored 12 = .ok (.iload_n 3, 1) := by decide +kernel
theorem dX1_removeStored_13 : decode cX1_removeStored 13 = .ok (.iaload, 1) := by decide +kernel
theorem dX1_removeStored_14 : decode cX1_removeStored 14 = .ok (.istore 4, 2) := by decide +kernel
theorem dX1_removeStored_16 : decode cX1_removeStored 16 = .ok (.iload 4, 2) := by decide +kernel
theorem dX1_removeStored_18 : decode cX1_removeStored 18 = .ok (.iconst (-1), 1) := by decide +kernel
theorem dX1_removeStored_19 : decode cX1_removeStored 19 = .ok (.if_icmp .eq 27, 3) := by decide +kernel
theorem dX1_removeStored_22 : decode cX1_removeStored 22 = .ok (.aload_n 1, 1) := by decide +kernel
theorem dX1_removeStored_23 : decode cX1_removeStored 23 = .ok (.iload_n 2, 1) := by decide +kernel
theorem dX1_removeStored_24 : decode cX1_removeStored 24 = .ok (.iload 4, 2) := by decide +kernel
theorem dX1_removeStored_26 : decode cX1_removeStored 26 = .ok (.bipush 16, 2) := by decide +kernel
theorem dX1_removeStored_28 : decode cX1_removeStored 28 = .ok (.idiv, 1) := by decide +kernel
theorem dX1_removeStored_29 : decode cX1_removeStored 29 = .ok (.iload 4, 2) := by decide +kernel
theorem dX1_removeStored_31 : decode cX1_removeStored 31 = .ok (.bipush 16, 2) := by decide +kernel
theorem dX1_removeStored_33 : decode cX1_removeStored 33 = .ok (.irem, 1) := by decide +kernel
theorem dX1_removeStored_34 : decode cX1_removeStored 34 = .ok (.invokevirtual 81, 3) := by decide +kernel
theorem dX1_removeStored_37 : decode cX1_removeStored 37 = .ok (.ifCond .eq 9, 3) := by decide +kernel
theorem dX1_removeStored_40 : decode cX1_removeStored 40 = .ok (.aload_n 0, 1) := by decide +kernel
theorem dX1_removeStored_41 : decode cX1_removeStored 41 = .ok (.iload_n 3, 1) := by decide +kernel
theorem dX1_removeStored_42 : decode cX1_removeStored 42 = .ok (.invokevirtual 25, 3) := by decide +kernel
theorem dX1_removeStored_45 : decode cX1_removeStored 45 = .ok (.pop, 1) := by decide +kernel
theorem dX1_removeStored_46 : decode cX1_removeStored 46 = .ok (.iinc 3 1, 3) := by decide +kernel
theorem dX1_removeStored_49 : decode cX1_removeStored 49 = .ok (.goto (-47), 3) := by decide +kernel
theorem dX1_removeStored_52 : decode cX1_removeStored 52 = .ok (.return_, 1) := by decide +kernel
theorem dX2_init_0 : decode cX2_init 0 = .ok (.aload_n 0, 1) := by decide +kernel
theorem dX2_init_1 : decode cX2_init 1 = .ok (.invokespecial 3, 3) := by decide +kernel
theorem dX2_init_4 : decode cX2_init 4 = .ok (.aload_n 0, 1) := by decide +kernel
theorem dX2_init_5 : decode cX2_init 5 = .ok (.new 9, 3) := by decide +kernel
theorem dX2_init_8 : decode cX2_init 8 = .ok (.dup, 1) := by decide +kernel
theorem dX2_init_9 : decode cX2_init 9 = .ok (.invokespecial 11, 3) := by decide +kernel
theorem dX2_init_12 : decode cX2_init 12 = .ok (.putfield 12, 3) := by decide +kernel
theorem dX2_init_15 : decode cX2_init 15 = .ok (.return_, 1) := by decide +kernel
theorem dX2_parse_0 : decode cX2_parse 0 = .ok (.aload_n 0, 1) := by decide +kernel
theorem dX2_parse_1 : decode cX2_parse 1 = .ok (.getfield 12, 3) := by decide +kernel
theorem dX2_parse_4 : decode cX2_parse 4 = .ok (.aload_n 1, 1) := by decide +kernel
theorem dX2_parse_5 : decode cX2_parse 5 = .ok (.iload_n 2, 1) := by decide +kernel
theorem dX2_parse_6 : decode cX2_parse 6 = .ok (.invokevirtual 18, 3) := by decide +kernel
theorem dX2_parse_9 : decode cX2_parse 9 = .ok (.aload_n 0, 1) := by decide +kernel
theorem dX2_parse_10 : decode cX2_parse 10 = .ok (.aload_n 3, 1) := by decide +kernel
theorem dX2_parse_11 : decode cX2_parse 11 = .ok (.putfield 22, 3) := by decide +kernel
theorem dX2_parse_14 : decode cX2_parse 14 = .ok (.aload_n 0, 1) := by decide +kernel
theorem dX2_parse_15 : decode cX2_parse 15 = .ok (.getfield 22, 3) := by decide +kernel
theorem dX2_parse_18 : decode cX2_parse 18 = .ok (.invokevirtual 26, 3) := by decide +kernel
theorem dX2_parse_21 : decode cX2_parse 21 = .ok (.aload_n 0, 1) := by decide +kernel
theorem dX2_parse_22 : decode cX2_parse 22 = .ok (.iconst 0, 1) := by decide +kernel
theorem dX2_parse_23 : decode cX2_parse 23 = .ok (.putfield 31, 3) := by decide +kernel
theorem dX2_parse_26 : decode cX2_parse 26 = .ok (.aload_n 0, 1) := by decide +kernel
theorem dX2_parse_27 : decode cX2_parse 27 = .ok (.iconst (-1), 1) := by decide +kernel
theorem dX2_parse_28 : decode cX2_parse 28 = .ok (.putfield 35, 3) := by decide +kernel
theorem dX2_parse_31 : decode cX2_parse 31 = .ok (.aload_n 0, 1) := by decide +kernel
theorem dX2_parse_32 : decode cX2_parse 32 = .ok (.iconst 0, 1) := by decide +kernel
theorem dX2_parse_33 : decode cX2_parse 33 = .ok (.invokevirtual 38, 3) := by decide +kernel
theorem dX2_parse_36 : decode cX2_parse 36 = .ok (.aload_n 0, 1) := by decide +kernel
theorem dX2_parse_37 : decode cX2_parse 37 = .ok (.invokevirtual 42, 3) := by decide +kernel
theorem dX2_parse_40 : decode cX2_parse 40 = .ok (.aload_n 0, 1) := by decide +kernel
theorem dX2_parse_41 : decode cX2_parse 41 = .ok (.invokevirtual 45, 3) := by decide +kernel
theorem dX2_parse_44 : decode cX2_parse 44 = .ok (.iconst 0, 1) := by decide +kernel
theorem dX2_parse_45 : decode cX2_parse 45 = .ok (.istore 4, 2) := by decide +kernel
theorem dX2_parse_47 : decode cX2_parse 47 = .ok (.iload 4, 2) := by decide +kernel
theorem dX2_parse_49 : decode cX2_parse 49 = .ok (.bipush 12, 2) := by decide +kernel
theorem dX2_parse_51 : decode cX2_parse 51 = .ok (.if_icmp .gt 29, 3) := by decide +kernel
theorem dX2_parse_54 : decode cX2_parse 54 = .ok (.aload_n 0, 1) := by decide +kernel
theorem dX2_parse_55 : decode cX2_parse 55 = .ok (.getfield 31, 3) := by decide +kernel
theorem dX2_parse_58 : decode cX2_parse 58 = .ok (.ifCond .ne 16, 3) := by decide +kernel
theorem dX2_parse_61 : decode cX2_parse 61 = .ok (.aload_n 0, 1) := by decide +kernel
theorem dX2_parse_62 : decode cX2_parse 62 = .ok (.getfield 48, 3) := by decide +kernel
theorem dX2_parse_65 : decode cX2_parse 65 = .ok (.bipush 32, 2) := by decide +kernel
theorem dX2_parse_67 : decode cX2_parse 67 = .ok (.if_icmp .eq 7, 3) := by decide +kernel
theorem dX2_parse_70 : decode cX2_parse 70 = .ok (.aload_n 0, 1) := by decide +kernel
theorem dX2_parse_71 : decode cX2_parse 71 = .ok (.invokevirtual 51, 3) := by decide +kernel
theorem dX2_parse_74 : decode cX2_parse 74 = .ok (.iinc 4 1, 3) := by decide +kernel
theorem dX2_parse_77 : decode cX2_parse 77 = .ok (.goto (-30), 3) := by decide +kernel
theorem dX2_parse_80 : decode cX2_parse 80 = .ok (.return_, 1) := by decide +kernel
theorem dX2_parseSizes_0 : decode cX2_parseSizes 0 = .ok (.aload_n 0, 1) := by decide +kernel
theorem dX2_parseSizes_1 : decode cX2_parseSizes 1 = .ok (.bipush 23, 2) := by decide +kernel
theorem dX2_parseSizes_3 : decode cX2_parseSizes 3 = .ok (.invokevirtual 54, 3) := by decide +kernel
theorem dX2_parseSizes_6 : decode cX2_parseSizes 6 = .ok (.aload_n 0, 1) := by decide +kernel
theorem dX2_parseSizes_7 : decode cX2_parseSizes 7 = .ok (.getfield 22, 3) := by decide +kernel
theorem dX2_parseSizes_10 : decode cX2_parseSizes 10 = .ok (.aload_n 0, 1) := by decide +kernel
theorem dX2_parseSizes_11 : decode cX2_parseSizes 11 = .ok (.iconst 1, 1) := by decide +kernel
theorem dX2_parseSizes_12 : decode cX2_parseSizes 12 = .ok (.bipush 8, 2) := by decide +kernel
theorem dX2_parseSizes_14 : decode cX2_parseSizes 14 = .ok (.invokevirtual 57, 3) := by decide +kernel
theorem dX2_parseSizes_17 : decode cX2_parseSizes 17 = .ok (.putfield 61, 3) := by decide +kernel
theorem dX2_parseSizes_20 : decode cX2_parseSizes 20 = .ok (.aload_n 0, 1) := by decide +kernel
theorem dX2_parseSizes_21 : decode cX2_parseSizes 21 = .ok (.bipush 24, 2) := by decide +kernel
theorem dX2_parseSizes_23 : decode cX2_parseSizes 23 = .ok (.invokevirtual 54, 3) := by decide +kernel
theorem dX2_parseSizes_26 : decode cX2_parseSizes 26 = .ok (.aload_n 0, 1) := by decide +kernel
theorem dX2_parseSizes_27 : decode cX2_parseSizes 27 = .ok (.getfield 22, 3) := by decide +kernel
theorem dX2_parseSizes_30 : decode cX2_parseSizes 30 = .ok (.aload_n 0, 1) := by decide +kernel
theorem dX2_parseSizes_31 : decode cX2_parseSizes 31 = .ok (.iconst 1, 1) := by decide +kernel
theorem dX2_parseSizes_32 : decode cX2_parseSizes 32 = .ok (.bipush 16, 2) := by decide +kernel
theorem dX2_parseSizes_34 : decode cX2_parseSizes 34 = .ok (.invokevirtual 57, 3) := by decide +kernel
theorem dX2_parseSizes_37 : decode cX2_parseSizes 37 = .ok (.putfield 64, 3) := by decide +kernel
theorem dX2_parseSizes_40 : decode cX2_parseSizes 40 = .ok (.aload_n 0, 1) := by decide +kernel
theorem dX2_parseSizes_41 : decode cX2_parseSizes 41 = .ok (.bipush 25, 2) := by decide +kernel
theorem dX2_parseSizes_43 : decode cX2_parseSizes 43 = .ok (.invokevirtual 54, 3) := by decide +kernel
theorem dX2_parseSizes_46 : decode cX2_parseSizes 46 = .ok (.aload_n 0, 1) := by decide +kernel
theorem dX2_parseSizes_47 : decode cX2_parseSizes 47 = .ok (.getfield 22, 3) := by decide +kernel
theorem dX2_parseSizes_50 : decode cX2_parseSizes 50 = .ok (.aload_n 0, 1) := by decide +kernel
theorem dX2_parseSizes_51 : decode cX2_parseSizes 51 = .ok (.iconst 1, 1) := by decide +kernel
theorem dX2_parseSizes_52 : decode cX2_parseSizes 52 = .ok (.bipush 8, 2) := by decide +kernel
theorem dX2_parseSizes_54 : decode cX2_parseSizes 54 = .ok (.invokevirtual 57, 3) := by decide +kernel
theorem dX2_parseSizes_57 : decode cX2_parseSizes 57 = .ok (.putfield 67, 3) := by decide +kernel
theorem dX2_parseSizes_60 : decode cX2_parseSizes 60 = .ok (.aload_n 0, 1) := by decide +kernel
theorem dX2_parseSizes_61 : decode cX2_parseSizes 61 = .ok (.bipush 30, 2) := by decide +kernel
theorem dX2_parseSizes_63 : decode cX2_parseSizes 63 = .ok (.invokevirtual 54, 3) := by decide +kernel
theorem dX2_parseSizes_66 : decode cX2_parseSizes 66 = .ok (.return_, 1) := by decide +kernel
theorem dX2_parseSettings_0 : decode cX2_parseSettings 0 = .ok (.iconst 0, 1) := by decide +kernel
theorem dX2_parseSettings_1 : decode cX2_parseSettings 1 = .ok (.istore_n 1, 1) := by decide +kernel
theorem dX2_parseSettings_2 : decode cX2_parseSettings 2 = .ok (.iconst 0, 1) := by decide +kernel
theorem dX2_parseSettings_3 : decode cX2_parseSettings 3 = .ok (.istore_n 2, 1) := by decide +kernel
theorem dX2_parseSettings_4 : decode cX2_parseSettings 4 = .ok (.iload_n 2, 1) := by decide +kernel
theorem dX2_parseSettings_5 : decode cX2_parseSettings 5 = .ok (.bipush 9, 2) := by decide +kernel
theorem dX2_parseSettings_7 : decode cX2_parseSettings 7 = .ok (.if_icmp .gt 86, 3) := by decide +kernel
theorem dX2_parseSettings_10 : decode cX2_parseSettings 10 = .ok (.aload_n 0, 1) := by decide +kernel
theorem dX2_parseSettings_11 : decode cX2_parseSettings 11 = .ok (.getfield 48, 3) := by decide +kernel
theorem dX2_parseSettings_14 : decode cX2_parseSettings 14 = .ok (.istore_n 3, 1) := by decide +kernel
theorem dX2_parseSettings_15 : decode cX2_parseSettings 15 = .ok (.aload_n 0, 1) := by decide +kernel
theorem dX2_parseSettings_16 : decode cX2_parseSettings 16 = .ok (.getfield 31, 3) := by decide +kernel
theorem dX2_parseSettings_19 : decode cX2_parseSettings 19 = .ok (.ifCond .ne 9, 3) := by decide +kernel
theorem dX2_parseSettings_22 : decode cX2_parseSettings 22 = .ok (.iload_n 3, 1) := by decide +kernel
theorem dX2_parseSettings_23 : decode cX2_parseSettings 23 = .ok (.bipush 9, 2) := by decide +kernel
theorem dX2_parseSettings_25 : decode cX2_parseSettings 25 = .ok (.if_icmp .lt 4, 3) := by decide +kernel
theorem dX2_parseSettings_28 : decode cX2_parseSettings 28 = .ok (.return_, 1) := by decide +kernel
theorem dX2_parseSettings_29 : decode cX2_parseSettings 29 = .ok (.iload_n 1, 1) := by decide +kernel
theorem dX2_parseSettings_30 : decode cX2_parseSettings 30 = .ok (.iload_n 3, 1) := by decide +kernel
theorem dX2_parseSettings_31 : decode cX2_parseSettings 31 = .ok (.ishr, 1) := by decide +kernel
theorem dX2_parseSettings_32 : decode cX2_parseSettings 32 = .ok (.iconst 1, 1) := by decide +kernel
theorem dX2_parseSettings_33 : decode cX2_parseSettings 33 = .ok (.iand, 1) := by decide +kernel
theorem dX2_parseSettings_34 : decode cX2_parseSettings 34 = .ok (.ifCond .eq 13, 3) := by decide +kernel
theorem dX2_parseSettings_37 : decode cX2_parseSettings 37 = .ok (.aload_n 0, 1) := by decide +kernel
theorem dX2_parseSettings_38 : decode cX2_parseSettings 38 = .ok (.iconst 3, 1) := by decide +kernel
theorem dX2_parseSettings_39 : decode cX2_parseSettings 39 = .ok (.aload_n 0, 1) := by decide +kernel
theorem dX2_parseSettings_40 : decode cX2_parseSettings 40 = .ok (.getfield 70, 3) := by decide +kernel
theorem dX2_parseSettings_43 : decode cX2_parseSettings 43 = .ok (.invokevirtual 73, 3) := by decide +kernel
theorem dX2_parseSettings_46 : decode cX2_parseSettings 46 = .ok (.return_, 1) := by decide +kernel
theorem dX2_parseSettings_47 : decode cX2_parseSettings 47 = .ok (.iload_n 1, 1) := by decide +kernel
theorem dX2_parseSettings_48 : decode cX2_parseSettings 48 = .ok (.iconst 1, 1) := by decide +kernel
theorem dX2_parseSettings_49 : decode cX2_parseSettings 49 = .ok (.iload_n 3, 1) := by decide +kernel
theorem dX2_parseSettings_50 : decode cX2_parseSettings 50 = .ok (.ishl, 1) := by decide +kernel
theorem dX2_parseSettings_51 : decode cX2_parseSettings 51 = .ok (.ior, 1) := by decide +kernel
theorem dX2_parseSettings_52 : decode cX2_parseSettings 52 = .ok (.istore_n 1, 1) := by decide +kernel
theorem dX2_parseSettings_53 : decode cX2_parseSettings 53 = .ok (.aload_n 0, 1) := by decide +kernel
theorem dX2_parseSettings_54 : decode cX2_parseSettings 54 = .ok (.iload_n 3, 1) := by decide +kernel
theorem dX2_parseSettings_55 : decode cX2_parseSettings 55 = .ok (.invokevirtual 54, 3) := by decide +kernel
theorem dX2_parseSettings_58 : decode cX2_parseSettings 58 = .ok (.aload_n 0, 1) := by decide +kernel
theorem dX2_parseSettings_59 : decode cX2_parseSettings 59 = .ok (.getfield 22, 3) := by decide +kernel
theorem dX2_parseSettings_62 : decode cX2_parseSettings 62 = .ok (.getfield 77, 3) := by decide +kernel
theorem dX2_parseSettings_65 : decode cX2_parseSettings 65 = .ok (.iload_n 3, 1) := by decide +kernel
theorem dX2_parseSettings_66 : decode cX2_parseSettings 66 = .ok (.aload_n 0, 1) := by decide +kernel
theorem dX2_parseSettings_67 : decode cX2_parseSettings 67 = .ok (.getstatic 81, 3) := by decide +kernel
theorem dX2_parseSettings_70 : decode cX2_parseSettings 70 = .ok (.iload_n 3, 1) := by decide +kernel
theorem dX2_parseSettings_71 : decode cX2_parseSettings 71 = .ok (.iaload, 1) := by decide +kernel
theorem dX2_parseSettings_72 : decode cX2_parseSettings 72 = .ok (.getstatic 84, 3) := by decide +kernel
theorem dX2_parseSettings_75 : decode cX2_parseSettings 75 = .ok (.iload_n 3, 1) := by decide +kernel
theorem dX2_parseSettings_76 : decode cX2_parseSettings 76 = .ok (.iaload, 1) := by decide +kernel
theorem dX2_parseSettings_77 : decode cX2_parseSettings 77 = .ok (.invokevirtual 57, 3) := by decide +kernel
theorem dX2_parseSettings_80 : decode cX2_parseSettings 80 = .ok (.iastore, 1) := by decide +kernel
theorem dX2_parseSettings_81 : decode cX2_parseSettings 81 = .ok (.aload_n 0, 1) := by decide +kernel
theorem dX2_parseSettings_82 : decode cX2_parseSettings 82 = .ok (.bipush 30, 2) := by decide +kernel
theorem dX2_parseSettings_84 : decode cX2_parseSettings 84 = .ok (.invokevirtual 54, 3) := by decide +kernel
theorem dX2_parseSettings_87 : decode cX2_parseSettings 87 = .ok (.iinc 2 1, 3) := by decide +kernel
theorem dX2_parseSettings_90 : decode cX2_parseSettings 90 = .ok (.goto (-86), 3) := by decide +kernel
theorem dX2_parseSettings_93 : decode cX2_parseSettings 93 = .ok (.return_, 1) := by decide +kernel
theorem dX2_parseBatch_0 : decode cX2_parseBatch 0 = .ok (.aload_n 0, 1) := by decide +kernel
theorem dX2_parseBatch_1 : decode cX2_parseBatch 1 = .ok (.getfield 48, 3) := by decide +kernel
theorem dX2_parseBatch_4 : decode cX2_parseBatch 4 = .ok (.bipush 26, 2) := by decide +kernel
theorem dX2_parseBatch_6 : decode cX2_parseBatch 6 = .ok (.if_icmp .eq 13, 3) := by decide +kernel
theorem dX2_parseBatch_9 : decode cX2_parseBatch 9 = .ok (.aload_n 0, 1) := by decide +kernel
theorem dX2_parseBatch_10 : decode cX2_parseBatch 10 = .ok (.iconst 1, 1) := by decide +kernel
theorem dX2_parseBatch_11 : decode cX2_parseBatch 11 = .ok (.aload_n 0, 1) := by decide +kernel
theorem dX2_parseBatch_12 : decode cX2_parseBatch 12 = .ok (.getfield 70, 3) := by decide +kernel
theorem dX2_parseBatch_15 : decode cX2_parseBatch 15 = .ok (.invokevirtual 73, 3) := by decide +kernel
theorem dX2_parseBatch_18 : decode cX2_parseBatch 18 = .ok (.return_, 1) := by decide +kernel
theorem dX2_parseBatch_19 : decode cX2_parseBatch 19 = .ok (.aload_n 0, 1) := by decide +kernel
theorem dX2_parseBatch_20 : decode cX2_parseBatch 20 = .ok (.getfield 22, 3) := by decide +kernel
theorem dX2_parseBatch_23 : decode cX2_parseBatch 23 = .ok (.getfield 87, 3) := by decide +kernel
theorem dX2_parseBatch_26 : decode cX2_parseBatch 26 = .ok (.bipush 12, 2) := by decide +kernel
theorem dX2_parseBatch_28 : decode cX2_parseBatch 28 = .ok (.if_icmp .lt 13, 3) := by decide +kernel
theorem dX2_parseBatch_31 : decode cX2_parseBatch 31 = .ok (.aload_n 0, 1) := by decide +kernel
theorem dX2_parseBatch_32 : decode cX2_parseBatch 32 = .ok (.iconst 4, 1) := by decide +kernel
theorem dX2_parseBatch_33 : decode cX2_parseBatch 33 = .ok (.aload_n 0, 1) := by decide +kernel
theorem dX2_parseBatch_34 : decode cX2_parseBatch 34 = .ok (.getfield 70, 3) := by decide +kernel
theorem dX2_parseBatch_37 : decode cX2_parseBatch 37 = .ok (.invokevirtual 73, 3) := by decide +kernel
theorem dX2_parseBatch_40 : decode cX2_parseBatch 40 = .ok (.return_, 1) := by decide +kernel
theorem dX2_parseBatch_41 : decode cX2_parseBatch 41 = .ok (.aload_n 0, 1) := by decide +kernel
theorem dX2_parseBatch_42 : decode cX2_parseBatch 42 = .ok (.bipush 26, 2) := by decide +kernel
theorem dX2_parseBatch_44 : decode cX2_parseBatch 44 = .ok (.invokevirtual 54, 3) := by decide +kernel
theorem dX2_parseBatch_47 : decode cX2_parseBatch 47 = .ok (.aload_n 0, 1) := by decide +kernel
theorem dX2_parseBatch_48 : decode cX2_parseBatch 48 = .ok (.getfield 22, 3) := by decide +kernel
theorem dX2_parseBatch_51 : decode cX2_parseBatch 51 = .ok (.aload_n 0, 1) := by decide +kernel
theorem dX2_parseBatch_52 : decode cX2_parseBatch 52 = .ok (.invokevirtual 90, 3) := by decide +kernel
theorem dX2_parseBatch_55 : decode cX2_parseBatch 55 = .ok (.invokevirtual 94, 3) := by decide +kernel
theorem dX2_parseBatch_58 : decode cX2_parseBatch 58 = .ok (.aload_n 0, 1) := by decide +kernel
theorem dX2_parseBatch_59 : decode cX2_parseBatch 59 = .ok (.bipush 29, 2) := by decide +kernel
theorem dX2_parseBatch_61 : decode cX2_parseBatch 61 = .ok (.invokevirtual 54, 3) := by decide +kernel
theorem dX2_parseBatch_64 : decode cX2_parseBatch 64 = .ok (.iconst 0, 1) := by decide +kernel
theorem dX2_parseBatch_65 : decode cX2_parseBatch 65 = .ok (.istore_n 1, 1) := by decide +kernel
theorem dX2_parseBatch_66 : decode cX2_parseBatch 66 = .ok (.iload_n 1, 1) := by decide +kernel
theorem dX2_parseBatch_67 : decode cX2_parseBatch 67 = .ok (.bipush 60, 2) := by decide +kernel
theorem dX2_parseBatch_69 : decode cX2_parseBatch 69 = .ok (.if_icmp .gt 29, 3) := by decide +kernel
theorem dX2_parseBatch_72 : decode cX2_parseBatch 72 = .ok (.aload_n 0, 1) := by decide +kernel
theorem dX2_parseBatch_73 : decode cX2_parseBatch 73 = .ok (.getfield 31, 3) := by decide +kernel
theorem dX2_parseBatch_76 : decode cX2_parseBatch 76 = .ok (.ifCond .ne 16, 3) := by decide +kernel
theorem dX2_parseBatch_79 : decode cX2_parseBatch 79 = .ok (.aload_n 0, 1) := by decide +kernel
theorem dX2_parseBatch_80 : decode cX2_parseBatch 80 = .ok (.getfield 48, 3) := by decide +kernel
theorem dX2_parseBatch_83 : decode cX2_parseBatch 83 = .ok (.bipush 27, 2) := by decide +kernel
theorem dX2_parseBatch_85 : decode cX2_parseBatch 85 = .ok (.if_icmp .eq 7, 3) := by decide +kernel
theorem dX2_parseBatch_88 : decode cX2_parseBatch 88 = .ok (.aload_n 0, 1) := by decide +kernel
theorem dX2_parseBatch_89 : decode cX2_parseBatch 89 = .ok (.invokevirtual 97, 3) := by decide +kernel
theorem dX2_parseBatch_92 : decode cX2_parseBatch 92 = .ok (.iinc 1 1, 3) := by decide +kernel
theorem dX2_parseBatch_95 : decode cX2_parseBatch 95 = .ok (.goto (-29), 3) := by decide +kernel
theorem dX2_parseBatch_98 : decode cX2_parseBatch 98 = .ok (.aload_n 0, 1) := by decide +kernel
theorem dX2_parseBatch_99 : decode cX2_parseBatch 99 = .ok (.bipush 27, 2) := by decide +kernel
theorem dX2_parseBatch_101 : decode cX2_parseBatch 101 = .ok (.invokevirtual 54, 3) := by decide +kernel
theorem dX2_parseBatch_104 : decode cX2_parseBatch 104 = .ok (.aload_n 0, 1) := by decide +kernel
theorem dX2_parseBatch_105 : decode cX2_parseBatch 105 = .ok (.bipush 30, 2) := by decide +kernel
theorem dX2_parseBatch_107 : decode cX2_parseBatch 107 = .ok (.invokevirtual 54, 3) := by decide +kernel
theorem dX2_parseBatch_110 : decode cX2_parseBatch 110 = .ok (.aload_n 0, 1) := by decide +kernel
theorem dX2_parseBatch_111 : decode cX2_parseBatch 111 = .ok (.getfield 22, 3) := by decide +kernel
theorem dX2_parseBatch_114 : decode cX2_parseBatch 114 = .ok (.invokevirtual 100, 3) := by decide +kernel
theorem dX2_parseBatch_117 : decode cX2_parseBatch 117 = .ok (.return_, 1) := by decide +kernel
theorem dX2_takeBanks_0 : decode cX2_takeBanks 0 = .ok (.iconst 0, 1) := by decide +kernel
theorem dX2_takeBanks_1 : decode cX2_takeBanks 1 = .ok (.istore_n 1, 1) := by decide +kernel
theorem dX2_takeBanks_2 : decode cX2_takeBanks 2 = .ok (.iconst 0, 1) := by decide +kernel
theorem dX2_takeBanks_3 : decode cX2_takeBanks 3 = .ok (.istore_n 2, 1) := by decide +kernel
theorem dX2_takeBanks_4 : decode cX2_takeBanks 4 = .ok (.iload_n 2, 1) := by decide +kernel
theorem dX2_takeBanks_5 : decode cX2_takeBanks 5 = .ok (.bipush 8, 2) := by decide +kernel
theorem dX2_takeBanks_7 : decode cX2_takeBanks 7 = .ok (.if_icmp .gt 86, 3) := by decide +kernel
theorem dX2_takeBanks_10 : decode cX2_takeBanks 10 = .ok (.iload_n 2, 1) := by decide +kernel
theorem dX2_takeBanks_11 : decode cX2_takeBanks 11 = .ok (.ifCond .le 16, 3) := by decide +kernel
theorem dX2_takeBanks_14 : decode cX2_takeBanks 14 = .ok (.aload_n 0, 1) := by decide +kernel
theorem dX2_takeBanks_15 : decode cX2_takeBanks 15 = .ok (.getfield 48, 3) := by decide +kernel
theorem dX2_takeBanks_18 : decode cX2_takeBanks 18 = .ok (.bipush 29, 2) := by decide +kernel
theorem dX2_takeBanks_20 : decode cX2_takeBanks 20 = .ok (.if_icmp .ne 7, 3) := by decide +kernel
theorem dX2_takeBanks_23 : decode cX2_takeBanks 23 = .ok (.iconst 1, 1) := by decide +kernel
theorem dX2_takeBanks_24 : decode cX2_takeBanks 24 = .ok (.goto 4, 3) := by decide +kernel
theorem dX2_takeBanks_27 : decode cX2_takeBanks 27 = .ok (.iconst 0, 1) := by decide +kernel
theorem dX2_takeBanks_28 : decode cX2_takeBanks 28 = .ok (.istore_n 3, 1) := by decide +kernel
theorem dX2_takeBanks_29 : decode cX2_takeBanks 29 = .ok (.aload_n 0, 1) := by decide +kernel
theorem dX2_takeBanks_30 : decode cX2_takeBanks 30 = .ok (.getfield 31, 3) := by decide +kernel
theorem dX2_takeBanks_33 : decode cX2_takeBanks 33 = .ok (.ifCond .ne 7, 3) := by decide +kernel
theorem dX2_takeBanks_36 : decode cX2_takeBanks 36 = .ok (.iload_n 3, 1) := by decide +kernel
theorem dX2_takeBanks_37 : decode cX2_takeBanks 37 = .ok (.ifCond .eq 5, 3) := by decide +kernel
theorem dX2_takeBanks_40 : decode cX2_takeBanks 40 = .ok (.iload_n 1, 1) := by decide +kernel
theorem dX2_takeBanks_41 : decode cX2_takeBanks 41 = .ok (.ireturn, 1) := by decide +kernel
theorem dX2_takeBanks_42 : decode cX2_takeBanks 42 = .ok (.aload_n 0, 1) := by decide +kernel
theorem dX2_takeBanks_43 : decode cX2_takeBanks 43 = .ok (.getfield 70, 3) := by decide +kernel
theorem dX2_takeBanks_46 : decode cX2_takeBanks 46 = .ok (.istore 4, 2) := by decide +kernel
theorem dX2_takeBanks_48 : decode cX2_takeBanks 48 = .ok (.aload_n 0, 1) := by decide +kernel
theorem dX2_takeBanks_49 : decode cX2_takeBanks 49 = .ok (.iconst 0, 1) := by decide +kernel
theorem dX2_takeBanks_50 : decode cX2_takeBanks 50 = .ok (.aload_n 0, 1) := by decide +kernel
theorem dX2_takeBanks_51 : decode cX2_takeBanks 51 = .ok (.getfield 22, 3) := by decide +kernel
theorem dX2_takeBanks_54 : decode cX2_takeBanks 54 = .ok (.getfield 61, 3) := by decide +kernel
theorem dX2_takeBanks_57 : decode cX2_takeBanks 57 = .ok (.iconst 1, 1) := by decide +kernel
theorem dX2_takeBanks_58 : decode cX2_takeBanks 58 = .ok (.isub, 1) := by decide +kernel
theorem dX2_takeBanks_59 : decode cX2_takeBanks 59 = .ok (.invokevirtual 57, 3) := by decide +kernel
theorem dX2_takeBanks_62 : decode cX2_takeBanks 62 = .ok (.istore 5, 2) := by decide +kernel
theorem dX2_takeBanks_64 : decode cX2_takeBanks 64 = .ok (.iload 5, 2) := by decide +kernel
theorem dX2_takeBanks_66 : decode cX2_takeBanks 66 = .ok (.iload_n 1, 1) := by decide +kernel
theorem dX2_takeBanks_67 : decode cX2_takeBanks 67 = .ok (.invokestatic 103, 3) := by decide +kernel
theorem dX2_takeBanks_70 : decode cX2_takeBanks 70 = .ok (.ifCond .eq 10, 3) := by decide +kernel
theorem dX2_takeBanks_73 : decode cX2_takeBanks 73 = .ok (.aload_n 0, 1) := by decide +kernel
theorem dX2_takeBanks_74 : decode cX2_takeBanks 74 = .ok (.iconst 3, 1) := by decide +kernel
theorem dX2_takeBanks_75 : decode cX2_takeBanks 75 = .ok (.iload 4, 2) := by decide +kernel
theorem dX2_takeBanks_77 : decode cX2_takeBanks 77 = .ok (.invokevirtual 73, 3) := by decide +kernel
theorem dX2_takeBanks_80 : decode cX2_takeBanks 80 = .ok (.iload_n 1, 1) := by decide +kernel
theorem dX2_takeBanks_81 : decode cX2_takeBanks 81 = .ok (.iconst 1, 1) := by decide +kernel
theorem dX2_takeBanks_82 : decode cX2_takeBanks 82 = .ok (.iload 5, 2) := by decide +kernel
theorem dX2_takeBanks_84 : decode cX2_takeBanks 84 = .ok (.ishl, 1) := by decide +kernel
theorem dX2_takeBanks_85 : decode cX2_takeBanks 85 = .ok (.ior, 1) := by decide +kernel
theorem dX2_takeBanks_86 : decode cX2_takeBanks 86 = .ok (.istore_n 1, 1) := by decide +kernel
theorem dX2_takeBanks_87 : decode cX2_takeBanks 87 = .ok (.iinc 2 1, 3) := by decide +kernel
theorem dX2_takeBanks_90 : decode cX2_takeBanks 90 = .ok (.goto (-86), 3) := by decide +kernel
theorem dX2_takeBanks_93 : decode cX2_takeBanks 93 = .ok (.iload_n 1, 1) := by decide +kernel
theorem dX2_takeBanks_94 : decode cX2_takeBanks 94 = .ok (.ireturn, 1) := by decide +kernel
theorem dX2_parseCommand_0 : decode cX2_parseCommand 0 = .ok (.aload_n 0, 1) := by decide +kernel
theorem dX2_parseCommand_1 : decode cX2_parseCommand 1 = .ok (.getfield 48, 3) := by decide +kernel
theorem dX2_parseCommand_4 : decode cX2_parseCommand 4 = .ok (.istore_n 1, 1) := by decide +kernel
theorem dX2_parseCommand_5 : decode cX2_parseCommand 5 = .ok (.iload_n 1, 1) := by decide +kernel
theorem dX2_parseCommand_6 : decode cX2_parseCommand 6 = .ok (.bipush 8, 2) := by decide +kernel
theorem dX2_parseCommand_8 : decode cX2_parseCommand 8 = .ok (.if_icmp .lt 9, 3) := by decide +kernel
theorem dX2_parseCommand_11 : decode cX2_parseCommand 11 = .ok (.iload_n 1, 1) := by decide +kernel
theorem dX2_parseCommand_12 : decode cX2_parseCommand 12 = .ok (.bipush 22, 2) := by decide +kernel
theorem dX2_parseCommand_14 : decode cX2_parseCommand 14 = .ok (.if_icmp .le 13, 3) := by decide +kernel
theorem dX2_parseCommand_17 : decode cX2_parseCommand 17 = .ok (.aload_n 0, 1) := by decide +kernel
theorem dX2_parseCommand_18 : decode cX2_parseCommand 18 = .ok (.iconst 1, 1) := by decide +kernel
theorem dX2_parseCommand_19 : decode cX2_parseCommand 19 = .ok (.aload_n 0, 1) := by decide +kernel
theorem dX2_parseCommand_20 : decode cX2_parseCommand 20 = .ok (.getfield 70, 3) := by decide +kernel
theorem dX2_parseCommand_23 : decode cX2_parseCommand 23 = .ok (.invokevirtual 73, 3) := by decide +kernel
theorem dX2_parseCommand_26 : decode cX2_parseCommand 26 = .ok (.return_, 1) := by decide +kernel
theorem dX2_parseCommand_27 : decode cX2_parseCommand 27 = .ok (.aload_n 0, 1) := by decide +kernel
theorem dX2_parseCommand_28 : decode cX2_parseCommand 28 = .ok (.getfield 22, 3) := by decide +kernel
theorem dX2_parseCommand_31 : decode cX2_parseCommand 31 = .ok (.getfield 107, 3) := by decide +kernel
theorem dX2_parseCommand_34 : decode cX2_parseCommand 34 = .ok (.istore_n 2, 1) := by decide +kernel
theorem dX2_parseCommand_35 : decode cX2_parseCommand 35 = .ok (.iload_n 2, 1) := by decide +kernel
theorem dX2_parseCommand_36 : decode cX2_parseCommand 36 = .ok (.bipush 60, 2) := by decide +kernel
theorem dX2_parseCommand_38 : decode cX2_parseCommand 38 = .ok (.if_icmp .lt 13, 3) := by decide +kernel
theorem dX2_parseCommand_41 : decode cX2_parseCommand 41 = .ok (.aload_n 0, 1) := by decide +kernel
theorem dX2_parseCommand_42 : decode cX2_parseCommand 42 = .ok (.iconst 4, 1) := by decide +kernel
theorem dX2_parseCommand_43 : decode cX2_parseCommand 43 = .ok (.aload_n 0, 1) := by decide +kernel
theorem dX2_parseCommand_44 : decode cX2_parseCommand 44 = .ok (.getfield 70, 3) := by decide +kernel
theorem dX2_parseCommand_47 : decode cX2_parseCommand 47 = .ok (.invokevirtual 73, 3) := by decide +kernel
theorem dX2_parseCommand_50 : decode cX2_parseCommand 50 = .ok (.return_, 1) := by decide +kernel
theorem dX2_parseCommand_51 : decode cX2_parseCommand 51 = .ok (.aload_n 0, 1) := by decide +kernel
theorem dX2_parseCommand_52 : decode cX2_parseCommand 52 = .ok (.iload_n 1, 1) := by decide +kernel
theorem dX2_parseCommand_53 : decode cX2_parseCommand 53 = .ok (.invokevirtual 54, 3) := by decide +kernel
theorem dX2_parseCommand_56 : decode cX2_parseCommand 56 = .ok (.aload_n 0, 1) := by decide +kernel
theorem dX2_parseCommand_57 : decode cX2_parseCommand 57 = .ok (.getfield 22, 3) := by decide +kernel
theorem dX2_parseCommand_60 : decode cX2_parseCommand 60 = .ok (.getfield 110, 3) := by decide +kernel
theorem dX2_parseCommand_63 : decode cX2_parseCommand 63 = .ok (.iload_n 2, 1) := by decide +kernel
theorem dX2_parseCommand_64 : decode cX2_parseCommand 64 = .ok (.iload_n 1, 1) := by decide +kernel
theorem dX2_parseCommand_65 : decode cX2_parseCommand 65 = .ok (.bipush 15, 2) := by decide +kernel
theorem dX2_parseCommand_67 : decode cX2_parseCommand 67 = .ok (.if_icmp .ge 7, 3) := by decide +kernel
theorem dX2_parseCommand_70 : decode cX2_parseCommand 70 = .ok (.iload_n 1, 1) := by decide +kernel
theorem dX2_parseCommand_71 : decode cX2_parseCommand 71 = .ok (.goto 5, 3) := by decide +kernel
theorem dX2_parseCommand_74 : decode cX2_parseCommand 74 = .ok (.bipush 34, 2) := by decide +kernel
theorem dX2_parseCommand_76 : decode cX2_parseCommand 76 = .ok (.iastore, 1) := by decide +kernel
theorem dX2_parseCommand_77 : decode cX2_parseCommand 77 = .ok (.aload_n 0, 1) := by decide +kernel
theorem dX2_parseCommand_78 : decode cX2_parseCommand 78 = .ok (.getfield 22, 3) := by decide +kernel
theorem dX2_parseCommand_81 : decode cX2_parseCommand 81 = .ok (.getfield 113, 3) := by decide +kernel
theorem dX2_parseCommand_84 : decode cX2_parseCommand 84 = .ok (.iload_n 2, 1) := by decide +kernel
theorem dX2_parseCommand_85 : decode cX2_parseCommand 85 = .ok (.iload_n 1, 1) := by decide +kernel
theorem dX2_parseCommand_86 : decode cX2_parseCommand 86 = .ok (.iastore, 1) := by decide +kernel
theorem dX2_parseCommand_87 : decode cX2_parseCommand 87 = .ok (.aload_n 0, 1) := by decide +kernel
theorem dX2_parseCommand_88 : decode cX2_parseCommand 88 = .ok (.iload_n 2, 1) := by decide +kernel
theorem dX2_parseCommand_89 : decode cX2_parseCommand 89 = .ok (.invokevirtual 116, 3) := by decide +kernel
theorem dX2_parseCommand_92 : decode cX2_parseCommand 92 = .ok (.aload_n 0, 1) := by decide +kernel
theorem dX2_parseCommand_93 : decode cX2_parseCommand 93 = .ok (.bipush 30, 2) := by decide +kernel
theorem dX2_parseCommand_95 : decode cX2_parseCommand 95 = .ok (.invokevirtual 54, 3) := by decide +kernel
theorem dX2_parseCommand_98 : decode cX2_parseCommand 98 = .ok (.aload_n 0, 1) := by decide +kernel
theorem dX2_parseCommand_99 : decode cX2_parseCommand 99 = .ok (.getfield 22, 3) := by decide +kernel
theorem dX2_parseCommand_102 : decode cX2_parseCommand 102 = .ok (.dup, 1) := by decide +kernel
theorem dX2_parseCommand_103 : decode cX2_parseCommand 103 = .ok (.getfield 107, 3) := by decide +kernel
theorem dX2_parseCommand_106 : decode cX2_parseCommand 106 = .ok (.iconst 1, 1) := by decide +kernel
theorem dX2_parseCommand_107 : decode cX2_parseCommand 107 = .ok (.iadd, 1) := by decide +kernel
theorem dX2_parseCommand_108 : decode cX2_parseCommand 108 = .ok (.putfield 107, 3) := by decide +kernel
theorem dX2_parseCommand_111 : decode cX2_parseCommand 111 = .ok (.return_, 1) := by decide +kernel
theorem dX2_parseOperands_0 : decode cX2_parseOperands 0 = .ok (.aload_n 0, 1) := by decide +kernel
theorem dX2_parseOperands_1 : decode cX2_parseOperands 1 = .ok (.getfield 22, 3) := by decide +kernel
theorem dX2_parseOperands_4 : decode cX2_parseOperands 4 = .ok (.getfield 110, 3) := by decide +kernel
theorem dX2_parseOperands_7 : decode cX2_parseOperands 7 = .ok (.iload_n 1, 1) := by decide +kernel
theorem dX2_parseOperands_8 : decode cX2_parseOperands 8 = .ok (.iaload, 1) := by decide +kernel
theorem dX2_parseOperands_9 : decode cX2_parseOperands 9 = .ok (.istore_n 2, 1) := by decide +kernel
theorem dX2_parseOperands_10 : decode cX2_parseOperands 10 = .ok (.iload_n 2, 1) := by decide +kernel
theorem dX2_parseOperands_11 : decode cX2_parseOperands 11 = .ok (.bipush 14, 2) := by decide +kernel
theorem dX2_parseOperands_13 : decode cX2_parseOperands 13 = .ok (.if_icmp .ne 4, 3) := by decide +kernel
theorem dX2_parseOperands_16 : decode cX2_parseOperands 16 = .ok (.return_, 1) := by decide +kernel
theorem dX2_parseOperands_17 : decode cX2_parseOperands 17 = .ok (.iload_n 2, 1) := by decide +kernel
theorem dX2_parseOperands_18 : decode cX2_parseOperands 18 = .ok (.bipush 8, 2) := by decide +kernel
theorem dX2_parseOperands_20 : decode cX2_parseOperands 20 = .ok (.if_icmp .eq 9, 3) := by decide +kernel
theorem dX2_parseOperands_23 : decode cX2_parseOperands 23 = .ok (.iload_n 2, 1) := by decide +kernel
theorem dX2_parseOperands_24 : decode cX2_parseOperands 24 = .ok (.bipush 12, 2) := by decide +kernel
theorem dX2_parseOperands_26 : decode cX2_parseOperands 26 = .ok (.if_icmp .ne 16, 3) := by decide +kernel
theorem dX2_parseOperands_29 : decode cX2_parseOperands 29 = .ok (.aload_n 0, 1) := by decide +kernel
theorem dX2_parseOperands_30 : decode cX2_parseOperands 30 = .ok (.getfield 22, 3) := by decide +kernel
theorem dX2_parseOperands_33 : decode cX2_parseOperands 33 = .ok (.getfield 113, 3) := by decide +kernel
theorem dX2_parseOperands_36 : decode cX2_parseOperands 36 = .ok (.iload_n 1, 1) := by decide +kernel
theorem dX2_parseOperands_37 : decode cX2_parseOperands 37 = .ok (.aload_n 0, 1) := by decide +kernel
theorem dX2_parseOperands_38 : decode cX2_parseOperands 38 = .ok (.invokevirtual 119, 3) := by decide +kernel
theorem dX2_parseOperands_41 : decode cX2_parseOperands 41 = .ok (.iastore, 1) := by decide +kernel
theorem dX2_parseOperands_42 : decode cX2_parseOperands 42 = .ok (.aload_n 0, 1) := by decide +kernel
theorem dX2_parseOperands_43 : decode cX2_parseOperands 43 = .ok (.getfield 22, 3) := by decide +kernel
theorem dX2_parseOperands_46 : decode cX2_parseOperands 46 = .ok (.getfield 122, 3) := by decide +kernel
theorem dX2_parseOperands_49 : decode cX2_parseOperands 49 = .ok (.iload_n 1, 1) := by decide +kernel
theorem dX2_parseOperands_50 : decode cX2_parseOperands 50 = .ok (.aload_n 0, 1) := by decide +kernel
theorem dX2_parseOperands_51 : decode cX2_parseOperands 51 = .ok (.iconst 0, 1) := by decide +kernel
theorem dX2_parseOperands_52 : decode cX2_parseOperands 52 = .ok (.iconst 3, 1) := by decide +kernel
theorem dX2_parseOperands_53 : decode cX2_parseOperands 53 = .ok (.invokevirtual 57, 3) := by decide +kernel
theorem dX2_parseOperands_56 : decode cX2_parseOperands 56 = .ok (.iastore, 1) := by decide +kernel
theorem dX2_parseOperands_57 : decode cX2_parseOperands 57 = .ok (.iload_n 2, 1) := by decide +kernel
theorem dX2_parseOperands_58 : decode cX2_parseOperands 58 = .ok (.bipush 9, 2) := by decide +kernel
theorem dX2_parseOperands_60 : decode cX2_parseOperands 60 = .ok (.if_icmp .eq 9, 3) := by decide +kernel
theorem dX2_parseOperands_63 : decode cX2_parseOperands 63 = .ok (.iload_n 2, 1) := by decide +kernel
theorem dX2_parseOperands_64 : decode cX2_parseOperands 64 = .ok (.bipush 10, 2) := by decide +kernel
theorem dX2_parseOperands_66 : decode cX2_parseOperands 66 = .ok (.if_icmp .ne 29, 3) := by decide +kernel
theorem dX2_parseOperands_69 : decode cX2_parseOperands 69 = .ok (.aload_n 0, 1) := by decide +kernel
theorem dX2_parseOperands_70 : decode cX2_parseOperands 70 = .ok (.getfield 22, 3) := by decide +kernel
theorem dX2_parseOperands_73 : decode cX2_parseOperands 73 = .ok (.getfield 125, 3) := by decide +kernel
theorem dX2_parseOperands_76 : decode cX2_parseOperands 76 = .ok (.iload_n 1, 1) := by decide +kernel
theorem dX2_parseOperands_77 : decode cX2_parseOperands 77 = .ok (.aload_n 0, 1) := by decide +kernel
theorem dX2_parseOperands_78 : decode cX2_parseOperands 78 = .ok (.iconst 0, 1) := by decide +kernel
theorem dX2_parseOperands_79 : decode cX2_parseOperands 79 = .ok (.aload_n 0, 1) := by decide +kernel
theorem dX2_parseOperands_80 : decode cX2_parseOperands 80 = .ok (.getfield 22, 3) := by decide +kernel
theorem dX2_parseOperands_83 : decode cX2_parseOperands 83 = .ok (.getfield 64, 3) := by decide +kernel
theorem dX2_parseOperands_86 : decode cX2_parseOperands 86 = .ok (.iconst 1, 1) := by decide +kernel
theorem dX2_parseOperands_87 : decode cX2_parseOperands 87 = .ok (.isub, 1) := by decide +kernel
theorem dX2_parseOperands_88 : decode cX2_parseOperands 88 = .ok (.invokevirtual 57, 3) := by decide +kernel
theorem dX2_parseOperands_91 : decode cX2_parseOperands 91 = .ok (.iastore, 1) := by decide +kernel
theorem dX2_parseOperands_92 : decode cX2_parseOperands 92 = .ok (.goto 61, 3) := by decide +kernel
theorem dX2_parseOperands_95 : decode cX2_parseOperands 95 = .ok (.iload_n 2, 1) := by decide +kernel
theorem dX2_parseOperands_96 : decode cX2_parseOperands 96 = .ok (.bipush 11, 2) := by decide +kernel
theorem dX2_parseOperands_98 : decode cX2_parseOperands 98 = .ok (.if_icmp .ne 19, 3) := by decide +kernel
theorem dX2_parseOperands_101 : decode cX2_parseOperands 101 = .ok (.aload_n 0, 1) := by decide +kernel
theorem dX2_parseOperands_102 : decode cX2_parseOperands 102 = .ok (.getfield 22, 3) := by decide +kernel
theorem dX2_parseOperands_105 : decode cX2_parseOperands 105 = .ok (.getfield 125, 3) := by decide +kernel
theorem dX2_parseOperands_108 : decode cX2_parseOperands 108 = .ok (.iload_n 1, 1) := by decide +kernel
theorem dX2_parseOperands_109 : decode cX2_parseOperands 109 = .ok (.aload_n 0, 1) := by decide +kernel
theorem dX2_parseOperands_110 : decode cX2_parseOperands 110 = .ok (.invokevirtual 128, 3) := by decide +kernel
theorem dX2_parseOperands_113 : decode cX2_parseOperands 113 = .ok (.iastore, 1) := by decide +kernel
theorem dX2_parseOperands_114 : decode cX2_parseOperands 114 = .ok (.goto 39, 3) := by decide +kernel
theorem dX2_parseOperands_117 : decode cX2_parseOperands 117 = .ok (.iload_n 2, 1) := by decide +kernel
theorem dX2_parseOperands_118 : decode cX2_parseOperands 118 = .ok (.bipush 34, 2) := by decide +kernel
theorem dX2_parseOperands_120 : decode cX2_parseOperands 120 = .ok (.if_icmp .ne 33, 3) := by decide +kernel
theorem dX2_parseOperands_123 : decode cX2_parseOperands 123 = .ok (.aload_n 0, 1) := by decide +kernel
theorem dX2_parseOperands_124 : decode cX2_parseOperands 124 = .ok (.getfield 22, 3) := by decide +kernel
theorem dX2_parseOperands_127 : decode cX2_parseOperands 127 = .ok (.getfield 125, 3) := by decide +kernel
theorem dX2_parseOperands_130 : decode cX2_parseOperands 130 = .ok (.iload_n 1, 1) := by decide +kernel
theorem dX2_parseOperands_131 : decode cX2_parseOperands 131 = .ok (.aload_n 0, 1) := by decide +kernel
theorem dX2_parseOperands_132 : decode cX2_parseOperands 132 = .ok (.iconst 0, 1) := by decide +kernel
theorem dX2_parseOperands_133 : decode cX2_parseOperands 133 = .ok (.iconst 3, 1) := by decide +kernel
theorem dX2_parseOperands_134 : decode cX2_parseOperands 134 = .ok (.invokevirtual 57, 3) := by decide +kernel
theorem dX2_parseOperands_137 : decode cX2_parseOperands 137 = .ok (.iastore, 1) := by decide +kernel
theorem dX2_parseOperands_138 : decode cX2_parseOperands 138 = .ok (.aload_n 0, 1) := by decide +kernel
theorem dX2_parseOperands_139 : decode cX2_parseOperands 139 = .ok (.getfield 22, 3) := by decide +kernel
theorem dX2_parseOperands_142 : decode cX2_parseOperands 142 = .ok (.getfield 131, 3) := by decide +kernel
theorem dX2_parseOperands_145 : decode cX2_parseOperands 145 = .ok (.iload_n 1, 1) := by decide +kernel
theorem dX2_parseOperands_146 : decode cX2_parseOperands 146 = .ok (.aload_n 0, 1) := by decide +kernel
theorem dX2_parseOperands_147 : decode cX2_parseOperands 147 = .ok (.iconst 0, 1) := by decide +kernel
theorem dX2_parseOperands_148 : decode cX2_parseOperands 148 = .ok (.iconst 3, 1) := by decide +kernel
theorem dX2_parseOperands_149 : decode cX2_parseOperands 149 = .ok (.invokevirtual 57, 3) := by decide +kernel
theorem dX2_parseOperands_152 : decode cX2_parseOperands 152 = .ok (.iastore, 1) := by decide +kernel
theorem dX2_parseOperands_153 : decode cX2_parseOperands 153 = .ok (.return_, 1) := by decide +kernel
theorem dX2_takeReduction_0 : decode cX2_takeReduction 0 = .ok (.aload_n 0, 1) := by decide +kernel
theorem dX2_takeReduction_1 : decode cX2_takeReduction 1 = .ok (.getfield 48, 3) := by decide +kernel
theorem dX2_takeReduction_4 : decode cX2_takeReduction 4 = .ok (.istore_n 1, 1) := by decide +kernel
theorem dX2_takeReduction_5 : decode cX2_takeReduction 5 = .ok (.iload_n 1, 1) := by decide +kernel
theorem dX2_takeReduction_6 : decode cX2_takeReduction 6 = .ok (.bipush 15, 2) := by decide +kernel
theorem dX2_takeReduction_8 : decode cX2_takeReduction 8 = .ok (.if_icmp .lt 9, 3) := by decide +kernel
theorem dX2_takeReduction_11 : decode cX2_takeReduction 11 = .ok (.iload_n 1, 1) := by decide +kernel
theorem dX2_takeReduction_12 : decode cX2_takeReduction 12 = .ok (.bipush 21, 2) := by decide +kernel
theorem dX2_takeReduction_14 : decode cX2_takeReduction 14 = .ok (.if_icmp .le 15, 3) := by decide +kernel
theorem dX2_takeReduction_17 : decode cX2_takeReduction 17 = .ok (.aload_n 0, 1) := by decide +kernel
theorem dX2_takeReduction_18 : decode cX2_takeReduction 18 = .ok (.iconst 1, 1) := by decide +kernel
theorem dX2_takeReduction_19 : decode cX2_takeReduction 19 = .ok (.aload_n 0, 1) := by decide +kernel
theorem dX2_takeReduction_20 : decode cX2_takeReduction 20 = .ok (.getfield 70, 3) := by decide +kernel
theorem dX2_takeReduction_23 : decode cX2_takeReduction 23 = .ok (.invokevirtual 73, 3) := by decide +kernel
theorem dX2_takeReduction_26 : decode cX2_takeReduction 26 = .ok (.bipush 15, 2) := by decide +kernel
theorem dX2_takeReduction_28 : decode cX2_takeReduction 28 = .ok (.ireturn, 1) := by decide +kernel
theorem dX2_takeReduction_29 : decode cX2_takeReduction 29 = .ok (.aload_n 0, 1) := by decide +kernel
theorem dX2_takeReduction_30 : decode cX2_takeReduction 30 = .ok (.iload_n 1, 1) := by decide +kernel
theorem dX2_takeReduction_31 : decode cX2_takeReduction 31 = .ok (.invokevirtual 54, 3) := by decide +kernel
theorem dX2_takeReduction_34 : decode cX2_takeReduction 34 = .ok (.iload_n 1, 1) := by decide +kernel
theorem dX2_takeReduction_35 : decode cX2_takeReduction 35 = .ok (.ireturn, 1) := by decide +kernel
theorem dX2_takeSignedNumber_0 : decode cX2_takeSignedNumber 0 = .ok (.aload_n 0, 1) := by decide +kernel
theorem dX2_takeSignedNumber_1 : decode cX2_takeSignedNumber 1 = .ok (.getfield 48, 3) := by decide +kernel
theorem dX2_takeSignedNumber_4 : decode cX2_takeSignedNumber 4 = .ok (.bipush 31, 2) := by decide +kernel
theorem dX2_takeSignedNumber_6 : decode cX2_takeSignedNumber 6 = .ok (.if_icmp .eq 11, 3) := by decide +kernel
theorem dX2_takeSignedNumber_9 : decode cX2_takeSignedNumber 9 = .ok (.aload_n 0, 1) := by decide +kernel
theorem dX2_takeSignedNumber_10 : decode cX2_takeSignedNumber 10 = .ok (.iconst 0, 1) := by decide +kernel
theorem dX2_takeSignedNumber_11 : decode cX2_takeSignedNumber 11 = .ok (.ldc 134, 2) := by decide +kernel
theorem dX2_takeSignedNumber_13 : decode cX2_takeSignedNumber 13 = .ok (.invokevirtual 57, 3) := by decide +kernel
theorem dX2_takeSignedNumber_16 : decode cX2_takeSignedNumber 16 = .ok (.ireturn, 1) := by decide +kernel
theorem dX2_takeSignedNumber_17 : decode cX2_takeSignedNumber 17 = .ok (.aload_n 0, 1) := by decide +kernel
theorem dX2_takeSignedNumber_18 : decode cX2_takeSignedNumber 18 = .ok (.bipush 31, 2) := by decide +kernel
theorem dX2_takeSignedNumber_20 : decode cX2_takeSignedNumber 20 = .ok (.invokevirtual 54, 3) := by decide +kernel
theorem dX2_takeSignedNumber_23 : decode cX2_takeSignedNumber 23 = .ok (.aload_n 0, 1) := by decide +kernel
theorem dX2_takeSignedNumber_24 : decode cX2_takeSignedNumber 24 = .ok (.iconst 0, 1) := by decide +kernel
theorem dX2_takeSignedNumber_25 : decode cX2_takeSignedNumber 25 = .ok (.ldc 134, 2) := by decide +kernel
theorem dX2_takeSignedNumber_27 : decode cX2_takeSignedNumber 27 = .ok (.invokevirtual 57, 3) := by decide +kernel
theorem dX2_takeSignedNumber_30 : decode cX2_takeSignedNumber 30 = .ok (.ineg, 1) := by decide +kernel
theorem dX2_takeSignedNumber_31 : decode cX2_takeSignedNumber 31 = .ok (.ireturn, 1) := by decide +kernel
theorem dX2_takeNumber_0 : decode cX2_takeNumber 0 = .ok (.aload_n 0, 1) := by decide +kernel
theorem dX2_takeNumber_1 : decode cX2_takeNumber 1 = .ok (.getfield 12, 3) := by decide +kernel
theorem dX2_takeNumber_4 : decode cX2_takeNumber 4 = .ok (.getfield 135, 3) := by decide +kernel
theorem dX2_takeNumber_7 : decode cX2_takeNumber 7 = .ok (.aload_n 0, 1) := by decide +kernel
theorem dX2_takeNumber_8 : decode cX2_takeNumber 8 = .ok (.getfield 138, 3) := by decide +kernel
theorem dX2_takeNumber_11 : decode cX2_takeNumber 11 = .ok (.iaload, 1) := by decide +kernel
theorem dX2_takeNumber_12 : decode cX2_takeNumber 12 = .ok (.istore_n 3, 1) := by decide +kernel
theorem dX2_takeNumber_13 : decode cX2_takeNumber 13 = .ok (.aload_n 0, 1) := by decide +kernel
theorem dX2_takeNumber_14 : decode cX2_takeNumber 14 = .ok (.getfield 48, 3) := by decide +kernel
theorem dX2_takeNumber_17 : decode cX2_takeNumber 17 = .ok (.bipush 28, 2) := by decide +kernel
theorem dX2_takeNumber_19 : decode cX2_takeNumber 19 = .ok (.if_icmp .eq 15, 3) := by decide +kernel
theorem dX2_takeNumber_22 : decode cX2_takeNumber 22 = .ok (.aload_n 0, 1) := by decide +kernel
theorem dX2_takeNumber_23 : decode cX2_takeNumber 23 = .ok (.iconst 1, 1) := by decide +kernel
theorem dX2_takeNumber_24 : decode cX2_takeNumber 24 = .ok (.aload_n 0, 1) := by decide +kernel
theorem dX2_takeNumber_25 : decode cX2_takeNumber 25 = .ok (.getfield 70, 3) := by decide +kernel
theorem dX2_takeNumber_28 : decode cX2_takeNumber 28 = .ok (.invokevirtual 73, 3) := by decide +kernel
theorem dX2_takeNumber_31 : decode cX2_takeNumber 31 = .ok (.goto 44, 3) := by decide +kernel
theorem dX2_takeNumber_34 : decode cX2_takeNumber 34 = .ok (.iload_n 3, 1) := by decide +kernel
theorem dX2_takeNumber_35 : decode cX2_takeNumber 35 = .ok (.iload_n 1, 1) := by decide +kernel
theorem dX2_takeNumber_36 : decode cX2_takeNumber 36 = .ok (.if_icmp .lt 8, 3) := by decide +kernel
theorem dX2_takeNumber_39 : decode cX2_takeNumber 39 = .ok (.iload_n 3, 1) := by decide +kernel
theorem dX2_takeNumber_40 : decode cX2_takeNumber 40 = .ok (.iload_n 2, 1) := by decide +kernel
theorem dX2_takeNumber_41 : decode cX2_takeNumber 41 = .ok (.if_icmp .le 15, 3) := by decide +kernel
theorem dX2_takeNumber_44 : decode cX2_takeNumber 44 = .ok (.aload_n 0, 1) := by decide +kernel
theorem dX2_takeNumber_45 : decode cX2_takeNumber 45 = .ok (.iconst 2, 1) := by decide +kernel
theorem dX2_takeNumber_46 : decode cX2_takeNumber 46 = .ok (.aload_n 0, 1) := by decide +kernel
theorem dX2_takeNumber_47 : decode cX2_takeNumber 47 = .ok (.getfield 70, 3) := by decide +kernel
theorem dX2_takeNumber_50 : decode cX2_takeNumber 50 = .ok (.invokevirtual 73, 3) := by decide +kernel
theorem dX2_takeNumber_53 : decode cX2_takeNumber 53 = .ok (.goto 22, 3) := by decide +kernel
theorem dX2_takeNumber_56 : decode cX2_takeNumber 56 = .ok (.aload_n 0, 1) := by decide +kernel
theorem dX2_takeNumber_57 : decode cX2_takeNumber 57 = .ok (.getfield 31, 3) := by decide +kernel
theorem dX2_takeNumber_60 : decode cX2_takeNumber 60 = .ok (.ifCond .ne 15, 3) := by decide +kernel
theorem dX2_takeNumber_63 : decode cX2_takeNumber 63 = .ok (.aload_n 0, 1) := by decide +kernel
theorem dX2_takeNumber_64 : decode cX2_takeNumber 64 = .ok (.aload_n 0, 1) := by decide +kernel
theorem dX2_takeNumber_65 : decode cX2_takeNumber 65 = .ok (.getfield 138, 3) := by decide +kernel
theorem dX2_takeNumber_68 : decode cX2_takeNumber 68 = .ok (.iconst 1, 1) := by decide +kernel
theorem dX2_takeNumber_69 : decode cX2_takeNumber 69 = .ok (.iadd, 1) := by decide +kernel
theorem dX2_takeNumber_70 : decode cX2_takeNumber 70 = .ok (.invokevirtual 38, 3) := by decide +kernel
theorem dX2_takeNumber_73 : decode cX2_takeNumber 73 = .ok (.iload_n 3, 1) := by decide +kernel
theorem dX2_takeNumber_74 : decode cX2_takeNumber 74 = .ok (.ireturn, 1) := by decide +kernel
theorem dX2_takeNumber_75 : decode cX2_takeNumber 75 = .ok (.iload_n 1, 1) := by decide +kernel
theorem dX2_takeNumber_76 : decode cX2_takeNumber 76 = .ok (.ireturn, 1) := by decide +kernel
theorem dX2_take_0 : decode cX2_take 0 = .ok (.aload_n 0, 1) := by decide +kernel
theorem dX2_take_1 : decode cX2_take 1 = .ok (.getfield 48, 3) := by decide +kernel
theorem dX2_take_4 : decode cX2_take 4 = .ok (.iload_n 1, 1) := by decide +kernel
theorem dX2_take_5 : decode cX2_take 5 = .ok (.if_icmp .eq 15, 3) := by decide +kernel
theorem dX2_take_8 : decode cX2_take 8 = .ok (.aload_n 0, 1) := by decide +kernel
theorem dX2_take_9 : decode cX2_take 9 = .ok (.iconst 1, 1) := by decide +kernel
theorem dX2_take_10 : decode cX2_take 10 = .ok (.aload_n 0, 1) := by decide +kernel
theorem dX2_take_11 : decode cX2_take 11 = .ok (.getfield 70, 3) := by decide +kernel
theorem dX2_take_14 : decode cX2_take 14 = .ok (.invokevirtual 73, 3) := by decide +kernel
theorem dX2_take_17 : decode cX2_take 17 = .ok (.goto 20, 3) := by decide +kernel
theorem dX2_take_20 : decode cX2_take 20 = .ok (.aload_n 0, 1) := by decide +kernel
theorem dX2_take_21 : decode cX2_take 21 = .ok (.getfield 31, 3) := by decide +kernel
theorem dX2_take_24 : decode cX2_take 24 = .ok (.ifCond .ne 13, 3) := by decide +kernel
theorem dX2_take_27 : decode cX2_take 27 = .ok (.aload_n 0, 1) := by decide +kernel
theorem dX2_take_28 : decode cX2_take 28 = .ok (.aload_n 0, 1) := by decide +kernel
theorem dX2_take_29 : decode cX2_take 29 = .ok (.getfield 138, 3) := by decide +kernel
theorem dX2_take_32 : decode cX2_take 32 = .ok (.iconst 1, 1) := by decide +kernel
theorem dX2_take_33 : decode cX2_take 33 = .ok (.iadd, 1) := by decide +kernel
theorem dX2_take_34 : decode cX2_take 34 = .ok (.invokevirtual 38, 3) := by decide +kernel
theorem dX2_take_37 : decode cX2_take 37 = .ok (.return_, 1) := by decide +kernel
theorem dX2_goTo_0 : decode cX2_goTo 0 = .ok (.aload_n 0, 1) := by decide +kernel
theorem dX2_goTo_1 : decode cX2_goTo 1 = .ok (.iload_n 1, 1) := by decide +kernel
theorem dX2_goTo_2 : decode cX2_goTo 2 = .ok (.putfield 138, 3) := by decide +kernel
theorem dX2_goTo_5 : decode cX2_goTo 5 = .ok (.aload_n 0, 1) := by decide +kernel
theorem dX2_goTo_6 : decode cX2_goTo 6 = .ok (.aload_n 0, 1) := by decide +kernel
theorem dX2_goTo_7 : decode cX2_goTo 7 = .ok (.getfield 12, 3) := by decide +kernel
theorem dX2_goTo_10 : decode cX2_goTo 10 = .ok (.getfield 141, 3) := by decide +kernel
theorem dX2_goTo_13 : decode cX2_goTo 13 = .ok (.aload_n 0, 1) := by decide +kernel
theorem dX2_goTo_14 : decode cX2_goTo 14 = .ok (.getfield 138, 3) := by decide +kernel
theorem dX2_goTo_17 : decode cX2_goTo 17 = .ok (.iaload, 1) := by decide +kernel
theorem dX2_goTo_18 : decode cX2_goTo 18 = .ok (.putfield 48, 3) := by decide +kernel
theorem dX2_goTo_21 : decode cX2_goTo 21 = .ok (.aload_n 0, 1) := by decide +kernel
theorem dX2_goTo_22 : decode cX2_goTo 22 = .ok (.aload_n 0, 1) := by decide +kernel
theorem dX2_goTo_23 : decode cX2_goTo 23 = .ok (.getfield 12, 3) := by decide +kernel
theorem dX2_goTo_26 : decode cX2_goTo 26 = .ok (.getfield 144, 3) := by decide +kernel
theorem dX2_goTo_29 : decode cX2_goTo 29 = .ok (.aload_n 0, 1) := by decide +kernel
theorem dX2_goTo_30 : decode cX2_goTo 30 = .ok (.getfield 138, 3) := by decide +kernel
theorem dX2_goTo_33 : decode cX2_goTo 33 = .ok (.iaload, 1) := by decide +kernel
theorem dX2_goTo_34 : decode cX2_goTo 34 = .ok (.putfield 70, 3) := by decide +kernel
theorem dX2_goTo_37 : decode cX2_goTo 37 = .ok (.return_, 1) := by decide +kernel
theorem dX2_fail_0 : decode cX2_fail 0 = .ok (.aload_n 0, 1) := by decide +kernel
theorem dX2_fail_1 : decode cX2_fail 1 = .ok (.getfield 31, 3) := by decide +kernel
theorem dX2_fail_4 : decode cX2_fail 4 = .ok (.ifCond .ne 13, 3) := by decide +kernel
theorem dX2_fail_7 : decode cX2_fail 7 = .ok (.aload_n 0, 1) := by decide +kernel
theorem dX2_fail_8 : decode cX2_fail 8 = .ok (.iload_n 1, 1) := by decide +kernel
theorem dX2_fail_9 : decode cX2_fail 9 = .ok (.putfield 31, 3) := by decide +kernel
theorem dX2_fail_12 : decode cX2_fail 12 = .ok (.aload_n 0, 1) := by decide +kernel
theorem dX2_fail_13 : decode cX2_fail 13 = .ok (.iload_n 2, 1) := by decide +kernel
theorem dX2_fail_14 : decode cX2_fail 14 = .ok (.putfield 35, 3) := by decide +kernel
theorem dX2_fail_17 : decode cX2_fail 17 = .ok (.return_, 1) := by decide +kernel
theorem dX3_init_0 : decode cX3_init 0 = .ok (.aload_n 0, 1) := by decide +kernel
theorem dX3_init_1 : decode cX3_init 1 = .ok (.invokespecial 3, 3) := by decide +kernel
theorem dX3_init_4 : decode cX3_init 4 = .ok (.aload_n 0, 1) := by decide +kernel
theorem dX3_init_5 : decode cX3_init 5 = .ok (.bipush 6, 2) := by decide +kernel
theorem dX3_init_7 : decode cX3_init 7 = .ok (.newarray .int, 2) := by decide +kernel
theorem dX3_init_9 : decode cX3_init 9 = .ok (.putfield 9, 3) := by decide +kernel
theorem dX3_init_12 : decode cX3_init 12 = .ok (.aload_n 0, 1) := by decide +kernel
theorem dX3_init_13 : decode cX3_init 13 = .ok (.bipush 6, 2) := by decide +kernel
theorem dX3_init_15 : decode cX3_init 15 = .ok (.newarray .int, 2) := by decide +kernel
theorem dX3_init_17 : decode cX3_init 17 = .ok (.putfield 15, 3) := by decide +kernel
theorem dX3_init_20 : decode cX3_init 20 = .ok (.aload_n 0, 1) := by decide +kernel
theorem dX3_init_21 : decode cX3_init 21 = .ok (.bipush 6, 2) := by decide +kernel
theorem dX3_init_23 : decode cX3_init 23 = .ok (.newarray .int, 2) := by decide +kernel
theorem dX3_init_25 : decode cX3_init 25 = .ok (.putfield 18, 3) := by decide +kernel
theorem dX3_init_28 : decode cX3_init 28 = .ok (.aload_n 0, 1) := by decide +kernel
theorem dX3_init_29 : decode cX3_init 29 = .ok (.bipush 6, 2) := by decide +kernel
theorem dX3_init_31 : decode cX3_init 31 = .ok (.newarray .int, 2) := by decide +kernel
theorem dX3_init_33 : decode cX3_init 33 = .ok (.putfield 21, 3) := by decide +kernel
theorem dX3_init_36 : decode cX3_init 36 = .ok (.aload_n 0, 1) := by decide +kernel
theorem dX3_init_37 : decode cX3_init 37 = .ok (.bipush 16, 2) := by decide +kernel
theorem dX3_init_39 : decode cX3_init 39 = .ok (.newarray .int, 2) := by decide +kernel
theorem dX3_init_41 : decode cX3_init 41 = .ok (.putfield 24, 3) := by decide +kernel
theorem dX3_init_44 : decode cX3_init 44 = .ok (.aload_n 0, 1) := by decide +kernel
theorem dX3_init_45 : decode cX3_init 45 = .ok (.bipush 7, 2) := by decide +kernel
theorem dX3_init_47 : decode cX3_init 47 = .ok (.anewarray 27, 3) := by decide +kernel
theorem dX3_init_50 : decode cX3_init 50 = .ok (.putfield 29, 3) := by decide +kernel
theorem dX3_init_53 : decode cX3_init 53 = .ok (.iconst 0, 1) := by decide +kernel
theorem dX3_init_54 : decode cX3_init 54 = .ok (.istore_n 1, 1) := by decide +kernel
theorem dX3_init_55 : decode cX3_init 55 = .ok (.iload_n 1, 1) := by decide +kernel
theorem dX3_init_56 : decode cX3_init 56 = .ok (.bipush 6, 2) := by decide +kernel
theorem dX3_init_58 : decode cX3_init 58 = .ok (.if_icmp .gt 22, 3) := by decide +kernel
theorem dX3_init_61 : decode cX3_init 61 = .ok (.aload_n 0, 1) := by decide +kernel
theorem dX3_init_62 : decode cX3_init 62 = .ok (.getfield 29, 3) := by decide +kernel
theorem dX3_init_65 : decode cX3_init 65 = .ok (.iload_n 1, 1) := by decide +kernel
theorem dX3_init_66 : decode cX3_init 66 = .ok (.new 27, 3) := by decide +kernel
theorem dX3_init_69 : decode cX3_init 69 = .ok (.dup, 1) := by decide +kernel
theorem dX3_init_70 : decode cX3_init 70 = .ok (.invokespecial 33, 3) := by decide +kernel
theorem dX3_init_73 : decode cX3_init 73 = .ok (.aastore, 1) := by decide +kernel
theorem dX3_init_74 : decode cX3_init 74 = .ok (.iinc 1 1, 3) := by decide +kernel
theorem dX3_init_77 : decode cX3_init 77 = .ok (.goto (-22), 3) := by decide +kernel
theorem dX3_init_80 : decode cX3_init 80 = .ok (.return_, 1) := by decide +kernel
theorem dX3_forgetPlan_0 : decode cX3_forgetPlan 0 = .ok (.aload_n 0, 1) := by decide +kernel
theorem dX3_forgetPlan_1 : decode cX3_forgetPlan 1 = .ok (.iconst 0, 1) := by decide +kernel
theorem dX3_forgetPlan_2 : decode cX3_forgetPlan 2 = .ok (.putfield 34, 3) := by decide +kernel
theorem dX3_forgetPlan_5 : decode cX3_forgetPlan 5 = .ok (.return_, 1) := by decide +kernel
theorem dX3_plan_0 : decode cX3_plan 0 = .ok (.aload_n 0, 1) := by decide +kernel
theorem dX3_plan_1 : decode cX3_plan 1 = .ok (.getfield 34, 3) := by decide +kernel
theorem dX3_plan_4 : decode cX3_plan 4 = .ok (.ifCond .eq 4, 3) := by decide +kernel
theorem dX3_plan_7 : decode cX3_plan 7 = .ok (.return_, 1) := by decide +kernel
theorem dX3_plan_8 : decode cX3_plan 8 = .ok (.aload_n 0, 1) := by decide +kernel
theorem dX3_plan_9 : decode cX3_plan 9 = .ok (.iconst 1, 1) := by decide +kernel
theorem dX3_plan_10 : decode cX3_plan 10 = .ok (.putfield 34, 3) := by decide +kernel
theorem dX3_plan_13 : decode cX3_plan 13 = .ok (.aload_n 0, 1) := by decide +kernel
theorem dX3_plan_14 : decode cX3_plan 14 = .ok (.aload_n 1, 1) := by decide +kernel
theorem dX3_plan_15 : decode cX3_plan 15 = .ok (.putfield 38, 3) := by decide +kernel
theorem dX3_plan_18 : decode cX3_plan 18 = .ok (.aload_n 0, 1) := by decide +kernel
theorem dX3_plan_19 : decode cX3_plan 19 = .ok (.aload_n 2, 1) := by decide +kernel
theorem dX3_plan_20 : decode cX3_plan 20 = .ok (.getfield 42, 3) := by decide +kernel
theorem dX3_plan_23 : decode cX3_plan 23 = .ok (.putfield 48, 3) := by decide +kernel
theorem dX3_plan_26 : decode cX3_plan 26 = .ok (.aload_n 0, 1) := by decide +kernel
theorem dX3_plan_27 : decode cX3_plan 27 = .ok (.ldc 49, 2) := by decide +kernel
theorem dX3_plan_29 : decode cX3_plan 29 = .ok (.putfield 50, 3) := by decide +kernel
theorem dX3_plan_32 : decode cX3_plan 32 = .ok (.aload_n 0, 1) := by decide +kernel
theorem dX3_plan_33 : decode cX3_plan 33 = .ok (.iconst 0, 1) := by decide +kernel
theorem dX3_plan_34 : decode cX3_plan 34 = .ok (.putfield 54, 3) := by decide +kernel
theorem dX3_plan_37 : decode cX3_plan 37 = .ok (.aload_n 0, 1) := by decide +kernel
theorem dX3_plan_38 : decode cX3_plan 38 = .ok (.getfield 29, 3) := by decide +kernel
theorem dX3_plan_41 : decode cX3_plan 41 = .ok (.iconst 0, 1) := by decide +kernel
theorem dX3_plan_42 : decode cX3_plan 42 = .ok (.aaload, 1) := by decide +kernel
theorem dX3_plan_43 : decode cX3_plan 43 = .ok (.aload_n 2, 1) := by decide +kernel
theorem dX3_plan_44 : decode cX3_plan 44 = .ok (.getfield 57, 3) := by decide +kernel
theorem dX3_plan_47 : decode cX3_plan 47 = .ok (.invokevirtual 61, 3) := by decide +kernel
theorem dX3_plan_50 : decode cX3_plan 50 = .ok (.aload_n 0, 1) := by decide +kernel
theorem dX3_plan_51 : decode cX3_plan 51 = .ok (.invokevirtual 65, 3) := by decide +kernel
theorem dX3_plan_54 : decode cX3_plan 54 = .ok (.aload_n 0, 1) := by decide +kernel
theorem dX3_plan_55 : decode cX3_plan 55 = .ok (.iconst 0, 1) := by decide +kernel
theorem dX3_plan_56 : decode cX3_plan 56 = .ok (.invokevirtual 68, 3) := by decide +kernel
theorem dX3_plan_59 : decode cX3_plan 59 = .ok (.return_, 1) := by decide +kernel
theorem dX3_findPredecessors_0 : decode cX3_findPredecessors 0 = .ok (.iconst 0, 1) := by decide +kernel
theorem dX3_findPredecessors_1 : decode cX3_findPredecessors 1 = .ok (.istore_n 1, 1) := by decide +kernel
theorem dX3_findPredecessors_2 : decode cX3_findPredecessors 2 = .ok (.iload_n 1, 1) := by decide +kernel
theorem dX3_findPredecessors_3 : decode cX3_findPredecessors 3 = .ok (.aload_n 0, 1) := by decide +kernel
theorem dX3_findPredecessors_4 : decode cX3_findPredecessors 4 = .ok (.getfield 48, 3) := by decide +kernel
theorem dX3_findPredecessors_7 : decode cX3_findPredecessors 7 = .ok (.getfield 72, 3) := by decide +kernel
theorem dX3_findPredecessors_10 : decode cX3_findPredecessors 10 = .ok (.if_icmp .ge 81, 3) := by decide +kernel
theorem dX3_findPredecessors_13 : decode cX3_findPredecessors 13 = .ok (.aload_n 0, 1) := by decide +kernel
theorem dX3_findPredecessors_14 : decode cX3_findPredecessors 14 = .ok (.getfield 18, 3) := by decide +kernel
theorem dX3_findPredecessors_17 : decode cX3_findPredecessors 17 = .ok (.iload_n 1, 1) := by decide +kernel
theorem dX3_findPredecessors_18 : decode cX3_findPredecessors 18 = .ok (.iconst 0, 1) := by decide +kernel
theorem dX3_findPredecessors_19 : decode cX3_findPredecessors 19 = .ok (.iastore, 1) := by decide +kernel
theorem dX3_findPredecessors_20 : decode cX3_findPredecessors 20 = .ok (.iconst 0, 1) := by decide +kernel
theorem dX3_findPredecessors_21 : decode cX3_findPredecessors 21 = .ok (.istore_n 2, 1) := by decide +kernel
theorem dX3_findPredecessors_22 : decode cX3_findPredecessors 22 = .ok (.iload_n 2, 1) := by decide +kernel
theorem dX3_findPredecessors_23 : decode cX3_findPredecessors 23 = .ok (.iload_n 1, 1) := by decide +kernel
theorem dX3_findPredecessors_24 : decode cX3_findPredecessors 24 = .ok (.if_icmp .ge 61, 3) := by decide +kernel
theorem dX3_findPredecessors_27 : decode cX3_findPredecessors 27 = .ok (.aload_n 0, 1) := by decide +kernel
theorem dX3_findPredecessors_28 : decode cX3_findPredecessors 28 = .ok (.getfield 48, 3) := by decide +kernel
theorem dX3_findPredecessors_31 : decode cX3_findPredecessors 31 = .ok (.getfield 77, 3) := by decide +kernel
theorem dX3_findPredecessors_34 : decode cX3_findPredecessors 34 = .ok (.iload_n 2, 1) := by decide +kernel
theorem dX3_findPredecessors_35 : decode cX3_findPredecessors 35 = .ok (.iaload, 1) := by decide +kernel
theorem dX3_findPredecessors_36 : decode cX3_findPredecessors 36 = .ok (.istore_n 3, 1) := by decide +kernel
theorem dX3_findPredecessors_37 : decode cX3_findPredecessors 37 = .ok (.aload_n 0, 1) := by decide +kernel
theorem dX3_findPredecessors_38 : decode cX3_findPredecessors 38 = .ok (.getfield 48, 3) := by decide +kernel
theorem dX3_findPredecessors_41 : decode cX3_findPredecessors 41 = .ok (.getfield 77, 3) := by decide +kernel
theorem dX3_findPredecessors_44 : decode cX3_findPredecessors 44 = .ok (.iload_n 1, 1) := by decide +kernel
theorem dX3_findPredecessors_45 : decode cX3_findPredecessors 45 = .ok (.iaload, 1) := by decide +kernel
theorem dX3_findPredecessors_46 : decode cX3_findPredecessors 46 = .ok (.istore 4, 2) := by decide +kernel
theorem dX3_findPredecessors_48 : decode cX3_findPredecessors 48 = .ok (.iload_n 3, 1) := by decide +kernel
theorem dX3_findPredecessors_49 : decode cX3_findPredecessors 49 = .ok (.iload 4, 2) := by decide +kernel
theorem dX3_findPredecessors_51 : decode cX3_findPredecessors 51 = .ok (.if_icmp .eq 16, 3) := by decide +kernel
theorem dX3_findPredecessors_54 : decode cX3_findPredecessors 54 = .ok (.aload_n 0, 1) := by decide +kernel
theorem dX3_findPredecessors_55 : decode cX3_findPredecessors 55 = .ok (.getfield 38, 3) := by decide +kernel
theorem dX3_findPredecessors_58 : decode cX3_findPredecessors 58 = .ok (.iload_n 3, 1) := by decide +kernel
theorem dX3_findPredecessors_59 : decode cX3_findPredecessors 59 = .ok (.iload 4, 2) := by decide +kernel
theorem dX3_findPredecessors_61 : decode cX3_findPredecessors 61 = .ok (.invokevirtual 80, 3) := by decide +kernel
theorem dX3_findPredecessors_64 : decode cX3_findPredecessors 64 = .ok (.ifCond .eq 15, 3) := by decide +kernel
theorem dX3_findPredecessors_67 : decode cX3_findPredecessors 67 = .ok (.aload_n 0, 1) := by decide +kernel
theorem dX3_findPredecessors_68 : decode cX3_findPredecessors 68 = .ok (.getfield 18, 3) := by decide +kernel
theorem dX3_findPredecessors_71 : decode cX3_findPredecessors 71 = .ok (.iload_n 1, 1) := by decide +kernel
theorem dX3_findPredecessors_72 : decode cX3_findPredecessors 72 = .ok (.dup2, 1) := by decide +kernel
theorem dX3_findPredecessors_73 : decode cX3_findPredecessors 73 = .ok (.iaload, 1) := by decide +kernel
theorem dX3_findPredecessors_74 : decode cX3_findPredecessors 74 = .ok (.iconst 1, 1) := by decide +kernel
theorem dX3_findPredecessors_75 : decode cX3_findPredecessors 75 = .ok (.iload_n 2, 1) := by decide +kernel
theorem dX3_findPredecessors_76 : decode cX3_findPredecessors 76 = .ok (.ishl, 1) := by decide +kernel
theorem dX3_findPredecessors_77 : decode cX3_findPredecessors 77 = .ok (.ior, 1) := by decide +kernel
theorem dX3_findPredecessors_78 : decode cX3_findPredecessors 78 = .ok (.iastore, 1) := by decide +kernel
theorem dX3_findPredecessors_79 : decode cX3_findPredecessors 79 = .ok (.iinc 2 1, 3) := by decide +kernel
theorem dX3_findPredecessors_82 : decode cX3_findPredecessors 82 = .ok (.goto (-60), 3) := by decide +kernel
theorem dX3_findPredecessors_85 : decode cX3_findPredecessors 85 = .ok (.iinc 1 1, 3) := by decide +kernel
theorem dX3_findPredecessors_88 : decode cX3_findPredecessors 88 = .ok (.goto (-86), 3) := by decide +kernel
theorem dX3_findPredecessors_91 : decode cX3_findPredecessors 91 = .ok (.return_, 1) := by decide +kernel
theorem dX3_extend_0 : decode cX3_extend 0 = .ok (.iload_n 1, 1) := by decide +kernel
theorem dX3_extend_1 : decode cX3_extend 1 = .ok (.aload_n 0, 1) := by decide +kernel
theorem dX3_extend_2 : decode cX3_extend 2 = .ok (.getfield 48, 3) := by decide +kernel
theorem dX3_extend_5 : decode cX3_extend 5 = .ok (.getfield 72, 3) := by decide +kernel
theorem dX3_extend_8 : decode cX3_extend 8 = .ok (.if_icmp .ge 9, 3) := by decide +kernel
theorem dX3_extend_11 : decode cX3_extend 11 = .ok (.iload_n 1, 1) := by decide +kernel
theorem dX3_extend_12 : decode cX3_extend 12 = .ok (.bipush 6, 2) := by decide +kernel
theorem dX3_extend_14 : decode cX3_extend 14 = .ok (.if_icmp .lt 9, 3) := by decide +kernel
theorem dX3_extend_17 : decode cX3_extend 17 = .ok (.aload_n 0, 1) := by decide +kernel
theorem dX3_extend_18 : decode cX3_extend 18 = .ok (.iload_n 1, 1) := by decide +kernel
theorem dX3_extend_19 : decode cX3_extend 19 = .ok (.invokevirtual 86, 3) := by decide +kernel
theorem dX3_extend_22 : decode cX3_extend 22 = .ok (.return_, 1) := by decide +kernel
theorem dX3_extend_23 : decode cX3_extend 23 = .ok (.iconst 0, 1) := by decide +kernel
theorem dX3_extend_24 : decode cX3_extend 24 = .ok (.istore_n 2, 1) := by decide +kernel
theorem dX3_extend_25 : decode cX3_extend 25 = .ok (.iload_n 2, 1) := by decide +kernel
theorem dX3_extend_26 : decode cX3_extend 26 = .ok (.aload_n 0, 1) := by decide +kernel
theorem dX3_extend_27 : decode cX3_extend 27 = .ok (.getfield 48, 3) := by decide +kernel
theorem dX3_extend_30 : decode cX3_extend 30 = .ok (.getfield 72, 3) := by decide +kernel
theorem dX3_extend_33 : decode cX3_extend 33 = .ok (.if_icmp .ge 52, 3) := by decide +kernel
theorem dX3_extend_36 : decode cX3_extend 36 = .ok (.aload_n 0, 1) := by decide +kernel
theorem dX3_extend_37 : decode cX3_extend 37 = .ok (.getfield 54, 3) := by decide +kernel
theorem dX3_extend_40 : decode cX3_extend 40 = .ok (.iload_n 2, 1) := by decide +kernel
theorem dX3_extend_41 : decode cX3_extend 41 = .ok (.ishr, 1) := by decide +kernel
theorem dX3_extend_42 : decode cX3_extend 42 = .ok (.iconst 1, 1) := by decide +kernel
theorem dX3_extend_43 : decode cX3_extend 43 = .ok (.iand, 1) := by decide +kernel
theorem dX3_extend_44 : decode cX3_extend 44 = .ok (.ifCond .eq 7, 3) := by decide +kernel
theorem dX3_extend_47 : decode cX3_extend 47 = .ok (.iconst 1, 1) := by decide +kernel
theorem dX3_extend_48 : decode cX3_extend 48 = .ok (.goto 4, 3) := by decide +kernel
theorem dX3_extend_51 : decode cX3_extend 51 = .ok (.iconst 0, 1) := by decide +kernel
theorem dX3_extend_52 : decode cX3_extend 52 = .ok (.istore_n 3, 1) := by decide +kernel
theorem dX3_extend_53 : decode cX3_extend 53 = .ok (.iload_n 3, 1) := by decide +kernel
theorem dX3_extend_54 : decode cX3_extend 54 = .ok (.ifCond .ne 25, 3) := by decide +kernel
theorem dX3_extend_57 : decode cX3_extend 57 = .ok (.aload_n 0, 1) := by decide +kernel
theorem dX3_extend_58 : decode cX3_extend 58 = .ok (.getfield 18, 3) := by decide +kernel
theorem dX3_extend_61 : decode cX3_extend 61 = .ok (.iload_n 2, 1) := by decide +kernel
theorem dX3_extend_62 : decode cX3_extend 62 = .ok (.iaload, 1) := by decide +kernel
theorem dX3_extend_63 : decode cX3_extend 63 = .ok (.aload_n 0, 1) := by decide +kernel
theorem dX3_extend_64 : decode cX3_extend 64 = .ok (.getfield 54, 3) := by decide +kernel
theorem dX3_extend_67 : decode cX3_extend 67 = .ok (.iconst (-1), 1) := by decide +kernel
theorem dX3_extend_68 : decode cX3_extend 68 = .ok (.ixor, 1) := by decide +kernel
theorem dX3_extend_69 : decode cX3_extend 69 = .ok (.iand, 1) := by decide +kernel
theorem dX3_extend_70 : decode cX3_extend 70 = .ok (.ifCond .ne 9, 3) := by decide +kernel
theorem dX3_extend_73 : decode cX3_extend 73 = .ok (.aload_n 0, 1) := by decide +kernel
theorem dX3_extend_74 : decode cX3_extend 74 = .ok (.iload_n 2, 1) := by decide +kernel
theorem dX3_extend_75 : decode cX3_extend 75 = .ok (.iload_n 1, 1) := by decide +kernel
theorem dX3_extend_76 : decode cX3_extend 76 = .ok (.invokevirtual 89, 3) := by decide +kernel
theorem dX3_extend_79 : decode cX3_extend 79 = .ok (.iinc 2 1, 3) := by decide +kernel
theorem dX3_extend_82 : decode cX3_extend 82 = .ok (.goto (-57), 3) := by decide +kernel
theorem dX3_extend_85 : decode cX3_extend 85 = .ok (.return_, 1) := by decide +kernel
theorem dX3_place_0 : decode cX3_place 0 = .ok (.aload_n 0, 1) := by decide +kernel
theorem dX3_place_1 : decode cX3_place 1 = .ok (.getfield 29, 3) := by decide +kernel
theorem dX3_place_4 : decode cX3_place 4 = .ok (.iload_n 2, 1) := by decide +kernel
theorem dX3_place_5 : decode cX3_place 5 = .ok (.iconst 1, 1) := by decide +kernel
theorem dX3_place_6 : decode cX3_place 6 = .ok (.iadd, 1) := by decide +kernel
theorem dX3_place_7 : decode cX3_place 7 = .ok (.aaload, 1) := by decide +kernel
theorem dX3_place_8 : decode cX3_place 8 = .ok (.astore_n 3, 1) := by decide +kernel
theorem dX3_place_9 : decode cX3_place 9 = .ok (.aload_n 3, 1) := by decide +kernel
theorem dX3_place_10 : decode cX3_place 10 = .ok (.aload_n 0, 1) := by decide +kernel
theorem dX3_place_11 : decode cX3_place 11 = .ok (.getfield 29, 3) := by decide +kernel
theorem dX3_place_14 : decode cX3_place 14 = .ok (.iload_n 2, 1) := by decide +kernel
theorem dX3_place_15 : decode cX3_place 15 = .ok (.aaload, 1) := by decide +kernel
theorem dX3_place_16 : decode cX3_place 16 = .ok (.invokevirtual 61, 3) := by decide +kernel
theorem dX3_place_19 : decode cX3_place 19 = .ok (.aload_n 3, 1) := by decide +kernel
theorem dX3_place_20 : decode cX3_place 20 = .ok (.aload_n 0, 1) := by decide +kernel
theorem dX3_place_21 : decode cX3_place 21 = .ok (.getfield 38, 3) := by decide +kernel
theorem dX3_place_24 : decode cX3_place 24 = .ok (.aload_n 0, 1) := by decide +kernel
theorem dX3_place_25 : decode cX3_place 25 = .ok (.getfield 48, 3) := by decide +kernel
theorem dX3_place_28 : decode cX3_place 28 = .ok (.getfield 77, 3) := by decide +kernel
theorem dX3_place_31 : decode cX3_place 31 = .ok (.iload_n 1, 1) := by decide +kernel
theorem dX3_place_32 : decode cX3_place 32 = .ok (.iaload, 1) := by decide +kernel
theorem dX3_place_33 : decode cX3_place 33 = .ok (.aload_n 0, 1) := by decide +kernel
theorem dX3_place_34 : decode cX3_place 34 = .ok (.getfield 38, 3) := by decide +kernel
theorem dX3_place_37 : decode cX3_place 37 = .ok (.getfield 93, 3) := by decide +kernel
theorem dX3_place_40 : decode cX3_place 40 = .ok (.iconst 5, 1) := by decide +kernel
theorem dX3_place_41 : decode cX3_place 41 = .ok (.iaload, 1) := by decide +kernel
theorem dX3_place_42 : decode cX3_place 42 = .ok (.invokevirtual 96, 3) := by decide +kernel
theorem dX3_place_45 : decode cX3_place 45 = .ok (.aload_n 3, 1) := by decide +kernel
theorem dX3_place_46 : decode cX3_place 46 = .ok (.sipush 255, 3) := by decide +kernel
theorem dX3_place_49 : decode cX3_place 49 = .ok (.invokevirtual 100, 3) := by decide +kernel
theorem dX3_place_52 : decode cX3_place 52 = .ok (.aload_n 0, 1) := by decide +kernel
theorem dX3_place_53 : decode cX3_place 53 = .ok (.getfield 50, 3) := by decide +kernel
theorem dX3_place_56 : decode cX3_place 56 = .ok (.if_icmp .lt 4, 3) := by decide +kernel
theorem dX3_place_59 : decode cX3_place 59 = .ok (.return_, 1) := by decide +kernel
theorem dX3_place_60 : decode cX3_place 60 = .ok (.aload_n 0, 1) := by decide +kernel
theorem dX3_place_61 : decode cX3_place 61 = .ok (.getfield 15, 3) := by decide +kernel
theorem dX3_place_64 : decode cX3_place 64 = .ok (.iload_n 2, 1) := by decide +kernel
theorem dX3_place_65 : decode cX3_place 65 = .ok (.iload_n 1, 1) := by decide +kernel
theorem dX3_place_66 : decode cX3_place 66 = .ok (.iastore, 1) := by decide +kernel
theorem dX3_place_67 : decode cX3_place 67 = .ok (.aload_n 0, 1) := by decide +kernel
theorem dX3_place_68 : decode cX3_place 68 = .ok (.dup, 1) := by decide +kernel
theorem dX3_place_69 : decode cX3_place 69 = .ok (.getfield 54, 3) := by decide +kernel
theorem dX3_place_72 : decode cX3_place 72 = .ok (.iconst 1, 1) := by decide +kernel
theorem dX3_place_73 : decode cX3_place 73 = .ok (.iload_n 1, 1) := by decide +kernel
theorem dX3_place_74 : decode cX3_place 74 = .ok (.ishl, 1) := by decide +kernel
theorem dX3_place_75 : decode cX3_place 75 = .ok (.ior, 1) := by decide +kernel
theorem dX3_place_76 : decode cX3_place 76 = .ok (.putfield 54, 3) := by decide +kernel
theorem dX3_place_79 : decode cX3_place 79 = .ok (.aload_n 0, 1) := by decide +kernel
theorem dX3_place_80 : decode cX3_place 80 = .ok (.iload_n 2, 1) := by decide +kernel
theorem dX3_place_81 : decode cX3_place 81 = .ok (.iconst 1, 1) := by decide +kernel
theorem dX3_place_82 : decode cX3_place 82 = .ok (.iadd, 1) := by decide +kernel
theorem dX3_place_83 : decode cX3_place 83 = .ok (.invokevirtual 68, 3) := by decide +kernel
theorem dX3_place_86 : decode cX3_place 86 = .ok (.aload_n 0, 1) := by decide +kernel
theorem dX3_place_87 : decode cX3_place 87 = .ok (.dup, 1) := by decide +kernel
theorem dX3_place_88 : decode cX3_place 88 = .ok (.getfield 54, 3) := by decide +kernel
theorem dX3_place_91 : decode cX3_place 91 = .ok (.iconst 1, 1) := by decide +kernel
theorem dX3_place_92 : decode cX3_place 92 = .ok (.iload_n 1, 1) := by decide +kernel
theorem dX3_place_93 : decode cX3_place 93 = .ok (.ishl, 1) := by decide +kernel
theorem dX3_place_94 : decode cX3_place 94 = .ok (.iconst (-1), 1) := by decide +kernel
theorem dX3_place_95 : decode cX3_place 95 = .ok (.ixor, 1) := by decide +kernel
theorem dX3_place_96 : decode cX3_place 96 = .ok (.iand, 1) := by decide +kernel
theorem dX3_place_97 : decode cX3_place 97 = .ok (.putfield 54, 3) := by decide +kernel
theorem dX3_place_100 : decode cX3_place 100 = .ok (.return_, 1) := by decide +kernel
theorem dX3_keepOrder_0 : decode cX3_keepOrder 0 = .ok (.aload_n 0, 1) := by decide +kernel
theorem dX3_keepOrder_1 : decode cX3_keepOrder 1 = .ok (.aload_n 0, 1) := by decide +kernel
theorem dX3_keepOrder_2 : decode cX3_keepOrder 2 = .ok (.getfield 29, 3) := by decide +kernel
theorem dX3_keepOrder_5 : decode cX3_keepOrder 5 = .ok (.iload_n 1, 1) := by decide +kernel
theorem dX3_keepOrder_6 : decode cX3_keepOrder 6 = .ok (.aaload, 1) := by decide +kernel
theorem dX3_keepOrder_7 : decode cX3_keepOrder 7 = .ok (.sipush 255, 3) := by decide +kernel
theorem dX3_keepOrder_10 : decode cX3_keepOrder 10 = .ok (.invokevirtual 100, 3) := by decide +kernel
theorem dX3_keepOrder_13 : decode cX3_keepOrder 13 = .ok (.putfield 50, 3) := by decide +kernel
theorem dX3_keepOrder_16 : decode cX3_keepOrder 16 = .ok (.aload_n 0, 1) := by decide +kernel
theorem dX3_keepOrder_17 : decode cX3_keepOrder 17 = .ok (.getfield 15, 3) := by decide +kernel
theorem dX3_keepOrder_20 : decode cX3_keepOrder 20 = .ok (.iconst 0, 1) := by decide +kernel
theorem dX3_keepOrder_21 : decode cX3_keepOrder 21 = .ok (.aload_n 0, 1) := by decide +kernel
theorem dX3_keepOrder_22 : decode cX3_keepOrder 22 = .ok (.getfield 9, 3) := by decide +kernel
theorem dX3_keepOrder_25 : decode cX3_keepOrder 25 = .ok (.iconst 0, 1) := by decide +kernel
theorem dX3_keepOrder_26 : decode cX3_keepOrder 26 = .ok (.iload_n 1, 1) := by decide +kernel
theorem dX3_keepOrder_27 : decode cX3_keepOrder 27 = .ok (.invokestatic 104, 3) := by decide +kernel
theorem dX3_keepOrder_30 : decode cX3_keepOrder 30 = .ok (.return_, 1) := by decide +kernel
theorem dX3_applyTo_0 : decode cX3_applyTo 0 = .ok (.iconst 0, 1) := by decide +kernel
theorem dX3_applyTo_1 : decode cX3_applyTo 1 = .ok (.istore_n 2, 1) := by decide +kernel
theorem dX3_applyTo_2 : decode cX3_applyTo 2 = .ok (.iload_n 2, 1) := by decide +kernel
theorem dX3_applyTo_3 : decode cX3_applyTo 3 = .ok (.aload_n 1, 1) := by decide +kernel
theorem dX3_applyTo_4 : decode cX3_applyTo 4 = .ok (.getfield 72, 3) := by decide +kernel
theorem dX3_applyTo_7 : decode cX3_applyTo 7 = .ok (.if_icmp .ge 26, 3) := by decide +kernel
theorem dX3_applyTo_10 : decode cX3_applyTo 10 = .ok (.aload_n 0, 1) := by decide +kernel
theorem dX3_applyTo_11 : decode cX3_applyTo 11 = .ok (.getfield 21, 3) := by decide +kernel
theorem dX3_applyTo_14 : decode cX3_applyTo 14 = .ok (.iload_n 2, 1) := by decide +kernel
theorem dX3_applyTo_15 : decode cX3_applyTo 15 = .ok (.aload_n 1, 1) := by decide +kernel
theorem dX3_applyTo_16 : decode cX3_applyTo 16 = .ok (.getfield 77, 3) := by decide +kernel
theorem dX3_applyTo_19 : decode cX3_applyTo 19 = .ok (.aload_n 0, 1) := by decide +kernel
theorem dX3_applyTo_20 : decode cX3_applyTo 20 = .ok (.getfield 9, 3) := by decide +kernel
theorem dX3_applyTo_23 : decode cX3_applyTo 23 = .ok (.iload_n 2, 1) := by decide +kernel
theorem dX3_applyTo_24 : decode cX3_applyTo 24 = .ok (.iaload, 1) := by decide +kernel
theorem dX3_applyTo_25 : decode cX3_applyTo 25 = .ok (.iaload, 1) := by decide +kernel
theorem dX3_applyTo_26 : decode cX3_applyTo 26 = .ok (.iastore, 1) := by decide +kernel
theorem dX3_applyTo_27 : decode cX3_applyTo 27 = .ok (.iinc 2 1, 3) := by decide +kernel
theorem dX3_applyTo_30 : decode cX3_applyTo 30 = .ok (.goto (-28), 3) := by decide +kernel
theorem dX3_applyTo_33 : decode cX3_applyTo 33 = .ok (.aload_n 0, 1) := by decide +kernel
theorem dX3_applyTo_34 : decode cX3_applyTo 34 = .ok (.getfield 21, 3) := by decide +kernel
theorem dX3_applyTo_37 : decode cX3_applyTo 37 = .ok (.iconst 0, 1) := by decide +kernel
theorem dX3_applyTo_38 : decode cX3_applyTo 38 = .ok (.aload_n 1, 1) := by decide +kernel
theorem dX3_applyTo_39 : decode cX3_applyTo 39 = .ok (.getfield 77, 3) := by decide +kernel
theorem dX3_applyTo_42 : decode cX3_applyTo 42 = .ok (.iconst 0, 1) := by decide +kernel
theorem dX3_applyTo_43 : decode cX3_applyTo 43 = .ok (.aload_n 1, 1) := by decide +kernel
theorem dX3_applyTo_44 : decode cX3_applyTo 44 = .ok (.getfield 72, 3) := by decide +kernel
theorem dX3_applyTo_47 : decode cX3_applyTo 47 = .ok (.invokestatic 104, 3) := by decide +kernel
theorem dX3_applyTo_50 : decode cX3_applyTo 50 = .ok (.return_, 1) := by decide +kernel
theorem dX3_chainLength_0 : decode cX3_chainLength 0 = .ok (.iconst 0, 1) := by decide +kernel
theorem dX3_chainLength_1 : decode cX3_chainLength 1 = .ok (.istore_n 3, 1) := by decide +kernel
theorem dX3_chainLength_2 : decode cX3_chainLength 2 = .ok (.iconst 0, 1) := by decide +kernel
theorem dX3_chainLength_3 : decode cX3_chainLength 3 = .ok (.istore 4, 2) := by decide +kernel
theorem dX3_chainLength_5 : decode cX3_chainLength 5 = .ok (.iload 4, 2) := by decide +kernel
theorem dX3_chainLength_7 : decode cX3_chainLength 7 = .ok (.aload_n 2, 1) := by decide +kernel
theorem dX3_chainLength_8 : decode cX3_chainLength 8 = .ok (.getfield 72, 3) := by decide +kernel
theorem dX3_chainLength_11 : decode cX3_chainLength 11 = .ok (.if_icmp .ge 99, 3) := by decide +kernel
theorem dX3_chainLength_14 : decode cX3_chainLength 14 = .ok (.aload_n 0, 1) := by decide +kernel
theorem dX3_chainLength_15 : decode cX3_chainLength 15 = .ok (.getfield 24, 3) := by decide +kernel
theorem dX3_chainLength_18 : decode cX3_chainLength 18 = .ok (.iload 4, 2) := by decide +kernel
theorem dX3_chainLength_20 : decode cX3_chainLength 20 = .ok (.iconst 1, 1) := by decide +kernel
theorem dX3_chainLength_21 : decode cX3_chainLength 21 = .ok (.iastore, 1) := by decide +kernel
theorem dX3_chainLength_22 : decode cX3_chainLength 22 = .ok (.iconst 0, 1) := by decide +kernel
theorem dX3_chainLength_23 : decode cX3_chainLength 23 = .ok (.istore 5, 2) := by decide +kernel
theorem dX3_chainLength_25 : decode cX3_chainLength 25 = .ok (.iload 5, 2) := by decide +kernel
theorem dX3_chainLength_27 : decode cX3_chainLength 27 = .ok (.iload 4, 2) := by decide +kernel
theorem dX3_chainLength_29 : decode cX3_chainLength 29 = .ok (.if_icmp .ge 63, 3) := by decide +kernel
theorem dX3_chainLength_32 : decode cX3_chainLength 32 = .ok (.aload_n 0, 1) := by decide +kernel
theorem dX3_chainLength_33 : decode cX3_chainLength 33 = .ok (.getfield 24, 3) := by decide +kernel
theorem dX3_chainLength_36 : decode cX3_chainLength 36 = .ok (.iload 5, 2) := by decide +kernel
theorem dX3_chainLength_38 : decode cX3_chainLength 38 = .ok (.iaload, 1) := by decide +kernel
theorem dX3_chainLength_39 : decode cX3_chainLength 39 = .ok (.aload_n 0, 1) := by decide +kernel
theorem dX3_chainLength_40 : decode cX3_chainLength 40 = .ok (.getfield 24, 3) := by decide +kernel
theorem dX3_chainLength_43 : decode cX3_chainLength 43 = .ok (.iload 4, 2) := by decide +kernel
theorem dX3_chainLength_45 : decode cX3_chainLength 45 = .ok (.iaload, 1) := by decide +kernel
theorem dX3_chainLength_46 : decode cX3_chainLength 46 = .ok (.if_icmp .lt 40, 3) := by decide +kernel
theorem dX3_chainLength_49 : decode cX3_chainLength 49 = .ok (.aload_n 1, 1) := by decide +kernel
theorem dX3_chainLength_50 : decode cX3_chainLength 50 = .ok (.aload_n 2, 1) := by decide +kernel
theorem dX3_chainLength_51 : decode cX3_chainLength 51 = .ok (.getfield 77, 3) := by decide +kernel
theorem dX3_chainLength_54 : decode cX3_chainLength 54 = .ok (.iload 5, 2) := by decide +kernel
theorem dX3_chainLength_56 : decode cX3_chainLength 56 = .ok (.iaload, 1) := by decide +kernel
theorem dX3_chainLength_57 : decode cX3_chainLength 57 = .ok (.aload_n 2, 1) := by decide +kernel
theorem dX3_chainLength_58 : decode cX3_chainLength 58 = .ok (.getfield 77, 3) := by decide +kernel
theorem dX3_chainLength_61 : decode cX3_chainLength 61 = .ok (.iload 4, 2) := by decide +kernel
theorem dX3_chainLength_63 : decode cX3_chainLength 63 = .ok (.iaload, 1) := by decide +kernel
theorem dX3_chainLength_64 : decode cX3_chainLength 64 = .ok (.invokevirtual 80, 3) := by decide +kernel
theorem dX3_chainLength_67 : decode cX3_chainLength 67 = .ok (.ifCond .eq 19, 3) := by decide +kernel
theorem dX3_chainLength_70 : decode cX3_chainLength 70 = .ok (.aload_n 0, 1) := by decide +kernel
theorem dX3_chainLength_71 : decode cX3_chainLength 71 = .ok (.getfield 24, 3) := by decide +kernel
theorem dX3_chainLength_74 : decode cX3_chainLength 74 = .ok (.iload 4, 2) := by decide +kernel
theorem dX3_chainLength_76 : decode cX3_chainLength 76 = .ok (.aload_n 0, 1) := by decide +kernel
theorem dX3_chainLength_77 : decode cX3_chainLength 77 = .ok (.getfield 24, 3) := by decide +kernel
theorem dX3_chainLength_80 : decode cX3_chainLength 80 = .ok (.iload 5, 2) := by decide +kernel
theorem dX3_chainLength_82 : decode cX3_chainLength 82 = .ok (.iaload, 1) := by decide +kernel
theorem dX3_chainLength_83 : decode cX3_chainLength 83 = .ok (.iconst 1, 1) := by decide +kernel
theorem dX3_chainLength_84 : decode cX3_chainLength 84 = .ok (.iadd, 1) := by decide +kernel
theorem dX3_chainLength_85 : decode cX3_chainLength 85 = .ok (.iastore, 1) := by decide +kernel
theorem dX3_chainLength_86 : decode cX3_chainLength 86 = .ok (.iinc 5 1, 3) := by decide +kernel
theorem dX3_chainLength_89 : decode cX3_chainLength 89 = .ok (.goto (-64), 3) := by decide +kernel
theorem dX3_chainLength_92 : decode cX3_chainLength 92 = .ok (.iload_n 3, 1) := by decide +kernel
theorem dX3_chainLength_93 : decode cX3_chainLength 93 = .ok (.aload_n 0, 1) := by decide +kernel
theorem dX3_chainLength_94 : decode cX3_chainLength 94 = .ok (.getfield 24, 3) := by decide +kernel
theorem dX3_chainLength_97 : decode cX3_chainLength 97 = .ok (.iload 4, 2) := by decide +kernel
theorem dX3_chainLength_99 : decode cX3_chainLength 99 = .ok (.iaload, 1) := by decide +kernel
theorem dX3_chainLength_100 : decode cX3_chainLength 100 = .ok (.invokestatic 110, 3) := by decide +kernel
theorem dX3_chainLength_103 : decode cX3_chainLength 103 = .ok (.istore_n 3, 1) := by decide +kernel
theorem dX3_chainLength_104 : decode cX3_chainLength 104 = .ok (.iinc 4 1, 3) := by decide +kernel
theorem dX3_chainLength_107 : decode cX3_chainLength 107 = .ok (.goto (-102), 3) := by decide +kernel
theorem dX3_chainLength_110 : decode cX3_chainLength 110 = .ok (.iload_n 3, 1) := by decide +kernel
theorem dX3_chainLength_111 : decode cX3_chainLength 111 = .ok (.ireturn, 1) := by decide +kernel
theorem dX4_init_0 : decode cX4_init 0 = .ok (.aload_n 0, 1) := by decide +kernel
theorem dX4_init_1 : decode cX4_init 1 = .ok (.invokespecial 3, 3) := by decide +kernel
theorem dX4_init_4 : decode cX4_init 4 = .ok (.aload_n 0, 1) := by decide +kernel
theorem dX4_init_5 : decode cX4_init 5 = .ok (.bipush 9, 2) := by decide +kernel
theorem dX4_init_7 : decode cX4_init 7 = .ok (.newarray .int, 2) := by decide +kernel
theorem dX4_init_9 : decode cX4_init 9 = .ok (.putfield 9, 3) := by decide +kernel
theorem dX4_init_12 : decode cX4_init 12 = .ok (.aload_n 0, 1) := by decide +kernel
theorem dX4_init_13 : decode cX4_init 13 = .ok (.bipush 12, 2) := by decide +kernel
theorem dX4_init_15 : decode cX4_init 15 = .ok (.newarray .int, 2) := by decide +kernel
theorem dX4_init_17 : decode cX4_init 17 = .ok (.putfield 15, 3) := by decide +kernel
theorem dX4_init_20 : decode cX4_init 20 = .ok (.aload_n 0, 1) := by decide +kernel
theorem dX4_init_21 : decode cX4_init 21 = .ok (.bipush 12, 2) := by decide +kernel
theorem dX4_init_23 : decode cX4_init 23 = .ok (.newarray .int, 2) := by decide +kernel
theorem dX4_init_25 : decode cX4_init 25 = .ok (.putfield 18, 3) := by decide +kernel
theorem dX4_init_28 : decode cX4_init 28 = .ok (.aload_n 0, 1) := by decide +kernel
theorem dX4_init_29 : decode cX4_init 29 = .ok (.bipush 12, 2) := by decide +kernel
theorem dX4_init_31 : decode cX4_init 31 = .ok (.newarray .int, 2) := by decide +kernel
theorem dX4_init_33 : decode cX4_init 33 = .ok (.putfield 21, 3) := by decide +kernel
theorem dX4_init_36 : decode cX4_init 36 = .ok (.aload_n 0, 1) := by decide +kernel
theorem dX4_init_37 : decode cX4_init 37 = .ok (.bipush 60, 2) := by decide +kernel
theorem dX4_init_39 : decode cX4_init 39 = .ok (.newarray .int, 2) := by decide +kernel
theorem dX4_init_41 : decode cX4_init 41 = .ok (.putfield 24, 3) := by decide +kernel
theorem dX4_init_44 : decode cX4_init 44 = .ok (.aload_n 0, 1) := by decide +kernel
theorem dX4_init_45 : decode cX4_init 45 = .ok (.bipush 60, 2) := by decide +kernel
theorem dX4_init_47 : decode cX4_init 47 = .ok (.newarray .int, 2) := by decide +kernel
theorem dX4_init_49 : decode cX4_init 49 = .ok (.putfield 27, 3) := by decide +kernel
theorem dX4_init_52 : decode cX4_init 52 = .ok (.aload_n 0, 1) := by decide +kernel
theorem dX4_init_53 : decode cX4_init 53 = .ok (.bipush 60, 2) := by decide +kernel
theorem dX4_init_55 : decode cX4_init 55 = .ok (.newarray .int, 2) := by decide +kernel
theorem dX4_init_57 : decode cX4_init 57 = .ok (.putfield 30, 3) := by decide +kernel
theorem dX4_init_60 : decode cX4_init 60 = .ok (.aload_n 0, 1) := by decide +kernel
theorem dX4_init_61 : decode cX4_init 61 = .ok (.bipush 60, 2) := by decide +kernel
theorem dX4_init_63 : decode cX4_init 63 = .ok (.newarray .int, 2) := by decide +kernel
theorem dX4_init_65 : decode cX4_init 65 = .ok (.putfield 33, 3) := by decide +kernel
theorem dX4_init_68 : decode cX4_init 68 = .ok (.aload_n 0, 1) := by decide +kernel
theorem dX4_init_69 : decode cX4_init 69 = .ok (.bipush 60, 2) := by decide +kernel
theorem dX4_init_71 : decode cX4_init 71 = .ok (.newarray .int, 2) := by decide +kernel
theorem dX4_init_73 : decode cX4_init 73 = .ok (.putfield 36, 3) := by decide +kernel
theorem dX4_init_76 : decode cX4_init 76 = .ok (.aload_n 0, 1) := by decide +kernel
theorem dX4_init_77 : decode cX4_init 77 = .ok (.bipush 60, 2) := by decide +kernel
theorem dX4_init_79 : decode cX4_init 79 = .ok (.newarray .int, 2) := by decide +kernel
theorem dX4_init_81 : decode cX4_init 81 = .ok (.putfield 39, 3) := by decide +kernel
theorem dX4_init_84 : decode cX4_init 84 = .ok (.aload_n 0, 1) := by decide +kernel
theorem dX4_init_85 : decode cX4_init 85 = .ok (.bipush 96, 2) := by decide +kernel
theorem dX4_init_87 : decode cX4_init 87 = .ok (.newarray .int, 2) := by decide +kernel
theorem dX4_init_89 : decode cX4_init 89 = .ok (.putfield 42, 3) := by decide +kernel
theorem dX4_init_92 : decode cX4_init 92 = .ok (.aload_n 0, 1) := by decide +kernel
theorem dX4_init_93 : decode cX4_init 93 = .ok (.bipush 96, 2) := by decide +kernel
theorem dX4_init_95 : decode cX4_init 95 = .ok (.newarray .int, 2) := by decide +kernel
theorem dX4_init_97 : decode cX4_init 97 = .ok (.putfield 45, 3) := by decide +kernel
theorem dX4_init_100 : decode cX4_init 100 = .ok (.return_, 1) := by decide +kernel
theorem dX4_clear_0 : decode cX4_clear 0 = .ok (.aload_n 0, 1) := by decide +kernel
theorem dX4_clear_1 : decode cX4_clear 1 = .ok (.iconst 1, 1) := by decide +kernel
theorem dX4_clear_2 : decode cX4_clear 2 = .ok (.putfield 48, 3) := by decide +kernel
theorem dX4_clear_5 : decode cX4_clear 5 = .ok (.aload_n 0, 1) := by decide +kernel
theorem dX4_clear_6 : decode cX4_clear 6 = .ok (.iconst 1, 1) := by decide +kernel
theorem dX4_clear_7 : decode cX4_clear 7 = .ok (.putfield 52, 3) := by decide +kernel
theorem dX4_clear_10 : decode cX4_clear 10 = .ok (.aload_n 0, 1) := by decide +kernel
theorem dX4_clear_11 : decode cX4_clear 11 = .ok (.iconst 1, 1) := by decide +kernel
theorem dX4_clear_12 : decode cX4_clear 12 = .ok (.putfield 55, 3) := by decide +kernel
theorem dX4_clear_15 : decode cX4_clear 15 = .ok (.getstatic 58, 3) := by decide +kernel
theorem dX4_clear_18 : decode cX4_clear 18 = .ok (.iconst 0, 1) := by decide +kernel
theorem dX4_clear_19 : decode cX4_clear 19 = .ok (.aload_n 0, 1) := by decide +kernel
theorem dX4_clear_20 : decode cX4_clear 20 = .ok (.getfield 9, 3) := by decide +kernel
theorem dX4_clear_23 : decode cX4_clear 23 = .ok (.iconst 0, 1) := by decide +kernel
theorem dX4_clear_24 : decode cX4_clear 24 = .ok (.bipush 9, 2) := by decide +kernel
theorem dX4_clear_26 : decode cX4_clear 26 = .ok (.invokestatic 61, 3) := by decide +kernel
theorem dX4_clear_29 : decode cX4_clear 29 = .ok (.aload_n 0, 1) := by decide +kernel
theorem dX4_clear_30 : decode cX4_clear 30 = .ok (.iconst 0, 1) := by decide +kernel
theorem dX4_clear_31 : decode cX4_clear 31 = .ok (.putfield 67, 3) := by decide +kernel
theorem dX4_clear_34 : decode cX4_clear 34 = .ok (.aload_n 0, 1) := by decide +kernel
theorem dX4_clear_35 : decode cX4_clear 35 = .ok (.iconst 0, 1) := by decide +kernel
theorem dX4_clear_36 : decode cX4_clear 36 = .ok (.putfield 70, 3) := by decide +kernel
theorem dX4_clear_39 : decode cX4_clear 39 = .ok (.aload_n 0, 1) := by decide +kernel
theorem dX4_clear_40 : decode cX4_clear 40 = .ok (.getfield 42, 3) := by decide +kernel
theorem dX4_clear_43 : decode cX4_clear 43 = .ok (.iconst 0, 1) := by decide +kernel
theorem dX4_clear_44 : decode cX4_clear 44 = .ok (.invokestatic 73, 3) := by decide +kernel
theorem dX4_clear_47 : decode cX4_clear 47 = .ok (.aload_n 0, 1) := by decide +kernel
theorem dX4_clear_48 : decode cX4_clear 48 = .ok (.getfield 45, 3) := by decide +kernel
theorem dX4_clear_51 : decode cX4_clear 51 = .ok (.iconst 0, 1) := by decide +kernel
theorem dX4_clear_52 : decode cX4_clear 52 = .ok (.invokestatic 73, 3) := by decide +kernel
theorem dX4_clear_55 : decode cX4_clear 55 = .ok (.return_, 1) := by decide +kernel
theorem dX4_beginBatch_0 : decode cX4_beginBatch 0 = .ok (.aload_n 0, 1) := by decide +kernel
theorem dX4_beginBatch_1 : decode cX4_beginBatch 1 = .ok (.getfield 15, 3) := by decide +kernel
theorem dX4_beginBatch_4 : decode cX4_beginBatch 4 = .ok (.aload_n 0, 1) := by decide +kernel
theorem dX4_beginBatch_5 : decode cX4_beginBatch 5 = .ok (.getfield 67, 3) := by decide +kernel
theorem dX4_beginBatch_8 : decode cX4_beginBatch 8 = .ok (.iload_n 1, 1) := by decide +kernel
theorem dX4_beginBatch_9 : decode cX4_beginBatch 9 = .ok (.iastore, 1) := by decide +kernel
theorem dX4_beginBatch_10 : decode cX4_beginBatch 10 = .ok (.aload_n 0, 1) := by decide +kernel
theorem dX4_beginBatch_11 : decode cX4_beginBatch 11 = .ok (.getfield 18, 3) := by decide +kernel
theorem dX4_beginBatch_14 : decode cX4_beginBatch 14 = .ok (.aload_n 0, 1) := by decide +kernel
theorem dX4_beginBatch_15 : decode cX4_beginBatch 15 = .ok (.getfield 67, 3) := by decide +kernel
theorem dX4_beginBatch_18 : decode cX4_beginBatch 18 = .ok (.aload_n 0, 1) := by decide +kernel
theorem dX4_beginBatch_19 : decode cX4_beginBatch 19 = .ok (.getfield 70, 3) := by decide +kernel
theorem dX4_beginBatch_22 : decode cX4_beginBatch 22 = .ok (.iastore, 1) := by decide +kernel
theorem dX4_beginBatch_23 : decode cX4_beginBatch 23 = .ok (.return_, 1) := by decide +kernel
theorem dX4_endBatch_0 : decode cX4_endBatch 0 = .ok (.aload_n 0, 1) := by decide +kernel
theorem dX4_endBatch_1 : decode cX4_endBatch 1 = .ok (.getfield 21, 3) := by decide +kernel
theorem dX4_endBatch_4 : decode cX4_endBatch 4 = .ok (.aload_n 0, 1) := by decide +kernel
theorem dX4_endBatch_5 : decode cX4_endBatch 5 = .ok (.getfield 67, 3) := by decide +kernel
theorem dX4_endBatch_8 : decode cX4_endBatch 8 = .ok (.aload_n 0, 1) := by decide +kernel
theorem dX4_endBatch_9 : decode cX4_endBatch 9 = .ok (.getfield 70, 3) := by decide +kernel
theorem dX4_endBatch_12 : decode cX4_endBatch 12 = .ok (.iastore, 1) := by decide +kernel
theorem dX4_endBatch_13 : decode cX4_endBatch 13 = .ok (.aload_n 0, 1) := by decide +kernel
theorem dX4_endBatch_14 : decode cX4_endBatch 14 = .ok (.getfield 18, 3) := by decide +kernel
theorem dX4_endBatch_17 : decode cX4_endBatch 17 = .ok (.aload_n 0, 1) := by decide +kernel
theorem dX4_endBatch_18 : decode cX4_endBatch 18 = .ok (.getfield 67, 3) := by decide +kernel
theorem dX4_endBatch_21 : decode cX4_endBatch 21 = .ok (.iaload, 1) := by decide +kernel
theorem dX4_endBatch_22 : decode cX4_endBatch 22 = .ok (.istore_n 1, 1) := by decide +kernel
theorem dX4_endBatch_23 : decode cX4_endBatch 23 = .ok (.iload_n 1, 1) := by decide +kernel
theorem dX4_endBatch_24 : decode cX4_endBatch 24 = .ok (.aload_n 0, 1) := by decide +kernel
theorem dX4_endBatch_25 : decode cX4_endBatch 25 = .ok (.getfield 70, 3) := by decide +kernel
theorem dX4_endBatch_28 : decode cX4_endBatch 28 = .ok (.if_icmp .ge 25, 3) := by decide +kernel
theorem dX4_endBatch_31 : decode cX4_endBatch 31 = .ok (.aload_n 0, 1) := by decide +kernel
theorem dX4_endBatch_32 : decode cX4_endBatch 32 = .ok (.getfield 39, 3) := by decide +kernel
theorem dX4_endBatch_35 : decode cX4_endBatch 35 = .ok (.iload_n 1, 1) := by decide +kernel
theorem dX4_endBatch_36 : decode cX4_endBatch 36 = .ok (.aload_n 0, 1) := by decide +kernel
theorem dX4_endBatch_37 : decode cX4_endBatch 37 = .ok (.iload_n 1, 1) := by decide +kernel
theorem dX4_endBatch_38 : decode cX4_endBatch 38 = .ok (.invokevirtual 79, 3) := by decide +kernel
theorem dX4_endBatch_41 : decode cX4_endBatch 41 = .ok (.iastore, 1) := by decide +kernel
theorem dX4_endBatch_42 : decode cX4_endBatch 42 = .ok (.aload_n 0, 1) := by decide +kernel
theorem dX4_endBatch_43 : decode cX4_endBatch 43 = .ok (.iload_n 1, 1) := by decide +kernel
theorem dX4_endBatch_44 : decode cX4_endBatch 44 = .ok (.invokevirtual 83, 3) := by decide +kernel
theorem dX4_endBatch_47 : decode cX4_endBatch 47 = .ok (.iinc 1 1, 3) := by decide +kernel
theorem dX4_endBatch_50 : decode cX4_endBatch 50 = .ok (.goto (-27), 3) := by decide +kernel
theorem dX4_endBatch_53 : decode cX4_endBatch 53 = .ok (.aload_n 0, 1) := by decide +kernel
theorem dX4_endBatch_54 : decode cX4_endBatch 54 = .ok (.dup, 1) := by decide +kernel
theorem dX4_endBatch_55 : decode cX4_endBatch 55 = .ok (.getfield 67, 3) := by decide +kernel
theorem dX4_endBatch_58 : decode cX4_endBatch 58 = .ok (.iconst 1, 1) := by decide +kernel
theorem dX4_endBatch_59 : decode cX4_endBatch 59 = .ok (.iadd, 1) := by decide +kernel
theorem dX4_endBatch_60 : decode cX4_endBatch 60 = .ok (.putfield 67, 3) := by decide +kernel
theorem dX4_endBatch_63 : decode cX4_endBatch 63 = .ok (.return_, 1) := by decide +kernel
theorem dX4_delayOf_0 : decode cX4_delayOf 0 = .ok (.aload_n 0, 1) := by decide +kernel
theorem dX4_delayOf_1 : decode cX4_delayOf 1 = .ok (.getfield 9, 3) := by decide +kernel
theorem dX4_delayOf_4 : decode cX4_delayOf 4 = .ok (.aload_n 0, 1) := by decide +kernel
theorem dX4_delayOf_5 : decode cX4_delayOf 5 = .ok (.getfield 27, 3) := by decide +kernel
theorem dX4_delayOf_8 : decode cX4_delayOf 8 = .ok (.iload_n 1, 1) := by decide +kernel
theorem dX4_delayOf_9 : decode cX4_delayOf 9 = .ok (.iaload, 1) := by decide +kernel
theorem dX4_delayOf_10 : decode cX4_delayOf 10 = .ok (.bipush 16, 2) := by decide +kernel
theorem dX4_delayOf_12 : decode cX4_delayOf 12 = .ok (.if_icmp .ne 7, 3) := by decide +kernel
theorem dX4_delayOf_15 : decode cX4_delayOf 15 = .ok (.iconst 3, 1) := by decide +kernel
theorem dX4_delayOf_16 : decode cX4_delayOf 16 = .ok (.goto 4, 3) := by decide +kernel
theorem dX4_delayOf_19 : decode cX4_delayOf 19 = .ok (.iconst 2, 1) := by decide +kernel
theorem dX4_delayOf_20 : decode cX4_delayOf 20 = .ok (.iaload, 1) := by decide +kernel
theorem dX4_delayOf_21 : decode cX4_delayOf 21 = .ok (.istore_n 2, 1) := by decide +kernel
theorem dX4_delayOf_22 : decode cX4_delayOf 22 = .ok (.aload_n 0, 1) := by decide +kernel
theorem dX4_delayOf_23 : decode cX4_delayOf 23 = .ok (.getfield 24, 3) := by decide +kernel
theorem dX4_delayOf_26 : decode cX4_delayOf 26 = .ok (.iload_n 1, 1) := by decide +kernel
theorem dX4_delayOf_27 : decode cX4_delayOf 27 = .ok (.iaload, 1) := by decide +kernel
theorem dX4_delayOf_28 : decode cX4_delayOf 28 = .ok (.lookupswitch 120 #[(8, 89), (9, 68), (10, 68), (11, 75), (12, 79), (13, 113), (34, 77)], 68) := by decide +kernel
theorem dX4_delayOf_96 : decode cX4_delayOf 96 = .ok (.aload_n 0, 1) := by decide +kernel
theorem dX4_delayOf_97 : decode cX4_delayOf 97 = .ok (.getfield 9, 3) := by decide +kernel
theorem dX4_delayOf_100 : decode cX4_delayOf 100 = .ok (.iconst 1, 1) := by decide +kernel
theorem dX4_delayOf_101 : decode cX4_delayOf 101 = .ok (.iaload, 1) := by decide +kernel
theorem dX4_delayOf_102 : decode cX4_delayOf 102 = .ok (.ireturn, 1) := by decide +kernel
theorem dX4_delayOf_103 : decode cX4_delayOf 103 = .ok (.iconst 1, 1) := by decide +kernel
theorem dX4_delayOf_104 : decode cX4_delayOf 104 = .ok (.ireturn, 1) := by decide +kernel
theorem dX4_delayOf_105 : decode cX4_delayOf 105 = .ok (.iload_n 2, 1) := by decide +kernel
theorem dX4_delayOf_106 : decode cX4_delayOf 106 = .ok (.ireturn, 1) := by decide +kernel
theorem dX4_delayOf_107 : decode cX4_delayOf 107 = .ok (.aload_n 0, 1) := by decide +kernel
theorem dX4_delayOf_108 : decode cX4_delayOf 108 = .ok (.getfield 55, 3) := by decide +kernel
theorem dX4_delayOf_111 : decode cX4_delayOf 111 = .ok (.invokestatic 87, 3) := by decide +kernel
theorem dX4_delayOf_114 : decode cX4_delayOf 114 = .ok (.iload_n 2, 1) := by decide +kernel
theorem dX4_delayOf_115 : decode cX4_delayOf 115 = .ok (.imul, 1) := by decide +kernel
theorem dX4_delayOf_116 : decode cX4_delayOf 116 = .ok (.ireturn, 1) := by decide +kernel
theorem dX4_delayOf_117 : decode cX4_delayOf 117 = .ok (.aload_n 0, 1) := by decide +kernel
theorem dX4_delayOf_118 : decode cX4_delayOf 118 = .ok (.getfield 15, 3) := by decide +kernel
theorem dX4_delayOf_121 : decode cX4_delayOf 121 = .ok (.aload_n 0, 1) := by decide +kernel
theorem dX4_delayOf_122 : decode cX4_delayOf 122 = .ok (.getfield 67, 3) := by decide +kernel
theorem dX4_delayOf_125 : decode cX4_delayOf 125 = .ok (.iaload, 1) := by decide +kernel
theorem dX4_delayOf_126 : decode cX4_delayOf 126 = .ok (.invokestatic 90, 3) := by decide +kernel
theorem dX4_delayOf_129 : decode cX4_delayOf 129 = .ok (.invokestatic 87, 3) := by decide +kernel
theorem dX4_delayOf_132 : decode cX4_delayOf 132 = .ok (.aload_n 0, 1) := by decide +kernel
theorem dX4_delayOf_133 : decode cX4_delayOf 133 = .ok (.getfield 9, 3) := by decide +kernel
theorem dX4_delayOf_136 : decode cX4_delayOf 136 = .ok (.bipush 8, 2) := by decide +kernel
theorem dX4_delayOf_138 : decode cX4_delayOf 138 = .ok (.iaload, 1) := by decide +kernel
theorem dX4_delayOf_139 : decode cX4_delayOf 139 = .ok (.imul, 1) := by decide +kernel
theorem dX4_delayOf_140 : decode cX4_delayOf 140 = .ok (.ireturn, 1) := by decide +kernel
theorem dX4_delayOf_141 : decode cX4_delayOf 141 = .ok (.aload_n 0, 1) := by decide +kernel
theorem dX4_delayOf_142 : decode cX4_delayOf 142 = .ok (.getfield 9, 3) := by decide +kernel
theorem dX4_delayOf_145 : decode cX4_delayOf 145 = .ok (.iconst 4, 1) := by decide +kernel
theorem dX4_delayOf_146 : decode cX4_delayOf 146 = .ok (.iaload, 1) := by decide +kernel
theorem dX4_delayOf_147 : decode cX4_delayOf 147 = .ok (.ireturn, 1) := by decide +kernel
theorem dX4_delayOf_148 : decode cX4_delayOf 148 = .ok (.iconst 0, 1) := by decide +kernel
theorem dX4_delayOf_149 : decode cX4_delayOf 149 = .ok (.ireturn, 1) := by decide +kernel
theorem dX4_noteUses_0 : decode cX4_noteUses 0 = .ok (.aload_n 0, 1) := by decide +kernel
theorem dX4_noteUses_1 : decode cX4_noteUses 1 = .ok (.getfield 15, 3) := by decide +kernel
theorem dX4_noteUses_4 : decode cX4_noteUses 4 = .ok (.aload_n 0, 1) := by decide +kernel
theorem dX4_noteUses_5 : decode cX4_noteUses 5 = .ok (.getfield 67, 3) := by decide +kernel
theorem dX4_noteUses_8 : decode cX4_noteUses 8 = .ok (.iaload, 1) := by decide +kernel
theorem dX4_noteUses_9 : decode cX4_noteUses 9 = .ok (.istore_n 2, 1) := by decide +kernel
theorem dX4_noteUses_10 : decode cX4_noteUses 10 = .ok (.iload_n 2, 1) := by decide +kernel
theorem dX4_noteUses_11 : decode cX4_noteUses 11 = .ok (.invokestatic 95, 3) := by decide +kernel
theorem dX4_noteUses_14 : decode cX4_noteUses 14 = .ok (.istore_n 3, 1) := by decide +kernel
theorem dX4_noteUses_15 : decode cX4_noteUses 15 = .ok (.iload_n 3, 1) := by decide +kernel
theorem dX4_noteUses_16 : decode cX4_noteUses 16 = .ok (.istore 4, 2) := by decide +kernel
theorem dX4_noteUses_18 : decode cX4_noteUses 18 = .ok (.iload 4, 2) := by decide +kernel
theorem dX4_noteUses_20 : decode cX4_noteUses 20 = .ok (.bipush 8, 2) := by decide +kernel
theorem dX4_noteUses_22 : decode cX4_noteUses 22 = .ok (.if_icmp .ge 82, 3) := by decide +kernel
theorem dX4_noteUses_25 : decode cX4_noteUses 25 = .ok (.iload 4, 2) := by decide +kernel
theorem dX4_noteUses_27 : decode cX4_noteUses 27 = .ok (.iload_n 2, 1) := by decide +kernel
theorem dX4_noteUses_28 : decode cX4_noteUses 28 = .ok (.invokestatic 98, 3) := by decide +kernel
theorem dX4_noteUses_31 : decode cX4_noteUses 31 = .ok (.ifCond .eq 67, 3) := by decide +kernel
theorem dX4_noteUses_34 : decode cX4_noteUses 34 = .ok (.aload_n 0, 1) := by decide +kernel
theorem dX4_noteUses_35 : decode cX4_noteUses 35 = .ok (.getfield 67, 3) := by decide +kernel
theorem dX4_noteUses_38 : decode cX4_noteUses 38 = .ok (.bipush 8, 2) := by decide +kernel
theorem dX4_noteUses_40 : decode cX4_noteUses 40 = .ok (.imul, 1) := by decide +kernel
theorem dX4_noteUses_41 : decode cX4_noteUses 41 = .ok (.iload 4, 2) := by decide +kernel
theorem dX4_noteUses_43 : decode cX4_noteUses 43 = .ok (.iadd, 1) := by decide +kernel
theorem dX4_noteUses_44 : decode cX4_noteUses 44 = .ok (.istore 5, 2) := by decide +kernel
theorem dX4_noteUses_46 : decode cX4_noteUses 46 = .ok (.aload_n 0, 1) := by decide +kernel
theorem dX4_noteUses_47 : decode cX4_noteUses 47 = .ok (.getfield 42, 3) := by decide +kernel
theorem dX4_noteUses_50 : decode cX4_noteUses 50 = .ok (.iload 5, 2) := by decide +kernel
theorem dX4_noteUses_52 : decode cX4_noteUses 52 = .ok (.dup2, 1) := by decide +kernel
theorem dX4_noteUses_53 : decode cX4_noteUses 53 = .ok (.iaload, 1) := by decide +kernel
theorem dX4_noteUses_54 : decode cX4_noteUses 54 = .ok (.aload_n 0, 1) := by decide +kernel
theorem dX4_noteUses_55 : decode cX4_noteUses 55 = .ok (.iload_n 1, 1) := by decide +kernel
theorem dX4_noteUses_56 : decode cX4_noteUses 56 = .ok (.iload 4, 2) := by decide +kernel
theorem dX4_noteUses_58 : decode cX4_noteUses 58 = .ok (.iload_n 3, 1) := by decide +kernel
theorem dX4_noteUses_59 : decode cX4_noteUses 59 = .ok (.if_icmp .ne 7, 3) := by decide +kernel
theorem dX4_noteUses_62 : decode cX4_noteUses 62 = .ok (.iconst 1, 1) := by decide +kernel
theorem dX4_noteUses_63 : decode cX4_noteUses 63 = .ok (.goto 4, 3) := by decide +kernel
theorem dX4_noteUses_66 : decode cX4_noteUses 66 = .ok (.iconst 0, 1) := by decide +kernel
theorem dX4_noteUses_67 : decode cX4_noteUses 67 = .ok (.invokevirtual 102, 3) := by decide +kernel
theorem dX4_noteUses_70 : decode cX4_noteUses 70 = .ok (.ior, 1) := by decide +kernel
theorem dX4_noteUses_71 : decode cX4_noteUses 71 = .ok (.iastore, 1) := by decide +kernel
theorem dX4_noteUses_72 : decode cX4_noteUses 72 = .ok (.aload_n 0, 1) := by decide +kernel
theorem dX4_noteUses_73 : decode cX4_noteUses 73 = .ok (.getfield 45, 3) := by decide +kernel
theorem dX4_noteUses_76 : decode cX4_noteUses 76 = .ok (.iload 5, 2) := by decide +kernel
theorem dX4_noteUses_78 : decode cX4_noteUses 78 = .ok (.dup2, 1) := by decide +kernel
theorem dX4_noteUses_79 : decode cX4_noteUses 79 = .ok (.iaload, 1) := by decide +kernel
theorem dX4_noteUses_80 : decode cX4_noteUses 80 = .ok (.aload_n 0, 1) := by decide +kernel
theorem dX4_noteUses_81 : decode cX4_noteUses 81 = .ok (.iload_n 1, 1) := by decide +kernel
theorem dX4_noteUses_82 : decode cX4_noteUses 82 = .ok (.iload 4, 2) := by decide +kernel
theorem dX4_noteUses_84 : decode cX4_noteUses 84 = .ok (.iload_n 3, 1) := by decide +kernel
theorem dX4_noteUses_85 : decode cX4_noteUses 85 = .ok (.if_icmp .ne 7, 3) := by decide +kernel
theorem dX4_noteUses_88 : decode cX4_noteUses 88 = .ok (.iconst 1, 1) := by decide +kernel
theorem dX4_noteUses_89 : decode cX4_noteUses 89 = .ok (.goto 4, 3) := by decide +kernel
theorem dX4_noteUses_92 : decode cX4_noteUses 92 = .ok (.iconst 0, 1) := by decide +kernel
theorem dX4_noteUses_93 : decode cX4_noteUses 93 = .ok (.invokevirtual 106, 3) := by decide +kernel
theorem dX4_noteUses_96 : decode cX4_noteUses 96 = .ok (.ior, 1) := by decide +kernel
theorem dX4_noteUses_97 : decode cX4_noteUses 97 = .ok (.iastore, 1) := by decide +kernel
theorem dX4_noteUses_98 : decode cX4_noteUses 98 = .ok (.iinc 4 1, 3) := by decide +kernel
theorem dX4_noteUses_101 : decode cX4_noteUses 101 = .ok (.goto (-83), 3) := by decide +kernel
theorem dX4_noteUses_104 : decode cX4_noteUses 104 = .ok (.return_, 1) := by decide +kernel
theorem dX4_readBy_0 : decode cX4_readBy 0 = .ok (.aload_n 0, 1) := by decide +kernel
theorem dX4_readBy_1 : decode cX4_readBy 1 = .ok (.getfield 24, 3) := by decide +kernel
theorem dX4_readBy_4 : decode cX4_readBy 4 = .ok (.iload_n 1, 1) := by decide +kernel
theorem dX4_readBy_5 : decode cX4_readBy 5 = .ok (.iaload, 1) := by decide +kernel
theorem dX4_readBy_6 : decode cX4_readBy 6 = .ok (.lookupswitch 112 #[(8, 86), (9, 58), (10, 86), (12, 86), (13, 95), (34, 68)], 58) := by decide +kernel
theorem dX4_readBy_64 : decode cX4_readBy 64 = .ok (.aload_n 0, 1) := by decide +kernel
theorem dX4_readBy_65 : decode cX4_readBy 65 = .ok (.getfield 33, 3) := by decide +kernel
theorem dX4_readBy_68 : decode cX4_readBy 68 = .ok (.iload_n 1, 1) := by decide +kernel
theorem dX4_readBy_69 : decode cX4_readBy 69 = .ok (.iaload, 1) := by decide +kernel
theorem dX4_readBy_70 : decode cX4_readBy 70 = .ok (.invokestatic 109, 3) := by decide +kernel
theorem dX4_readBy_73 : decode cX4_readBy 73 = .ok (.ireturn, 1) := by decide +kernel
theorem dX4_readBy_74 : decode cX4_readBy 74 = .ok (.iconst 1, 1) := by decide +kernel
theorem dX4_readBy_75 : decode cX4_readBy 75 = .ok (.aload_n 0, 1) := by decide +kernel
theorem dX4_readBy_76 : decode cX4_readBy 76 = .ok (.getfield 33, 3) := by decide +kernel
theorem dX4_readBy_79 : decode cX4_readBy 79 = .ok (.iload_n 1, 1) := by decide +kernel
theorem dX4_readBy_80 : decode cX4_readBy 80 = .ok (.iaload, 1) := by decide +kernel
theorem dX4_readBy_81 : decode cX4_readBy 81 = .ok (.ishl, 1) := by decide +kernel
theorem dX4_readBy_82 : decode cX4_readBy 82 = .ok (.iconst 1, 1) := by decide +kernel
theorem dX4_readBy_83 : decode cX4_readBy 83 = .ok (.aload_n 0, 1) := by decide +kernel
theorem dX4_readBy_84 : decode cX4_readBy 84 = .ok (.getfield 36, 3) := by decide +kernel
theorem dX4_readBy_87 : decode cX4_readBy 87 = .ok (.iload_n 1, 1) := by decide +kernel
theorem dX4_readBy_88 : decode cX4_readBy 88 = .ok (.iaload, 1) := by decide +kernel
theorem dX4_readBy_89 : decode cX4_readBy 89 = .ok (.ishl, 1) := by decide +kernel
theorem dX4_readBy_90 : decode cX4_readBy 90 = .ok (.ior, 1) := by decide +kernel
theorem dX4_readBy_91 : decode cX4_readBy 91 = .ok (.ireturn, 1) := by decide +kernel
theorem dX4_readBy_92 : decode cX4_readBy 92 = .ok (.iconst 1, 1) := by decide +kernel
theorem dX4_readBy_93 : decode cX4_readBy 93 = .ok (.aload_n 0, 1) := by decide +kernel
theorem dX4_readBy_94 : decode cX4_readBy 94 = .ok (.getfield 30, 3) := by decide +kernel
theorem dX4_readBy_97 : decode cX4_readBy 97 = .ok (.iload_n 1, 1) := by decide +kernel
theorem dX4_readBy_98 : decode cX4_readBy 98 = .ok (.iaload, 1) := by decide +kernel
theorem dX4_readBy_99 : decode cX4_readBy 99 = .ok (.ishl, 1) := by decide +kernel
theorem dX4_readBy_100 : decode cX4_readBy 100 = .ok (.ireturn, 1) := by decide +kernel
theorem dX4_readBy_101 : decode cX4_readBy 101 = .ok (.iload_n 2, 1) := by decide +kernel
theorem dX4_readBy_102 : decode cX4_readBy 102 = .ok (.ifCond .eq 14, 3) := by decide +kernel
theorem dX4_readBy_105 : decode cX4_readBy 105 = .ok (.iconst 1, 1) := by decide +kernel
theorem dX4_readBy_106 : decode cX4_readBy 106 = .ok (.aload_n 0, 1) := by decide +kernel
theorem dX4_readBy_107 : decode cX4_readBy 107 = .ok (.getfield 30, 3) := by decide +kernel
theorem dX4_readBy_110 : decode cX4_readBy 110 = .ok (.iload_n 1, 1) := by decide +kernel
theorem dX4_readBy_111 : decode cX4_readBy 111 = .ok (.iaload, 1) := by decide +kernel
theorem dX4_readBy_112 : decode cX4_readBy 112 = .ok (.ishl, 1) := by decide +kernel
theorem dX4_readBy_113 : decode cX4_readBy 113 = .ok (.goto 4, 3) := by decide +kernel
theorem dX4_readBy_116 : decode cX4_readBy 116 = .ok (.iconst 0, 1) := by decide +kernel
theorem dX4_readBy_117 : decode cX4_readBy 117 = .ok (.ireturn, 1) := by decide +kernel
theorem dX4_readBy_118 : decode cX4_readBy 118 = .ok (.iconst 0, 1) := by decide +kernel
theorem dX4_readBy_119 : decode cX4_readBy 119 = .ok (.ireturn, 1) := by decide +kernel
theorem dX4_writtenBy_0 : decode cX4_writtenBy 0 = .ok (.aload_n 0, 1) := by decide +kernel
theorem dX4_writtenBy_1 : decode cX4_writtenBy 1 = .ok (.getfield 24, 3) := by decide +kernel
theorem dX4_writtenBy_4 : decode cX4_writtenBy 4 = .ok (.iload_n 1, 1) := by decide +kernel
theorem dX4_writtenBy_5 : decode cX4_writtenBy 5 = .ok (.iaload, 1) := by decide +kernel
theorem dX4_writtenBy_6 : decode cX4_writtenBy 6 = .ok (.lookupswitch 119 #[(8, 85), (9, 76), (10, 66), (11, 76), (12, 76), (13, 102), (34, 76)], 66) := by decide +kernel
theorem dX4_writtenBy_72 : decode cX4_writtenBy 72 = .ok (.aload_n 0, 1) := by decide +kernel
theorem dX4_writtenBy_73 : decode cX4_writtenBy 73 = .ok (.getfield 33, 3) := by decide +kernel
theorem dX4_writtenBy_76 : decode cX4_writtenBy 76 = .ok (.iload_n 1, 1) := by decide +kernel
theorem dX4_writtenBy_77 : decode cX4_writtenBy 77 = .ok (.iaload, 1) := by decide +kernel
theorem dX4_writtenBy_78 : decode cX4_writtenBy 78 = .ok (.invokestatic 109, 3) := by decide +kernel
theorem dX4_writtenBy_81 : decode cX4_writtenBy 81 = .ok (.ireturn, 1) := by decide +kernel
theorem dX4_writtenBy_82 : decode cX4_writtenBy 82 = .ok (.iconst 1, 1) := by decide +kernel
theorem dX4_writtenBy_83 : decode cX4_writtenBy 83 = .ok (.aload_n 0, 1) := by decide +kernel
theorem dX4_writtenBy_84 : decode cX4_writtenBy 84 = .ok (.getfield 30, 3) := by decide +kernel
theorem dX4_writtenBy_87 : decode cX4_writtenBy 87 = .ok (.iload_n 1, 1) := by decide +kernel
theorem dX4_writtenBy_88 : decode cX4_writtenBy 88 = .ok (.iaload, 1) := by decide +kernel
theorem dX4_writtenBy_89 : decode cX4_writtenBy 89 = .ok (.ishl, 1) := by decide +kernel
theorem dX4_writtenBy_90 : decode cX4_writtenBy 90 = .ok (.ireturn, 1) := by decide +kernel
theorem dX4_writtenBy_91 : decode cX4_writtenBy 91 = .ok (.iload_n 2, 1) := by decide +kernel
theorem dX4_writtenBy_92 : decode cX4_writtenBy 92 = .ok (.ifCond .eq 14, 3) := by decide +kernel
theorem dX4_writtenBy_95 : decode cX4_writtenBy 95 = .ok (.iconst 1, 1) := by decide +kernel
theorem dX4_writtenBy_96 : decode cX4_writtenBy 96 = .ok (.aload_n 0, 1) := by decide +kernel
theorem dX4_writtenBy_97 : decode cX4_writtenBy 97 = .ok (.getfield 30, 3) := by decide +kernel
theorem dX4_writtenBy_100 : decode cX4_writtenBy 100 = .ok (.iload_n 1, 1) := by decide +kernel
theorem dX4_writtenBy_101 : decode cX4_writtenBy 101 = .ok (.iaload, 1) := by decide +kernel
theorem dX4_writtenBy_102 : decode cX4_writtenBy 102 = .ok (.ishl, 1) := by decide +kernel
theorem dX4_writtenBy_103 : decode cX4_writtenBy 103 = .ok (.goto 4, 3) := by decide +kernel
theorem dX4_writtenBy_106 : decode cX4_writtenBy 106 = .ok (.iconst 0, 1) := by decide +kernel
theorem dX4_writtenBy_107 : decode cX4_writtenBy 107 = .ok (.ireturn, 1) := by decide +kernel
theorem dX4_writtenBy_108 : decode cX4_writtenBy 108 = .ok (.iload_n 2, 1) := by decide +kernel
theorem dX4_writtenBy_109 : decode cX4_writtenBy 109 = .ok (.ifCond .eq 7, 3) := by decide +kernel
theorem dX4_writtenBy_112 : decode cX4_writtenBy 112 = .ok (.iconst 0, 1) := by decide +kernel
theorem dX4_writtenBy_113 : decode cX4_writtenBy 113 = .ok (.goto 11, 3) := by decide +kernel
theorem dX4_writtenBy_116 : decode cX4_writtenBy 116 = .ok (.iconst 1, 1) := by decide +kernel
theorem dX4_writtenBy_117 : decode cX4_writtenBy 117 = .ok (.aload_n 0, 1) := by decide +kernel
theorem dX4_writtenBy_118 : decode cX4_writtenBy 118 = .ok (.getfield 30, 3) := by decide +kernel
theorem dX4_writtenBy_121 : decode cX4_writtenBy 121 = .ok (.iload_n 1, 1) := by decide +kernel
theorem dX4_writtenBy_122 : decode cX4_writtenBy 122 = .ok (.iaload, 1) := by decide +kernel
theorem dX4_writtenBy_123 : decode cX4_writtenBy 123 = .ok (.ishl, 1) := by decide +kernel
theorem dX4_writtenBy_124 : decode cX4_writtenBy 124 = .ok (.ireturn, 1) := by decide +kernel
theorem dX4_writtenBy_125 : decode cX4_writtenBy 125 = .ok (.iconst 0, 1) := by decide +kernel
theorem dX4_writtenBy_126 : decode cX4_writtenBy 126 = .ok (.ireturn, 1) := by decide +kernel
theorem dX4_rowBit_0 : decode cX4_rowBit 0 = .ok (.iconst 1, 1) := by decide +kernel
theorem dX4_rowBit_1 : decode cX4_rowBit 1 = .ok (.iconst 4, 1) := by decide +kernel
theorem dX4_rowBit_2 : decode cX4_rowBit 2 = .ok (.iload_n 0, 1) := by decide +kernel
theorem dX4_rowBit_3 : decode cX4_rowBit 3 = .ok (.iadd, 1) := by decide +kernel
theorem dX4_rowBit_4 : decode cX4_rowBit 4 = .ok (.ishl, 1) := by decide +kernel
theorem dX4_rowBit_5 : decode cX4_rowBit 5 = .ok (.ireturn, 1) := by decide +kernel
theorem dX4_accessesRow_0 : decode cX4_accessesRow 0 = .ok (.iload_n 1, 1) := by decide +kernel
theorem dX4_accessesRow_1 : decode cX4_accessesRow 1 = .ok (.bipush 8, 2) := by decide +kernel
theorem dX4_accessesRow_3 : decode cX4_accessesRow 3 = .ok (.imul, 1) := by decide +kernel
theorem dX4_accessesRow_4 : decode cX4_accessesRow 4 = .ok (.iload_n 2, 1) := by decide +kernel
theorem dX4_accessesRow_5 : decode cX4_accessesRow 5 = .ok (.iadd, 1) := by decide +kernel
theorem dX4_accessesRow_6 : decode cX4_accessesRow 6 = .ok (.istore 4, 2) := by decide +kernel
theorem dX4_accessesRow_8 : decode cX4_accessesRow 8 = .ok (.aload_n 0, 1) := by decide +kernel
theorem dX4_accessesRow_9 : decode cX4_accessesRow 9 = .ok (.getfield 42, 3) := by decide +kernel
theorem dX4_accessesRow_12 : decode cX4_accessesRow 12 = .ok (.iload 4, 2) := by decide +kernel
theorem dX4_accessesRow_14 : decode cX4_accessesRow 14 = .ok (.iaload, 1) := by decide +kernel
theorem dX4_accessesRow_15 : decode cX4_accessesRow 15 = .ok (.aload_n 0, 1) := by decide +kernel
theorem dX4_accessesRow_16 : decode cX4_accessesRow 16 = .ok (.getfield 45, 3) := by decide +kernel
theorem dX4_accessesRow_19 : decode cX4_accessesRow 19 = .ok (.iload 4, 2) := by decide +kernel
theorem dX4_accessesRow_21 : decode cX4_accessesRow 21 = .ok (.iaload, 1) := by decide +kernel
theorem dX4_accessesRow_22 : decode cX4_accessesRow 22 = .ok (.ior, 1) := by decide +kernel
theorem dX4_accessesRow_23 : decode cX4_accessesRow 23 = .ok (.iload_n 3, 1) := by decide +kernel
theorem dX4_accessesRow_24 : decode cX4_accessesRow 24 = .ok (.invokestatic 109, 3) := by decide +kernel
theorem dX4_accessesRow_27 : decode cX4_accessesRow 27 = .ok (.iand, 1) := by decide +kernel
theorem dX4_accessesRow_28 : decode cX4_accessesRow 28 = .ok (.ifCond .eq 7, 3) := by decide +kernel
theorem dX4_accessesRow_31 : decode cX4_accessesRow 31 = .ok (.iconst 1, 1) := by decide +kernel
theorem dX4_accessesRow_32 : decode cX4_accessesRow 32 = .ok (.goto 4, 3) := by decide +kernel
theorem dX4_accessesRow_35 : decode cX4_accessesRow 35 = .ok (.iconst 0, 1) := by decide +kernel
theorem dX4_accessesRow_36 : decode cX4_accessesRow 36 = .ok (.ireturn, 1) := by decide +kernel
theorem dX4_storesRow_0 : decode cX4_storesRow 0 = .ok (.aload_n 0, 1) := by decide +kernel
theorem dX4_storesRow_1 : decode cX4_storesRow 1 = .ok (.getfield 45, 3) := by decide +kernel
theorem dX4_storesRow_4 : decode cX4_storesRow 4 = .ok (.iload_n 1, 1) := by decide +kernel
theorem dX4_storesRow_5 : decode cX4_storesRow 5 = .ok (.bipush 8, 2) := by decide +kernel
theorem dX4_storesRow_7 : decode cX4_storesRow 7 = .ok (.imul, 1) := by decide +kernel
theorem dX4_storesRow_8 : decode cX4_storesRow 8 = .ok (.iload_n 2, 1) := by decide +kernel
theorem dX4_storesRow_9 : decode cX4_storesRow 9 = .ok (.iadd, 1) := by decide +kernel
theorem dX4_storesRow_10 : decode cX4_storesRow 10 = .ok (.iaload, 1) := by decide +kernel
theorem dX4_storesRow_11 : decode cX4_storesRow 11 = .ok (.iload_n 3, 1) := by decide +kernel
theorem dX4_storesRow_12 : decode cX4_storesRow 12 = .ok (.invokestatic 109, 3) := by decide +kernel
theorem dX4_storesRow_15 : decode cX4_storesRow 15 = .ok (.iand, 1) := by decide +kernel
theorem dX4_storesRow_16 : decode cX4_storesRow 16 = .ok (.ifCond .eq 7, 3) := by decide +kernel
theorem dX4_storesRow_19 : decode cX4_storesRow 19 = .ok (.iconst 1, 1) := by decide +kernel
theorem dX4_storesRow_20 : decode cX4_storesRow 20 = .ok (.goto 4, 3) := by decide +kernel
theorem dX4_storesRow_23 : decode cX4_storesRow 23 = .ok (.iconst 0, 1) := by decide +kernel
theorem dX4_storesRow_24 : decode cX4_storesRow 24 = .ok (.ireturn, 1) := by decide +kernel
theorem dX4_areConflicting_0 : decode cX4_areConflicting 0 = .ok (.iconst 0, 1) := by decide +kernel
theorem dX4_areConflicting_1 : decode cX4_areConflicting 1 = .ok (.istore_n 3, 1) := by decide +kernel
theorem dX4_areConflicting_2 : decode cX4_areConflicting 2 = .ok (.iload_n 3, 1) := by decide +kernel
theorem dX4_areConflicting_3 : decode cX4_areConflicting 3 = .ok (.bipush 8, 2) := by decide +kernel
theorem dX4_areConflicting_5 : decode cX4_areConflicting 5 = .ok (.if_icmp .ge 71, 3) := by decide +kernel
theorem dX4_areConflicting_8 : decode cX4_areConflicting 8 = .ok (.iload_n 1, 1) := by decide +kernel
theorem dX4_areConflicting_9 : decode cX4_areConflicting 9 = .ok (.bipush 8, 2) := by decide +kernel
theorem dX4_areConflicting_11 : decode cX4_areConflicting 11 = .ok (.imul, 1) := by decide +kernel
theorem dX4_areConflicting_12 : decode cX4_areConflicting 12 = .ok (.iload_n 3, 1) := by decide +kernel
theorem dX4_areConflicting_13 : decode cX4_areConflicting 13 = .ok (.iadd, 1) := by decide +kernel
theorem dX4_areConflicting_14 : decode cX4_areConflicting 14 = .ok (.istore 4, 2) := by decide +kernel
theorem dX4_areConflicting_16 : decode cX4_areConflicting 16 = .ok (.iload_n 2, 1) := by decide +kernel
theorem dX4_areConflicting_17 : decode cX4_areConflicting 17 = .ok (.bipush 8, 2) := by decide +kernel
theorem dX4_areConflicting_19 : decode cX4_areConflicting 19 = .ok (.imul, 1) := by decide +kernel
theorem dX4_areConflicting_20 : decode cX4_areConflicting 20 = .ok (.iload_n 3, 1) := by decide +kernel
theorem dX4_areConflicting_21 : decode cX4_areConflicting 21 = .ok (.iadd, 1) := by decide +kernel
theorem dX4_areConflicting_22 : decode cX4_areConflicting 22 = .ok (.istore 5, 2) := by decide +kernel
theorem dX4_areConflicting_24 : decode cX4_areConflicting 24 = .ok (.aload_n 0, 1) := by decide +kernel
theorem dX4_areConflicting_25 : decode cX4_areConflicting 25 = .ok (.getfield 45, 3) := by decide +kernel
theorem dX4_areConflicting_28 : decode cX4_areConflicting 28 = .ok (.iload 4, 2) := by decide +kernel
theorem dX4_areConflicting_30 : decode cX4_areConflicting 30 = .ok (.iaload, 1) := by decide +kernel
theorem dX4_areConflicting_31 : decode cX4_areConflicting 31 = .ok (.aload_n 0, 1) := by decide +kernel
theorem dX4_areConflicting_32 : decode cX4_areConflicting 32 = .ok (.getfield 42, 3) := by decide +kernel
theorem dX4_areConflicting_35 : decode cX4_areConflicting 35 = .ok (.iload 5, 2) := by decide +kernel
theorem dX4_areConflicting_37 : decode cX4_areConflicting 37 = .ok (.iaload, 1) := by decide +kernel
theorem dX4_areConflicting_38 : decode cX4_areConflicting 38 = .ok (.aload_n 0, 1) := by decide +kernel
theorem dX4_areConflicting_39 : decode cX4_areConflicting 39 = .ok (.getfield 45, 3) := by decide +kernel
theorem dX4_areConflicting_42 : decode cX4_areConflicting 42 = .ok (.iload 5, 2) := by decide +kernel
theorem dX4_areConflicting_44 : decode cX4_areConflicting 44 = .ok (.iaload, 1) := by decide +kernel
theorem dX4_areConflicting_45 : decode cX4_areConflicting 45 = .ok (.ior, 1) := by decide +kernel
theorem dX4_areConflicting_46 : decode cX4_areConflicting 46 = .ok (.iand, 1) := by decide +kernel
theorem dX4_areConflicting_47 : decode cX4_areConflicting 47 = .ok (.ifCond .ne 21, 3) := by decide +kernel
theorem dX4_areConflicting_50 : decode cX4_areConflicting 50 = .ok (.aload_n 0, 1) := by decide +kernel
theorem dX4_areConflicting_51 : decode cX4_areConflicting 51 = .ok (.getfield 45, 3) := by decide +kernel
theorem dX4_areConflicting_54 : decode cX4_areConflicting 54 = .ok (.iload 5, 2) := by decide +kernel
theorem dX4_areConflicting_56 : decode cX4_areConflicting 56 = .ok (.iaload, 1) := by decide +kernel
theorem dX4_areConflicting_57 : decode cX4_areConflicting 57 = .ok (.aload_n 0, 1) := by decide +kernel
theorem dX4_areConflicting_58 : decode cX4_areConflicting 58 = .ok (.getfield 42, 3) := by decide +kernel
theorem dX4_areConflicting_61 : decode cX4_areConflicting 61 = .ok (.iload 4, 2) := by decide +kernel
theorem dX4_areConflicting_63 : decode cX4_areConflicting 63 = .ok (.iaload, 1) := by decide +kernel
theorem dX4_areConflicting_64 : decode cX4_areConflicting 64 = .ok (.iand, 1) := by decide +kernel
theorem dX4_areConflicting_65 : decode cX4_areConflicting 65 = .ok (.ifCond .eq 5, 3) := by decide +kernel
theorem dX4_areConflicting_68 : decode cX4_areConflicting 68 = .ok (.iconst 1, 1) := by decide +kernel
theorem dX4_areConflicting_69 : decode cX4_areConflicting 69 = .ok (.ireturn, 1) := by decide +kernel
theorem dX4_areConflicting_70 : decode cX4_areConflicting 70 = .ok (.iinc 3 1, 3) := by decide +kernel
theorem dX4_areConflicting_73 : decode cX4_areConflicting 73 = .ok (.goto (-71), 3) := by decide +kernel
theorem dX4_areConflicting_76 : decode cX4_areConflicting 76 = .ok (.iconst 0, 1) := by decide +kernel
theorem dX4_areConflicting_77 : decode cX4_areConflicting 77 = .ok (.ireturn, 1) := by decide +kernel
theorem dX5_init_0 : decode cX5_init 0 = .ok (.aload_n 0, 1) := by decide +kernel
theorem dX5_init_1 : decode cX5_init 1 = .ok (.invokespecial 3, 3) := by decide +kernel
theorem dX5_init_4 : decode cX5_init 4 = .ok (.aload_n 0, 1) := by decide +kernel
theorem dX5_init_5 : decode cX5_init 5 = .ok (.new 9, 3) := by decide +kernel
theorem dX5_init_8 : decode cX5_init 8 = .ok (.dup, 1) := by decide +kernel
theorem dX5_init_9 : decode cX5_init 9 = .ok (.invokespecial 11, 3) := by decide +kernel
theorem dX5_init_12 : decode cX5_init 12 = .ok (.putfield 12, 3) := by decide +kernel
theorem dX5_init_15 : decode cX5_init 15 = .ok (.aload_n 0, 1) := by decide +kernel
theorem dX5_init_16 : decode cX5_init 16 = .ok (.new 18, 3) := by decide +kernel
theorem dX5_init_19 : decode cX5_init 19 = .ok (.dup, 1) := by decide +kernel
theorem dX5_init_20 : decode cX5_init 20 = .ok (.invokespecial 20, 3) := by decide +kernel
theorem dX5_init_23 : decode cX5_init 23 = .ok (.putfield 21, 3) := by decide +kernel
theorem dX5_init_26 : decode cX5_init 26 = .ok (.aload_n 0, 1) := by decide +kernel
theorem dX5_init_27 : decode cX5_init 27 = .ok (.new 25, 3) := by decide +kernel
theorem dX5_init_30 : decode cX5_init 30 = .ok (.dup, 1) := by decide +kernel
theorem dX5_init_31 : decode cX5_init 31 = .ok (.invokespecial 27, 3) := by decide +kernel
theorem dX5_init_34 : decode cX5_init 34 = .ok (.putfield 28, 3) := by decide +kernel
theorem dX5_init_37 : decode cX5_init 37 = .ok (.aload_n 0, 1) := by decide +kernel
theorem dX5_init_38 : decode cX5_init 38 = .ok (.new 32, 3) := by decide +kernel
theorem dX5_init_41 : decode cX5_init 41 = .ok (.dup, 1) := by decide +kernel
theorem dX5_init_42 : decode cX5_init 42 = .ok (.invokespecial 34, 3) := by decide +kernel
theorem dX5_init_45 : decode cX5_init 45 = .ok (.putfield 35, 3) := by decide +kernel
theorem dX5_init_48 : decode cX5_init 48 = .ok (.return_, 1) := by decide +kernel
theorem dX5_clear_0 : decode cX5_clear 0 = .ok (.aload_n 0, 1) := by decide +kernel
theorem dX5_clear_1 : decode cX5_clear 1 = .ok (.getfield 12, 3) := by decide +kernel
theorem dX5_clear_4 : decode cX5_clear 4 = .ok (.invokevirtual 39, 3) := by decide +kernel
theorem dX5_clear_7 : decode cX5_clear 7 = .ok (.aload_n 0, 1) := by decide +kernel
theorem dX5_clear_8 : decode cX5_clear 8 = .ok (.getfield 21, 3) := by decide +kernel
theorem dX5_clear_11 : decode cX5_clear 11 = .ok (.invokevirtual 42, 3) := by decide +kernel
theorem dX5_clear_14 : decode cX5_clear 14 = .ok (.aload_n 0, 1) := by decide +kernel
theorem dX5_clear_15 : decode cX5_clear 15 = .ok (.getfield 28, 3) := by decide +kernel
theorem dX5_clear_18 : decode cX5_clear 18 = .ok (.invokevirtual 43, 3) := by decide +kernel
theorem dX5_clear_21 : decode cX5_clear 21 = .ok (.aload_n 0, 1) := by decide +kernel
theorem dX5_clear_22 : decode cX5_clear 22 = .ok (.getfield 35, 3) := by decide +kernel
theorem dX5_clear_25 : decode cX5_clear 25 = .ok (.invokevirtual 44, 3) := by decide +kernel
theorem dX5_clear_28 : decode cX5_clear 28 = .ok (.aload_n 0, 1) := by decide +kernel
theorem dX5_clear_29 : decode cX5_clear 29 = .ok (.iconst 0, 1) := by decide +kernel
theorem dX5_clear_30 : decode cX5_clear 30 = .ok (.putfield 45, 3) := by decide +kernel
theorem dX5_clear_33 : decode cX5_clear 33 = .ok (.return_, 1) := by decide +kernel
theorem dX5_copyFrom_0 : decode cX5_copyFrom 0 = .ok (.aload_n 0, 1) := by decide +kernel
theorem dX5_copyFrom_1 : decode cX5_copyFrom 1 = .ok (.aload_n 1, 1) := by decide +kernel
theorem dX5_copyFrom_2 : decode cX5_copyFrom 2 = .ok (.invokevirtual 49, 3) := by decide +kernel
theorem dX5_copyFrom_5 : decode cX5_copyFrom 5 = .ok (.aload_n 0, 1) := by decide +kernel
theorem dX5_copyFrom_6 : decode cX5_copyFrom 6 = .ok (.getfield 21, 3) := by decide +kernel
theorem dX5_copyFrom_9 : decode cX5_copyFrom 9 = .ok (.aload_n 1, 1) := by decide +kernel
theorem dX5_copyFrom_10 : decode cX5_copyFrom 10 = .ok (.getfield 21, 3) := by decide +kernel
theorem dX5_copyFrom_13 : decode cX5_copyFrom 13 = .ok (.invokevirtual 53, 3) := by decide +kernel
theorem dX5_copyFrom_16 : decode cX5_copyFrom 16 = .ok (.aload_n 0, 1) := by decide +kernel
theorem dX5_copyFrom_17 : decode cX5_copyFrom 17 = .ok (.getfield 35, 3) := by decide +kernel
theorem dX5_copyFrom_20 : decode cX5_copyFrom 20 = .ok (.aload_n 1, 1) := by decide +kernel
theorem dX5_copyFrom_21 : decode cX5_copyFrom 21 = .ok (.getfield 35, 3) := by decide +kernel
theorem dX5_copyFrom_24 : decode cX5_copyFrom 24 = .ok (.invokevirtual 57, 3) := by decide +kernel
theorem dX5_copyFrom_27 : decode cX5_copyFrom 27 = .ok (.return_, 1) := by decide +kernel
theorem dX5_copyValuesFrom_0 : decode cX5_copyValuesFrom 0 = .ok (.aload_n 0, 1) := by decide +kernel
theorem dX5_copyValuesFrom_1 : decode cX5_copyValuesFrom 1 = .ok (.getfield 12, 3) := by decide +kernel
theorem dX5_copyValuesFrom_4 : decode cX5_copyValuesFrom 4 = .ok (.aload_n 1, 1) := by decide +kernel
theorem dX5_copyValuesFrom_5 : decode cX5_copyValuesFrom 5 = .ok (.getfield 12, 3) := by decide +kernel
theorem dX5_copyValuesFrom_8 : decode cX5_copyValuesFrom 8 = .ok (.invokevirtual 60, 3) := by decide +kernel
theorem dX5_copyValuesFrom_11 : decode cX5_copyValuesFrom 11 = .ok (.aload_n 0, 1) := by decide +kernel
theorem dX5_copyValuesFrom_12 : decode cX5_copyValuesFrom 12 = .ok (.getfield 28, 3) := by decide +kernel
theorem dX5_copyValuesFrom_15 : decode cX5_copyValuesFrom 15 = .ok (.aload_n 1, 1) := by decide +kernel
theorem dX5_copyValuesFrom_16 : decode cX5_copyValuesFrom 16 = .ok (.getfield 28, 3) := by decide +kernel
theorem dX5_copyValuesFrom_19 : decode cX5_copyValuesFrom 19 = .ok (.invokevirtual 63, 3) := by decide +kernel
theorem dX5_copyValuesFrom_22 : decode cX5_copyValuesFrom 22 = .ok (.aload_n 0, 1) := by decide +kernel
theorem dX5_copyValuesFrom_23 : decode cX5_copyValuesFrom 23 = .ok (.aload_n 1, 1) := by decide +kernel
theorem dX5_copyValuesFrom_24 : decode cX5_copyValuesFrom 24 = .ok (.getfield 45, 3) := by decide +kernel
theorem dX5_copyValuesFrom_27 : decode cX5_copyValuesFrom 27 = .ok (.putfield 45, 3) := by decide +kernel
theorem dX5_copyValuesFrom_30 : decode cX5_copyValuesFrom 30 = .ok (.return_, 1) := by decide +kernel
theorem dX5_runNext_0 : decode cX5_runNext 0 = .ok (.aload_n 0, 1) := by decide +kernel
theorem dX5_runNext_1 : decode cX5_runNext 1 = .ok (.getfield 35, 3) := by decide +kernel
theorem dX5_runNext_4 : decode cX5_runNext 4 = .ok (.invokevirtual 66, 3) := by decide +kernel
theorem dX5_runNext_7 : decode cX5_runNext 7 = .ok (.istore_n 2, 1) := by decide +kernel
theorem dX5_runNext_8 : decode cX5_runNext 8 = .ok (.aload_n 1, 1) := by decide +kernel
theorem dX5_runNext_9 : decode cX5_runNext 9 = .ok (.getfield 70, 3) := by decide +kernel
theorem dX5_runNext_12 : decode cX5_runNext 12 = .ok (.iload_n 2, 1) := by decide +kernel
theorem dX5_runNext_13 : decode cX5_runNext 13 = .ok (.iaload, 1) := by decide +kernel
theorem dX5_runNext_14 : decode cX5_runNext 14 = .ok (.istore_n 3, 1) := by decide +kernel
theorem dX5_runNext_15 : decode cX5_runNext 15 = .ok (.aload_n 0, 1) := by decide +kernel
theorem dX5_runNext_16 : decode cX5_runNext 16 = .ok (.getfield 21, 3) := by decide +kernel
theorem dX5_runNext_19 : decode cX5_runNext 19 = .ok (.iload_n 3, 1) := by decide +kernel
theorem dX5_runNext_20 : decode cX5_runNext 20 = .ok (.invokevirtual 76, 3) := by decide +kernel
theorem dX5_runNext_23 : decode cX5_runNext 23 = .ok (.istore 4, 2) := by decide +kernel
theorem dX5_runNext_25 : decode cX5_runNext 25 = .ok (.aload_n 0, 1) := by decide +kernel
theorem dX5_runNext_26 : decode cX5_runNext 26 = .ok (.aload_n 1, 1) := by decide +kernel
theorem dX5_runNext_27 : decode cX5_runNext 27 = .ok (.iload_n 2, 1) := by decide +kernel
theorem dX5_runNext_28 : decode cX5_runNext 28 = .ok (.invokevirtual 80, 3) := by decide +kernel
theorem dX5_runNext_31 : decode cX5_runNext 31 = .ok (.aload_n 0, 1) := by decide +kernel
theorem dX5_runNext_32 : decode cX5_runNext 32 = .ok (.getfield 21, 3) := by decide +kernel
theorem dX5_runNext_35 : decode cX5_runNext 35 = .ok (.aload_n 1, 1) := by decide +kernel
theorem dX5_runNext_36 : decode cX5_runNext 36 = .ok (.iload_n 2, 1) := by decide +kernel
theorem dX5_runNext_37 : decode cX5_runNext 37 = .ok (.aload_n 1, 1) := by decide +kernel
theorem dX5_runNext_38 : decode cX5_runNext 38 = .ok (.getfield 84, 3) := by decide +kernel
theorem dX5_runNext_41 : decode cX5_runNext 41 = .ok (.iconst 5, 1) := by decide +kernel
theorem dX5_runNext_42 : decode cX5_runNext 42 = .ok (.iaload, 1) := by decide +kernel
theorem dX5_runNext_43 : decode cX5_runNext 43 = .ok (.invokevirtual 87, 3) := by decide +kernel
theorem dX5_runNext_46 : decode cX5_runNext 46 = .ok (.aload_n 0, 1) := by decide +kernel
theorem dX5_runNext_47 : decode cX5_runNext 47 = .ok (.getfield 35, 3) := by decide +kernel
theorem dX5_runNext_50 : decode cX5_runNext 50 = .ok (.iload_n 2, 1) := by decide +kernel
theorem dX5_runNext_51 : decode cX5_runNext 51 = .ok (.iload 4, 2) := by decide +kernel
theorem dX5_runNext_53 : decode cX5_runNext 53 = .ok (.aload_n 0, 1) := by decide +kernel
theorem dX5_runNext_54 : decode cX5_runNext 54 = .ok (.getfield 21, 3) := by decide +kernel
theorem dX5_runNext_57 : decode cX5_runNext 57 = .ok (.iload_n 3, 1) := by decide +kernel
theorem dX5_runNext_58 : decode cX5_runNext 58 = .ok (.invokevirtual 91, 3) := by decide +kernel
theorem dX5_runNext_61 : decode cX5_runNext 61 = .ok (.invokevirtual 94, 3) := by decide +kernel
theorem dX5_runNext_64 : decode cX5_runNext 64 = .ok (.return_, 1) := by decide +kernel
theorem dX5_computeBatch_0 : decode cX5_computeBatch 0 = .ok (.aload_n 0, 1) := by decide +kernel
theorem dX5_computeBatch_1 : decode cX5_computeBatch 1 = .ok (.getfield 45, 3) := by decide +kernel
theorem dX5_computeBatch_4 : decode cX5_computeBatch 4 = .ok (.ifCond .eq 16, 3) := by decide +kernel
theorem dX5_computeBatch_7 : decode cX5_computeBatch 7 = .ok (.aload_n 0, 1) := by decide +kernel
theorem dX5_computeBatch_8 : decode cX5_computeBatch 8 = .ok (.getfield 28, 3) := by decide +kernel
theorem dX5_computeBatch_11 : decode cX5_computeBatch 11 = .ok (.aload_n 1, 1) := by decide +kernel
theorem dX5_computeBatch_12 : decode cX5_computeBatch 12 = .ok (.iload_n 2, 1) := by decide +kernel
theorem dX5_computeBatch_13 : decode cX5_computeBatch 13 = .ok (.aload_n 0, 1) := by decide +kernel
theorem dX5_computeBatch_14 : decode cX5_computeBatch 14 = .ok (.getfield 12, 3) := by decide +kernel
theorem dX5_computeBatch_17 : decode cX5_computeBatch 17 = .ok (.invokevirtual 98, 3) := by decide +kernel
theorem dX5_computeBatch_20 : decode cX5_computeBatch 20 = .ok (.aload_n 0, 1) := by decide +kernel
theorem dX5_computeBatch_21 : decode cX5_computeBatch 21 = .ok (.getfield 12, 3) := by decide +kernel
theorem dX5_computeBatch_24 : decode cX5_computeBatch 24 = .ok (.aload_n 1, 1) := by decide +kernel
theorem dX5_computeBatch_25 : decode cX5_computeBatch 25 = .ok (.iload_n 2, 1) := by decide +kernel
theorem dX5_computeBatch_26 : decode cX5_computeBatch 26 = .ok (.invokevirtual 102, 3) := by decide +kernel
theorem dX5_computeBatch_29 : decode cX5_computeBatch 29 = .ok (.aload_n 0, 1) := by decide +kernel
theorem dX5_computeBatch_30 : decode cX5_computeBatch 30 = .ok (.getfield 45, 3) := by decide +kernel
theorem dX5_computeBatch_33 : decode cX5_computeBatch 33 = .ok (.ifCond .eq 12, 3) := by decide +kernel
theorem dX5_computeBatch_36 : decode cX5_computeBatch 36 = .ok (.aload_n 0, 1) := by decide +kernel
theorem dX5_computeBatch_37 : decode cX5_computeBatch 37 = .ok (.getfield 28, 3) := by decide +kernel
theorem dX5_computeBatch_40 : decode cX5_computeBatch 40 = .ok (.aload_n 1, 1) := by decide +kernel
theorem dX5_computeBatch_41 : decode cX5_computeBatch 41 = .ok (.iload_n 2, 1) := by decide +kernel
theorem dX5_computeBatch_42 : decode cX5_computeBatch 42 = .ok (.invokevirtual 104, 3) := by decide +kernel
theorem dX5_computeBatch_45 : decode cX5_computeBatch 45 = .ok (.return_, 1) := by decide +kernel
theorem dX6_init_0 : decode cX6_init 0 = .ok (.aload_n 0, 1) := by decide +kernel
theorem dX6_init_1 : decode cX6_init 1 = .ok (.invokespecial 3, 3) := by decide +kernel
theorem dX6_init_4 : decode cX6_init 4 = .ok (.aload_n 0, 1) := by decide +kernel
theorem dX6_init_5 : decode cX6_init 5 = .ok (.bipush 8, 2) := by decide +kernel
theorem dX6_init_7 : decode cX6_init 7 = .ok (.newarray .int, 2) := by decide +kernel
theorem dX6_init_9 : decode cX6_init 9 = .ok (.putfield 9, 3) := by decide +kernel
theorem dX6_init_12 : decode cX6_init 12 = .ok (.aload_n 0, 1) := by decide +kernel
theorem dX6_init_13 : decode cX6_init 13 = .ok (.bipush 32, 2) := by decide +kernel
theorem dX6_init_15 : decode cX6_init 15 = .ok (.newarray .int, 2) := by decide +kernel
theorem dX6_init_17 : decode cX6_init 17 = .ok (.putfield 15, 3) := by decide +kernel
theorem dX6_init_20 : decode cX6_init 20 = .ok (.aload_n 0, 1) := by decide +kernel
theorem dX6_init_21 : decode cX6_init 21 = .ok (.bipush 8, 2) := by decide +kernel
theorem dX6_init_23 : decode cX6_init 23 = .ok (.newarray .int, 2) := by decide +kernel
theorem dX6_init_25 : decode cX6_init 25 = .ok (.putfield 18, 3) := by decide +kernel
theorem dX6_init_28 : decode cX6_init 28 = .ok (.aload_n 0, 1) := by decide +kernel
theorem dX6_init_29 : decode cX6_init 29 = .ok (.bipush 8, 2) := by decide +kernel
theorem dX6_init_31 : decode cX6_init 31 = .ok (.newarray .int, 2) := by decide +kernel
theorem dX6_init_33 : decode cX6_init 33 = .ok (.putfield 21, 3) := by decide +kernel
theorem dX6_init_36 : decode cX6_init 36 = .ok (.aload_n 0, 1) := by decide +kernel
theorem dX6_init_37 : decode cX6_init 37 = .ok (.bipush 64, 2) := by decide +kernel
theorem dX6_init_39 : decode cX6_init 39 = .ok (.newarray .int, 2) := by decide +kernel
theorem dX6_init_41 : decode cX6_init 41 = .ok (.putfield 24, 3) := by decide +kernel
theorem dX6_init_44 : decode cX6_init 44 = .ok (.aload_n 0, 1) := by decide +kernel
theorem dX6_init_45 : decode cX6_init 45 = .ok (.bipush 32, 2) := by decide +kernel
theorem dX6_init_47 : decode cX6_init 47 = .ok (.newarray .int, 2) := by decide +kernel
theorem dX6_init_49 : decode cX6_init 49 = .ok (.putfield 27, 3) := by decide +kernel
theorem dX6_init_52 : decode cX6_init 52 = .ok (.aload_n 0, 1) := by decide +kernel
theorem dX6_init_53 : decode cX6_init 53 = .ok (.bipush 8, 2) := by decide +kernel
theorem dX6_init_55 : decode cX6_init 55 = .ok (.newarray .int, 2) := by decide +kernel
theorem dX6_init_57 : decode cX6_init 57 = .ok (.putfield 30, 3) := by decide +kernel
theorem dX6_init_60 : decode cX6_init 60 = .ok (.return_, 1) := by decide +kernel
theorem dX6_clear_0 : decode cX6_clear 0 = .ok (.aload_n 0, 1) := by decide +kernel
theorem dX6_clear_1 : decode cX6_clear 1 = .ok (.getfield 9, 3) := by decide +kernel
theorem dX6_clear_4 : decode cX6_clear 4 = .ok (.iconst 0, 1) := by decide +kernel
theorem dX6_clear_5 : decode cX6_clear 5 = .ok (.invokestatic 33, 3) := by decide +kernel
theorem dX6_clear_8 : decode cX6_clear 8 = .ok (.aload_n 0, 1) := by decide +kernel
theorem dX6_clear_9 : decode cX6_clear 9 = .ok (.getfield 15, 3) := by decide +kernel
theorem dX6_clear_12 : decode cX6_clear 12 = .ok (.iconst 0, 1) := by decide +kernel
theorem dX6_clear_13 : decode cX6_clear 13 = .ok (.invokestatic 33, 3) := by decide +kernel
theorem dX6_clear_16 : decode cX6_clear 16 = .ok (.aload_n 0, 1) := by decide +kernel
theorem dX6_clear_17 : decode cX6_clear 17 = .ok (.getfield 18, 3) := by decide +kernel
theorem dX6_clear_20 : decode cX6_clear 20 = .ok (.iconst (-1), 1) := by decide +kernel
theorem dX6_clear_21 : decode cX6_clear 21 = .ok (.invokestatic 33, 3) := by decide +kernel
theorem dX6_clear_24 : decode cX6_clear 24 = .ok (.aload_n 0, 1) := by decide +kernel
theorem dX6_clear_25 : decode cX6_clear 25 = .ok (.getfield 21, 3) := by decide +kernel
theorem dX6_clear_28 : decode cX6_clear 28 = .ok (.iconst 0, 1) := by decide +kernel
theorem dX6_clear_29 : decode cX6_clear 29 = .ok (.invokestatic 33, 3) := by decide +kernel
theorem dX6_clear_32 : decode cX6_clear 32 = .ok (.aload_n 0, 1) := by decide +kernel
theorem dX6_clear_33 : decode cX6_clear 33 = .ok (.getfield 24, 3) := by decide +kernel
theorem dX6_clear_36 : decode cX6_clear 36 = .ok (.iconst 0, 1) := by decide +kernel
theorem dX6_clear_37 : decode cX6_clear 37 = .ok (.invokestatic 33, 3) := by decide +kernel
theorem dX6_clear_40 : decode cX6_clear 40 = .ok (.aload_n 0, 1) := by decide +kernel
theorem dX6_clear_41 : decode cX6_clear 41 = .ok (.getfield 27, 3) := by decide +kernel
theorem dX6_clear_44 : decode cX6_clear 44 = .ok (.iconst 0, 1) := by decide +kernel
theorem dX6_clear_45 : decode cX6_clear 45 = .ok (.invokestatic 33, 3) := by decide +kernel
theorem dX6_clear_48 : decode cX6_clear 48 = .ok (.aload_n 0, 1) := by decide +kernel
theorem dX6_clear_49 : decode cX6_clear 49 = .ok (.getfield 30, 3) := by decide +kernel
theorem dX6_clear_52 : decode cX6_clear 52 = .ok (.iconst 0, 1) := by decide +kernel
theorem dX6_clear_53 : decode cX6_clear 53 = .ok (.invokestatic 33, 3) := by decide +kernel
theorem dX6_clear_56 : decode cX6_clear 56 = .ok (.return_, 1) := by decide +kernel
theorem dX6_copyFrom_0 : decode cX6_copyFrom 0 = .ok (.aload_n 1, 1) := by decide +kernel
theorem dX6_copyFrom_1 : decode cX6_copyFrom 1 = .ok (.getfield 9, 3) := by decide +kernel
theorem dX6_copyFrom_4 : decode cX6_copyFrom 4 = .ok (.iconst 0, 1) := by decide +kernel
theorem dX6_copyFrom_5 : decode cX6_copyFrom 5 = .ok (.aload_n 0, 1) := by decide +kernel
theorem dX6_copyFrom_6 : decode cX6_copyFrom 6 = .ok (.getfield 9, 3) := by decide +kernel
theorem dX6_copyFrom_9 : decode cX6_copyFrom 9 = .ok (.iconst 0, 1) := by decide +kernel
theorem dX6_copyFrom_10 : decode cX6_copyFrom 10 = .ok (.aload_n 0, 1) := by decide +kernel
theorem dX6_copyFrom_11 : decode cX6_copyFrom 11 = .ok (.getfield 9, 3) := by decide +kernel
theorem dX6_copyFrom_14 : decode cX6_copyFrom 14 = .ok (.arraylength, 1) := by decide +kernel
theorem dX6_copyFrom_15 : decode cX6_copyFrom 15 = .ok (.invokestatic 39, 3) := by decide +kernel
theorem dX6_copyFrom_18 : decode cX6_copyFrom 18 = .ok (.aload_n 1, 1) := by decide +kernel
theorem dX6_copyFrom_19 : decode cX6_copyFrom 19 = .ok (.getfield 15, 3) := by decide +kernel
theorem dX6_copyFrom_22 : decode cX6_copyFrom 22 = .ok (.iconst 0, 1) := by decide +kernel
theorem dX6_copyFrom_23 : decode cX6_copyFrom 23 = .ok (.aload_n 0, 1) := by decide +kernel
theorem dX6_copyFrom_24 : decode cX6_copyFrom 24 = .ok (.getfield 15, 3) := by decide +kernel
theorem dX6_copyFrom_27 : decode cX6_copyFrom 27 = .ok (.iconst 0, 1) := by decide +kernel
theorem dX6_copyFrom_28 : decode cX6_copyFrom 28 = .ok (.aload_n 0, 1) := by decide +kernel
theorem dX6_copyFrom_29 : decode cX6_copyFrom 29 = .ok (.getfield 15, 3) := by decide +kernel
theorem dX6_copyFrom_32 : decode cX6_copyFrom 32 = .ok (.arraylength, 1) := by decide +kernel
theorem dX6_copyFrom_33 : decode cX6_copyFrom 33 = .ok (.invokestatic 39, 3) := by decide +kernel
theorem dX6_copyFrom_36 : decode cX6_copyFrom 36 = .ok (.aload_n 1, 1) := by decide +kernel
theorem dX6_copyFrom_37 : decode cX6_copyFrom 37 = .ok (.getfield 18, 3) := by decide +kernel
theorem dX6_copyFrom_40 : decode cX6_copyFrom 40 = .ok (.iconst 0, 1) := by decide +kernel
theorem dX6_copyFrom_41 : decode cX6_copyFrom 41 = .ok (.aload_n 0, 1) := by decide +kernel
theorem dX6_copyFrom_42 : decode cX6_copyFrom 42 = .ok (.getfield 18, 3) := by decide +kernel
theorem dX6_copyFrom_45 : decode cX6_copyFrom 45 = .ok (.iconst 0, 1) := by decide +kernel
theorem dX6_copyFrom_46 : decode cX6_copyFrom 46 = .ok (.aload_n 0, 1) := by decide +kernel
theorem dX6_copyFrom_47 : decode cX6_copyFrom 47 = .ok (.getfield 18, 3) := by decide +kernel
theorem dX6_copyFrom_50 : decode cX6_copyFrom 50 = .ok (.arraylength, 1) := by decide +kernel
theorem dX6_copyFrom_51 : decode cX6_copyFrom 51 = .ok (.invokestatic 39, 3) := by decide +kernel
theorem dX6_copyFrom_54 : decode cX6_copyFrom 54 = .ok (.aload_n 1, 1) := by decide +kernel
theorem dX6_copyFrom_55 : decode cX6_copyFrom 55 = .ok (.getfield 21, 3) := by decide +kernel
theorem dX6_copyFrom_58 : decode cX6_copyFrom 58 = .ok (.iconst 0, 1) := by decide +kernel
theorem dX6_copyFrom_59 : decode cX6_copyFrom 59 = .ok (.aload_n 0, 1) := by decide +kernel
theorem dX6_copyFrom_60 : decode cX6_copyFrom 60 = .ok (.getfield 21, 3) := by decide +kernel
theorem dX6_copyFrom_63 : decode cX6_copyFrom 63 = .ok (.iconst 0, 1) := by decide +kernel
theorem dX6_copyFrom_64 : decode cX6_copyFrom 64 = .ok (.aload_n 0, 1) := by decide +kernel
theorem dX6_copyFrom_65 : decode cX6_copyFrom 65 = .ok (.getfield 21, 3) := by decide +kernel
theorem dX6_copyFrom_68 : decode cX6_copyFrom 68 = .ok (.arraylength, 1) := by decide +kernel
theorem dX6_copyFrom_69 : decode cX6_copyFrom 69 = .ok (.invokestatic 39, 3) := by decide +kernel
theorem dX6_copyFrom_72 : decode cX6_copyFrom 72 = .ok (.aload_n 1, 1) := by decide +kernel
theorem dX6_copyFrom_73 : decode cX6_copyFrom 73 = .ok (.getfield 24, 3) := by decide +kernel
theorem dX6_copyFrom_76 : decode cX6_copyFrom 76 = .ok (.iconst 0, 1) := by decide +kernel
theorem dX6_copyFrom_77 : decode cX6_copyFrom 77 = .ok (.aload_n 0, 1) := by decide +kernel
theorem dX6_copyFrom_78 : decode cX6_copyFrom 78 = .ok (.getfield 24, 3) := by decide +kernel
theorem dX6_copyFrom_81 : decode cX6_copyFrom 81 = .ok (.iconst 0, 1) := by decide +kernel
theorem dX6_copyFrom_82 : decode cX6_copyFrom 82 = .ok (.aload_n 0, 1) := by decide +kernel
theorem dX6_copyFrom_83 : decode cX6_copyFrom 83 = .ok (.getfield 24, 3) := by decide +kernel
theorem dX6_copyFrom_86 : decode cX6_copyFrom 86 = .ok (.arraylength, 1) := by decide +kernel
theorem dX6_copyFrom_87 : decode cX6_copyFrom 87 = .ok (.invokestatic 39, 3) := by decide +kernel
theorem dX6_copyFrom_90 : decode cX6_copyFrom 90 = .ok (.aload_n 1, 1) := by decide +kernel
theorem dX6_copyFrom_91 : decode cX6_copyFrom 91 = .ok (.getfield 27, 3) := by decide +kernel
theorem dX6_copyFrom_94 : decode cX6_copyFrom 94 = .ok (.iconst 0, 1) := by decide +kernel
theorem dX6_copyFrom_95 : decode cX6_copyFrom 95 = .ok (.aload_n 0, 1) := by decide +kernel
theorem dX6_copyFrom_96 : decode cX6_copyFrom 96 = .ok (.getfield 27, 3) := by decide +kernel
theorem dX6_copyFrom_99 : decode cX6_copyFrom 99 = .ok (.iconst 0, 1) := by decide +kernel
theorem dX6_copyFrom_100 : decode cX6_copyFrom 100 = .ok (.aload_n 0, 1) := by decide +kernel
theorem dX6_copyFrom_101 : decode cX6_copyFrom 101 = .ok (.getfield 27, 3) := by decide +kernel
theorem dX6_copyFrom_104 : decode cX6_copyFrom 104 = .ok (.arraylength, 1) := by decide +kernel
theorem dX6_copyFrom_105 : decode cX6_copyFrom 105 = .ok (.invokestatic 39, 3) := by decide +kernel
theorem dX6_copyFrom_108 : decode cX6_copyFrom 108 = .ok (.aload_n 1, 1) := by decide +kernel
theorem dX6_copyFrom_109 : decode cX6_copyFrom 109 = .ok (.getfield 30, 3) := by decide +kernel
theorem dX6_copyFrom_112 : decode cX6_copyFrom 112 = .ok (.iconst 0, 1) := by decide +kernel
theorem dX6_copyFrom_113 : decode cX6_copyFrom 113 = .ok (.aload_n 0, 1) := by decide +kernel
theorem dX6_copyFrom_114 : decode cX6_copyFrom 114 = .ok (.getfield 30, 3) := by decide +kernel
theorem dX6_copyFrom_117 : decode cX6_copyFrom 117 = .ok (.iconst 0, 1) := by decide +kernel
theorem dX6_copyFrom_118 : decode cX6_copyFrom 118 = .ok (.aload_n 0, 1) := by decide +kernel
theorem dX6_copyFrom_119 : decode cX6_copyFrom 119 = .ok (.getfield 30, 3) := by decide +kernel
theorem dX6_copyFrom_122 : decode cX6_copyFrom 122 = .ok (.arraylength, 1) := by decide +kernel
theorem dX6_copyFrom_123 : decode cX6_copyFrom 123 = .ok (.invokestatic 39, 3) := by decide +kernel
theorem dX6_copyFrom_126 : decode cX6_copyFrom 126 = .ok (.return_, 1) := by decide +kernel
theorem dX6_earliestClock_0 : decode cX6_earliestClock 0 = .ok (.aload_n 0, 1) := by decide +kernel
theorem dX6_earliestClock_1 : decode cX6_earliestClock 1 = .ok (.getfield 9, 3) := by decide +kernel
theorem dX6_earliestClock_4 : decode cX6_earliestClock 4 = .ok (.iload_n 1, 1) := by decide +kernel
theorem dX6_earliestClock_5 : decode cX6_earliestClock 5 = .ok (.invokestatic 45, 3) := by decide +kernel
theorem dX6_earliestClock_8 : decode cX6_earliestClock 8 = .ok (.iaload, 1) := by decide +kernel
theorem dX6_earliestClock_9 : decode cX6_earliestClock 9 = .ok (.istore_n 2, 1) := by decide +kernel
theorem dX6_earliestClock_10 : decode cX6_earliestClock 10 = .ok (.iconst 0, 1) := by decide +kernel
theorem dX6_earliestClock_11 : decode cX6_earliestClock 11 = .ok (.istore_n 3, 1) := by decide +kernel
theorem dX6_earliestClock_12 : decode cX6_earliestClock 12 = .ok (.iload_n 3, 1) := by decide +kernel
theorem dX6_earliestClock_13 : decode cX6_earliestClock 13 = .ok (.bipush 8, 2) := by decide +kernel
theorem dX6_earliestClock_15 : decode cX6_earliestClock 15 = .ok (.if_icmp .ge 28, 3) := by decide +kernel
theorem dX6_earliestClock_18 : decode cX6_earliestClock 18 = .ok (.iload_n 3, 1) := by decide +kernel
theorem dX6_earliestClock_19 : decode cX6_earliestClock 19 = .ok (.iload_n 1, 1) := by decide +kernel
theorem dX6_earliestClock_20 : decode cX6_earliestClock 20 = .ok (.invokestatic 49, 3) := by decide +kernel
theorem dX6_earliestClock_23 : decode cX6_earliestClock 23 = .ok (.ifCond .eq 14, 3) := by decide +kernel
theorem dX6_earliestClock_26 : decode cX6_earliestClock 26 = .ok (.iload_n 2, 1) := by decide +kernel
theorem dX6_earliestClock_27 : decode cX6_earliestClock 27 = .ok (.aload_n 0, 1) := by decide +kernel
theorem dX6_earliestClock_28 : decode cX6_earliestClock 28 = .ok (.getfield 9, 3) := by decide +kernel
theorem dX6_earliestClock_31 : decode cX6_earliestClock 31 = .ok (.iload_n 3, 1) := by decide +kernel
theorem dX6_earliestClock_32 : decode cX6_earliestClock 32 = .ok (.iaload, 1) := by decide +kernel
theorem dX6_earliestClock_33 : decode cX6_earliestClock 33 = .ok (.invokestatic 53, 3) := by decide +kernel
theorem dX6_earliestClock_36 : decode cX6_earliestClock 36 = .ok (.istore_n 2, 1) := by decide +kernel
theorem dX6_earliestClock_37 : decode cX6_earliestClock 37 = .ok (.iinc 3 1, 3) := by decide +kernel
theorem dX6_earliestClock_40 : decode cX6_earliestClock 40 = .ok (.goto (-28), 3) := by decide +kernel
theorem dX6_earliestClock_43 : decode cX6_earliestClock 43 = .ok (.iload_n 2, 1) := by decide +kernel
theorem dX6_earliestClock_44 : decode cX6_earliestClock 44 = .ok (.ireturn, 1) := by decide +kernel
theorem dX6_latest_0 : decode cX6_latest 0 = .ok (.iconst 0, 1) := by decide +kernel
theorem dX6_latest_1 : decode cX6_latest 1 = .ok (.istore_n 2, 1) := by decide +kernel
theorem dX6_latest_2 : decode cX6_latest 2 = .ok (.iconst 0, 1) := by decide +kernel
theorem dX6_latest_3 : decode cX6_latest 3 = .ok (.istore_n 3, 1) := by decide +kernel
theorem dX6_latest_4 : decode cX6_latest 4 = .ok (.iload_n 3, 1) := by decide +kernel
theorem dX6_latest_5 : decode cX6_latest 5 = .ok (.bipush 8, 2) := by decide +kernel
theorem dX6_latest_7 : decode cX6_latest 7 = .ok (.if_icmp .ge 59, 3) := by decide +kernel
theorem dX6_latest_10 : decode cX6_latest 10 = .ok (.iload_n 3, 1) := by decide +kernel
theorem dX6_latest_11 : decode cX6_latest 11 = .ok (.iload_n 1, 1) := by decide +kernel
theorem dX6_latest_12 : decode cX6_latest 12 = .ok (.invokestatic 49, 3) := by decide +kernel
theorem dX6_latest_15 : decode cX6_latest 15 = .ok (.ifCond .eq 45, 3) := by decide +kernel
theorem dX6_latest_18 : decode cX6_latest 18 = .ok (.iload_n 2, 1) := by decide +kernel
theorem dX6_latest_19 : decode cX6_latest 19 = .ok (.aload_n 0, 1) := by decide +kernel
theorem dX6_latest_20 : decode cX6_latest 20 = .ok (.getfield 9, 3) := by decide +kernel
theorem dX6_latest_23 : decode cX6_latest 23 = .ok (.iload_n 3, 1) := by decide +kernel
theorem dX6_latest_24 : decode cX6_latest 24 = .ok (.iaload, 1) := by decide +kernel
theorem dX6_latest_25 : decode cX6_latest 25 = .ok (.invokestatic 59, 3) := by decide +kernel
theorem dX6_latest_28 : decode cX6_latest 28 = .ok (.istore_n 2, 1) := by decide +kernel
theorem dX6_latest_29 : decode cX6_latest 29 = .ok (.iconst 0, 1) := by decide +kernel
theorem dX6_latest_30 : decode cX6_latest 30 = .ok (.istore 4, 2) := by decide +kernel
theorem dX6_latest_32 : decode cX6_latest 32 = .ok (.iload 4, 2) := by decide +kernel
theorem dX6_latest_34 : decode cX6_latest 34 = .ok (.iconst 4, 1) := by decide +kernel
theorem dX6_latest_35 : decode cX6_latest 35 = .ok (.if_icmp .ge 25, 3) := by decide +kernel
theorem dX6_latest_38 : decode cX6_latest 38 = .ok (.iload_n 2, 1) := by decide +kernel
theorem dX6_latest_39 : decode cX6_latest 39 = .ok (.aload_n 0, 1) := by decide +kernel
theorem dX6_latest_40 : decode cX6_latest 40 = .ok (.getfield 15, 3) := by decide +kernel
theorem dX6_latest_43 : decode cX6_latest 43 = .ok (.iload_n 3, 1) := by decide +kernel
theorem dX6_latest_44 : decode cX6_latest 44 = .ok (.iconst 4, 1) := by decide +kernel
theorem dX6_latest_45 : decode cX6_latest 45 = .ok (.imul, 1) := by decide +kernel
theorem dX6_latest_46 : decode cX6_latest 46 = .ok (.iload 4, 2) := by decide +kernel
theorem dX6_latest_48 : decode cX6_latest 48 = .ok (.iadd, 1) := by decide +kernel
theorem dX6_latest_49 : decode cX6_latest 49 = .ok (.iaload, 1) := by decide +kernel
theorem dX6_latest_50 : decode cX6_latest 50 = .ok (.invokestatic 59, 3) := by decide +kernel
theorem dX6_latest_53 : decode cX6_latest 53 = .ok (.istore_n 2, 1) := by decide +kernel
theorem dX6_latest_54 : decode cX6_latest 54 = .ok (.iinc 4 1, 3) := by decide +kernel
theorem dX6_latest_57 : decode cX6_latest 57 = .ok (.goto (-25), 3) := by decide +kernel
theorem dX6_latest_60 : decode cX6_latest 60 = .ok (.iinc 3 1, 3) := by decide +kernel
theorem dX6_latest_63 : decode cX6_latest 63 = .ok (.goto (-59), 3) := by decide +kernel
theorem dX6_latest_66 : decode cX6_latest 66 = .ok (.iload_n 2, 1) := by decide +kernel
theorem dX6_latest_67 : decode cX6_latest 67 = .ok (.ireturn, 1) := by decide +kernel
theorem dX6_runBatch_0 : decode cX6_runBatch 0 = .ok (.aload_n 1, 1) := by decide +kernel
theorem dX6_runBatch_1 : decode cX6_runBatch 1 = .ok (.getfield 62, 3) := by decide +kernel
theorem dX6_runBatch_4 : decode cX6_runBatch 4 = .ok (.iload_n 2, 1) := by decide +kernel
theorem dX6_runBatch_5 : decode cX6_runBatch 5 = .ok (.iaload, 1) := by decide +kernel
theorem dX6_runBatch_6 : decode cX6_runBatch 6 = .ok (.istore 4, 2) := by decide +kernel
theorem dX6_runBatch_8 : decode cX6_runBatch 8 = .ok (.aload_n 1, 1) := by decide +kernel
theorem dX6_runBatch_9 : decode cX6_runBatch 9 = .ok (.getfield 67, 3) := by decide +kernel
theorem dX6_runBatch_12 : decode cX6_runBatch 12 = .ok (.iload_n 2, 1) := by decide +kernel
theorem dX6_runBatch_13 : decode cX6_runBatch 13 = .ok (.iaload, 1) := by decide +kernel
theorem dX6_runBatch_14 : decode cX6_runBatch 14 = .ok (.istore 5, 2) := by decide +kernel
theorem dX6_runBatch_16 : decode cX6_runBatch 16 = .ok (.aload_n 1, 1) := by decide +kernel
theorem dX6_runBatch_17 : decode cX6_runBatch 17 = .ok (.getfield 70, 3) := by decide +kernel
theorem dX6_runBatch_20 : decode cX6_runBatch 20 = .ok (.iload_n 2, 1) := by decide +kernel
theorem dX6_runBatch_21 : decode cX6_runBatch 21 = .ok (.iaload, 1) := by decide +kernel
theorem dX6_runBatch_22 : decode cX6_runBatch 22 = .ok (.istore 6, 2) := by decide +kernel
theorem dX6_runBatch_24 : decode cX6_runBatch 24 = .ok (.iload 6, 2) := by decide +kernel
theorem dX6_runBatch_26 : decode cX6_runBatch 26 = .ok (.iload 5, 2) := by decide +kernel
theorem dX6_runBatch_28 : decode cX6_runBatch 28 = .ok (.if_icmp .ge 44, 3) := by decide +kernel
theorem dX6_runBatch_31 : decode cX6_runBatch 31 = .ok (.aload_n 1, 1) := by decide +kernel
theorem dX6_runBatch_32 : decode cX6_runBatch 32 = .ok (.getfield 73, 3) := by decide +kernel
theorem dX6_runBatch_35 : decode cX6_runBatch 35 = .ok (.iload 6, 2) := by decide +kernel
theorem dX6_runBatch_37 : decode cX6_runBatch 37 = .ok (.iaload, 1) := by decide +kernel
theorem dX6_runBatch_38 : decode cX6_runBatch 38 = .ok (.invokestatic 76, 3) := by decide +kernel
theorem dX6_runBatch_41 : decode cX6_runBatch 41 = .ok (.ifCond .eq 15, 3) := by decide +kernel
theorem dX6_runBatch_44 : decode cX6_runBatch 44 = .ok (.aload_n 0, 1) := by decide +kernel
theorem dX6_runBatch_45 : decode cX6_runBatch 45 = .ok (.aload_n 1, 1) := by decide +kernel
theorem dX6_runBatch_46 : decode cX6_runBatch 46 = .ok (.iload 6, 2) := by decide +kernel
theorem dX6_runBatch_48 : decode cX6_runBatch 48 = .ok (.iload 4, 2) := by decide +kernel
theorem dX6_runBatch_50 : decode cX6_runBatch 50 = .ok (.invokevirtual 80, 3) := by decide +kernel
theorem dX6_runBatch_53 : decode cX6_runBatch 53 = .ok (.goto 13, 3) := by decide +kernel
theorem dX6_runBatch_56 : decode cX6_runBatch 56 = .ok (.aload_n 0, 1) := by decide +kernel
theorem dX6_runBatch_57 : decode cX6_runBatch 57 = .ok (.aload_n 1, 1) := by decide +kernel
theorem dX6_runBatch_58 : decode cX6_runBatch 58 = .ok (.iload 6, 2) := by decide +kernel
theorem dX6_runBatch_60 : decode cX6_runBatch 60 = .ok (.iload 4, 2) := by decide +kernel
theorem dX6_runBatch_62 : decode cX6_runBatch 62 = .ok (.iload_n 3, 1) := by decide +kernel
theorem dX6_runBatch_63 : decode cX6_runBatch 63 = .ok (.invokevirtual 84, 3) := by decide +kernel
theorem dX6_runBatch_66 : decode cX6_runBatch 66 = .ok (.iinc 6 1, 3) := by decide +kernel
theorem dX6_runBatch_69 : decode cX6_runBatch 69 = .ok (.goto (-45), 3) := by decide +kernel
theorem dX6_runBatch_72 : decode cX6_runBatch 72 = .ok (.aload_n 0, 1) := by decide +kernel
theorem dX6_runBatch_73 : decode cX6_runBatch 73 = .ok (.iload 4, 2) := by decide +kernel
theorem dX6_runBatch_75 : decode cX6_runBatch 75 = .ok (.iload 5, 2) := by decide +kernel
theorem dX6_runBatch_77 : decode cX6_runBatch 77 = .ok (.aload_n 1, 1) := by decide +kernel
theorem dX6_runBatch_78 : decode cX6_runBatch 78 = .ok (.getfield 70, 3) := by decide +kernel
theorem dX6_runBatch_81 : decode cX6_runBatch 81 = .ok (.iload_n 2, 1) := by decide +kernel
theorem dX6_runBatch_82 : decode cX6_runBatch 82 = .ok (.iaload, 1) := by decide +kernel
theorem dX6_runBatch_83 : decode cX6_runBatch 83 = .ok (.isub, 1) := by decide +kernel
theorem dX6_runBatch_84 : decode cX6_runBatch 84 = .ok (.invokevirtual 88, 3) := by decide +kernel
theorem dX6_runBatch_87 : decode cX6_runBatch 87 = .ok (.return_, 1) := by decide +kernel
theorem dX6_noteExecuted_0 : decode cX6_noteExecuted 0 = .ok (.iconst 0, 1) := by decide +kernel
theorem dX6_noteExecuted_1 : decode cX6_noteExecuted 1 = .ok (.istore_n 3, 1) := by decide +kernel
theorem dX6_noteExecuted_2 : decode cX6_noteExecuted 2 = .ok (.iload_n 3, 1) := by decide +kernel
theorem dX6_noteExecuted_3 : decode cX6_noteExecuted 3 = .ok (.bipush 8, 2) := by decide +kernel
theorem dX6_noteExecuted_5 : decode cX6_noteExecuted 5 = .ok (.if_icmp .ge 27, 3) := by decide +kernel
theorem dX6_noteExecuted_8 : decode cX6_noteExecuted 8 = .ok (.iload_n 3, 1) := by decide +kernel
theorem dX6_noteExecuted_9 : decode cX6_noteExecuted 9 = .ok (.iload_n 1, 1) := by decide +kernel
theorem dX6_noteExecuted_10 : decode cX6_noteExecuted 10 = .ok (.invokestatic 49, 3) := by decide +kernel
theorem dX6_noteExecuted_13 : decode cX6_noteExecuted 13 = .ok (.ifCond .eq 13, 3) := by decide +kernel
theorem dX6_noteExecuted_16 : decode cX6_noteExecuted 16 = .ok (.aload_n 0, 1) := by decide +kernel
theorem dX6_noteExecuted_17 : decode cX6_noteExecuted 17 = .ok (.getfield 30, 3) := by decide +kernel
