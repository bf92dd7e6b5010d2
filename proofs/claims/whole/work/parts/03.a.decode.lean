theorem dX0_init_0 : decode cX0_init 0 = .ok (.aload_n 0, 1) := by decide +kernel
theorem dX0_init_1 : decode cX0_init 1 = .ok (.invokespecial 1, 3) := by decide +kernel
theorem dX0_init_4 : decode cX0_init 4 = .ok (.aload_n 0, 1) := by decide +kernel
theorem dX0_init_5 : decode cX0_init 5 = .ok (.lconst 0, 1) := by decide +kernel
theorem dX0_init_6 : decode cX0_init 6 = .ok (.putfield 7, 3) := by decide +kernel
theorem dX0_init_9 : decode cX0_init 9 = .ok (.aload_n 0, 1) := by decide +kernel
theorem dX0_init_10 : decode cX0_init 10 = .ok (.lconst 1, 1) := by decide +kernel
theorem dX0_init_11 : decode cX0_init 11 = .ok (.putfield 13, 3) := by decide +kernel
theorem dX0_init_14 : decode cX0_init 14 = .ok (.return_, 1) := by decide +kernel
theorem dX0_become_0 : decode cX0_become 0 = .ok (.lload_n 1, 1) := by decide +kernel
theorem dX0_become_1 : decode cX0_become 1 = .ok (.lload_n 3, 1) := by decide +kernel
theorem dX0_become_2 : decode cX0_become 2 = .ok (.invokestatic 16, 3) := by decide +kernel
theorem dX0_become_5 : decode cX0_become 5 = .ok (.lstore 5, 2) := by decide +kernel
theorem dX0_become_7 : decode cX0_become 7 = .ok (.lload 5, 2) := by decide +kernel
theorem dX0_become_9 : decode cX0_become 9 = .ok (.lconst 0, 1) := by decide +kernel
theorem dX0_become_10 : decode cX0_become 10 = .ok (.lcmp, 1) := by decide +kernel
theorem dX0_become_11 : decode cX0_become 11 = .ok (.ifCond .le 9, 3) := by decide +kernel
theorem dX0_become_14 : decode cX0_become 14 = .ok (.lload_n 3, 1) := by decide +kernel
theorem dX0_become_15 : decode cX0_become 15 = .ok (.lconst 0, 1) := by decide +kernel
theorem dX0_become_16 : decode cX0_become 16 = .ok (.lcmp, 1) := by decide +kernel
theorem dX0_become_17 : decode cX0_become 17 = .ok (.ifCond .gt 4, 3) := by decide +kernel
theorem dX0_become_20 : decode cX0_become 20 = .ok (.return_, 1) := by decide +kernel
theorem dX0_become_21 : decode cX0_become 21 = .ok (.aload_n 0, 1) := by decide +kernel
theorem dX0_become_22 : decode cX0_become 22 = .ok (.lload_n 1, 1) := by decide +kernel
theorem dX0_become_23 : decode cX0_become 23 = .ok (.lload 5, 2) := by decide +kernel
theorem dX0_become_25 : decode cX0_become 25 = .ok (.ldiv, 1) := by decide +kernel
theorem dX0_become_26 : decode cX0_become 26 = .ok (.putfield 7, 3) := by decide +kernel
theorem dX0_become_29 : decode cX0_become 29 = .ok (.aload_n 0, 1) := by decide +kernel
theorem dX0_become_30 : decode cX0_become 30 = .ok (.lload_n 3, 1) := by decide +kernel
theorem dX0_become_31 : decode cX0_become 31 = .ok (.lload 5, 2) := by decide +kernel
theorem dX0_become_33 : decode cX0_become 33 = .ok (.ldiv, 1) := by decide +kernel
theorem dX0_become_34 : decode cX0_become 34 = .ok (.putfield 13, 3) := by decide +kernel
theorem dX0_become_37 : decode cX0_become 37 = .ok (.return_, 1) := by decide +kernel
theorem dX0_sharedMeasure_0 : decode cX0_sharedMeasure 0 = .ok (.lload_n 0, 1) := by decide +kernel
theorem dX0_sharedMeasure_1 : decode cX0_sharedMeasure 1 = .ok (.invokestatic 20, 3) := by decide +kernel
theorem dX0_sharedMeasure_4 : decode cX0_sharedMeasure 4 = .ok (.lstore 4, 2) := by decide +kernel
theorem dX0_sharedMeasure_6 : decode cX0_sharedMeasure 6 = .ok (.lload_n 2, 1) := by decide +kernel
theorem dX0_sharedMeasure_7 : decode cX0_sharedMeasure 7 = .ok (.invokestatic 20, 3) := by decide +kernel
theorem dX0_sharedMeasure_10 : decode cX0_sharedMeasure 10 = .ok (.lstore 6, 2) := by decide +kernel
theorem dX0_sharedMeasure_12 : decode cX0_sharedMeasure 12 = .ok (.iconst 0, 1) := by decide +kernel
theorem dX0_sharedMeasure_13 : decode cX0_sharedMeasure 13 = .ok (.istore 8, 2) := by decide +kernel
theorem dX0_sharedMeasure_15 : decode cX0_sharedMeasure 15 = .ok (.iload 8, 2) := by decide +kernel
theorem dX0_sharedMeasure_17 : decode cX0_sharedMeasure 17 = .ok (.bipush 100, 2) := by decide +kernel
theorem dX0_sharedMeasure_19 : decode cX0_sharedMeasure 19 = .ok (.if_icmp .ge 31, 3) := by decide +kernel
theorem dX0_sharedMeasure_22 : decode cX0_sharedMeasure 22 = .ok (.lload 6, 2) := by decide +kernel
theorem dX0_sharedMeasure_24 : decode cX0_sharedMeasure 24 = .ok (.lconst 0, 1) := by decide +kernel
theorem dX0_sharedMeasure_25 : decode cX0_sharedMeasure 25 = .ok (.lcmp, 1) := by decide +kernel
theorem dX0_sharedMeasure_26 : decode cX0_sharedMeasure 26 = .ok (.ifCond .eq 24, 3) := by decide +kernel
theorem dX0_sharedMeasure_29 : decode cX0_sharedMeasure 29 = .ok (.lload 4, 2) := by decide +kernel
theorem dX0_sharedMeasure_31 : decode cX0_sharedMeasure 31 = .ok (.lload 6, 2) := by decide +kernel
theorem dX0_sharedMeasure_33 : decode cX0_sharedMeasure 33 = .ok (.lrem, 1) := by decide +kernel
theorem dX0_sharedMeasure_34 : decode cX0_sharedMeasure 34 = .ok (.lstore 9, 2) := by decide +kernel
theorem dX0_sharedMeasure_36 : decode cX0_sharedMeasure 36 = .ok (.lload 6, 2) := by decide +kernel
theorem dX0_sharedMeasure_38 : decode cX0_sharedMeasure 38 = .ok (.lstore 4, 2) := by decide +kernel
theorem dX0_sharedMeasure_40 : decode cX0_sharedMeasure 40 = .ok (.lload 9, 2) := by decide +kernel
theorem dX0_sharedMeasure_42 : decode cX0_sharedMeasure 42 = .ok (.lstore 6, 2) := by decide +kernel
theorem dX0_sharedMeasure_44 : decode cX0_sharedMeasure 44 = .ok (.iinc 8 1, 3) := by decide +kernel
theorem dX0_sharedMeasure_47 : decode cX0_sharedMeasure 47 = .ok (.goto (-32), 3) := by decide +kernel
theorem dX0_sharedMeasure_50 : decode cX0_sharedMeasure 50 = .ok (.lload 4, 2) := by decide +kernel
theorem dX0_sharedMeasure_52 : decode cX0_sharedMeasure 52 = .ok (.lreturn, 1) := by decide +kernel
theorem dX1_init_0 : decode cX1_init 0 = .ok (.aload_n 0, 1) := by decide +kernel
theorem dX1_init_1 : decode cX1_init 1 = .ok (.new 3, 3) := by decide +kernel
theorem dX1_init_4 : decode cX1_init 4 = .ok (.dup, 1) := by decide +kernel
theorem dX1_init_5 : decode cX1_init 5 = .ok (.bipush 8, 2) := by decide +kernel
theorem dX1_init_7 : decode cX1_init 7 = .ok (.invokespecial 7, 3) := by decide +kernel
theorem dX1_init_10 : decode cX1_init 10 = .ok (.iconst (-1), 1) := by decide +kernel
theorem dX1_init_11 : decode cX1_init 11 = .ok (.invokespecial 11, 3) := by decide +kernel
theorem dX1_init_14 : decode cX1_init 14 = .ok (.aload_n 0, 1) := by decide +kernel
theorem dX1_init_15 : decode cX1_init 15 = .ok (.bipush 8, 2) := by decide +kernel
theorem dX1_init_17 : decode cX1_init 17 = .ok (.newarray .int, 2) := by decide +kernel
theorem dX1_init_19 : decode cX1_init 19 = .ok (.putfield 16, 3) := by decide +kernel
theorem dX1_init_22 : decode cX1_init 22 = .ok (.return_, 1) := by decide +kernel
theorem dX1_appendBlock_0 : decode cX1_appendBlock 0 = .ok (.aload_n 0, 1) := by decide +kernel
theorem dX1_appendBlock_1 : decode cX1_appendBlock 1 = .ok (.getfield 20, 3) := by decide +kernel
theorem dX1_appendBlock_4 : decode cX1_appendBlock 4 = .ok (.invokevirtual 24, 3) := by decide +kernel
theorem dX1_appendBlock_7 : decode cX1_appendBlock 7 = .ok (.ifCond .eq 6, 3) := by decide +kernel
theorem dX1_appendBlock_10 : decode cX1_appendBlock 10 = .ok (.bipush (-4), 2) := by decide +kernel
theorem dX1_appendBlock_12 : decode cX1_appendBlock 12 = .ok (.ireturn, 1) := by decide +kernel
theorem dX1_appendBlock_13 : decode cX1_appendBlock 13 = .ok (.aload_n 0, 1) := by decide +kernel
theorem dX1_appendBlock_14 : decode cX1_appendBlock 14 = .ok (.getfield 16, 3) := by decide +kernel
theorem dX1_appendBlock_17 : decode cX1_appendBlock 17 = .ok (.aload_n 0, 1) := by decide +kernel
theorem dX1_appendBlock_18 : decode cX1_appendBlock 18 = .ok (.getfield 20, 3) := by decide +kernel
theorem dX1_appendBlock_21 : decode cX1_appendBlock 21 = .ok (.getfield 28, 3) := by decide +kernel
theorem dX1_appendBlock_24 : decode cX1_appendBlock 24 = .ok (.iconst 0, 1) := by decide +kernel
theorem dX1_appendBlock_25 : decode cX1_appendBlock 25 = .ok (.iastore, 1) := by decide +kernel
theorem dX1_appendBlock_26 : decode cX1_appendBlock 26 = .ok (.aload_n 0, 1) := by decide +kernel
theorem dX1_appendBlock_27 : decode cX1_appendBlock 27 = .ok (.getfield 20, 3) := by decide +kernel
theorem dX1_appendBlock_30 : decode cX1_appendBlock 30 = .ok (.iload_n 1, 1) := by decide +kernel
theorem dX1_appendBlock_31 : decode cX1_appendBlock 31 = .ok (.iload_n 2, 1) := by decide +kernel
theorem dX1_appendBlock_32 : decode cX1_appendBlock 32 = .ok (.invokevirtual 32, 3) := by decide +kernel
theorem dX1_appendBlock_35 : decode cX1_appendBlock 35 = .ok (.ireturn, 1) := by decide +kernel
theorem dX1_isNeeded_0 : decode cX1_isNeeded 0 = .ok (.aload_n 0, 1) := by decide +kernel
theorem dX1_isNeeded_1 : decode cX1_isNeeded 1 = .ok (.getfield 16, 3) := by decide +kernel
theorem dX1_isNeeded_4 : decode cX1_isNeeded 4 = .ok (.iload_n 1, 1) := by decide +kernel
theorem dX1_isNeeded_5 : decode cX1_isNeeded 5 = .ok (.iaload, 1) := by decide +kernel
theorem dX1_isNeeded_6 : decode cX1_isNeeded 6 = .ok (.iload_n 2, 1) := by decide +kernel
theorem dX1_isNeeded_7 : decode cX1_isNeeded 7 = .ok (.invokestatic 36, 3) := by decide +kernel
theorem dX1_isNeeded_10 : decode cX1_isNeeded 10 = .ok (.ireturn, 1) := by decide +kernel
theorem dX1_turnNeed_0 : decode cX1_turnNeed 0 = .ok (.aload_n 0, 1) := by decide +kernel
theorem dX1_turnNeed_1 : decode cX1_turnNeed 1 = .ok (.getfield 16, 3) := by decide +kernel
theorem dX1_turnNeed_4 : decode cX1_turnNeed 4 = .ok (.iload_n 1, 1) := by decide +kernel
theorem dX1_turnNeed_5 : decode cX1_turnNeed 5 = .ok (.dup2, 1) := by decide +kernel
theorem dX1_turnNeed_6 : decode cX1_turnNeed 6 = .ok (.iaload, 1) := by decide +kernel
theorem dX1_turnNeed_7 : decode cX1_turnNeed 7 = .ok (.iconst 1, 1) := by decide +kernel
theorem dX1_turnNeed_8 : decode cX1_turnNeed 8 = .ok (.iload_n 2, 1) := by decide +kernel
theorem dX1_turnNeed_9 : decode cX1_turnNeed 9 = .ok (.ishl, 1) := by decide +kernel
theorem dX1_turnNeed_10 : decode cX1_turnNeed 10 = .ok (.ixor, 1) := by decide +kernel
theorem dX1_turnNeed_11 : decode cX1_turnNeed 11 = .ok (.iastore, 1) := by decide +kernel
theorem dX1_turnNeed_12 : decode cX1_turnNeed 12 = .ok (.return_, 1) := by decide +kernel
theorem dX1_listPlans_0 : decode cX1_listPlans 0 = .ok (.iconst 0, 1) := by decide +kernel
theorem dX1_listPlans_1 : decode cX1_listPlans 1 = .ok (.istore_n 2, 1) := by decide +kernel
theorem dX1_listPlans_2 : decode cX1_listPlans 2 = .ok (.iload_n 2, 1) := by decide +kernel
theorem dX1_listPlans_3 : decode cX1_listPlans 3 = .ok (.aload_n 0, 1) := by decide +kernel
theorem dX1_listPlans_4 : decode cX1_listPlans 4 = .ok (.getfield 20, 3) := by decide +kernel
theorem dX1_listPlans_7 : decode cX1_listPlans 7 = .ok (.invokevirtual 40, 3) := by decide +kernel
theorem dX1_listPlans_10 : decode cX1_listPlans 10 = .ok (.if_icmp .gt 22, 3) := by decide +kernel
theorem dX1_listPlans_13 : decode cX1_listPlans 13 = .ok (.aload_n 0, 1) := by decide +kernel
theorem dX1_listPlans_14 : decode cX1_listPlans 14 = .ok (.iload_n 2, 1) := by decide +kernel
theorem dX1_listPlans_15 : decode cX1_listPlans 15 = .ok (.invokevirtual 44, 3) := by decide +kernel
theorem dX1_listPlans_18 : decode cX1_listPlans 18 = .ok (.ifCond .eq 8, 3) := by decide +kernel
theorem dX1_listPlans_21 : decode cX1_listPlans 21 = .ok (.aload_n 1, 1) := by decide +kernel
theorem dX1_listPlans_22 : decode cX1_listPlans 22 = .ok (.iload_n 2, 1) := by decide +kernel
theorem dX1_listPlans_23 : decode cX1_listPlans 23 = .ok (.invokevirtual 48, 3) := by decide +kernel
theorem dX1_listPlans_26 : decode cX1_listPlans 26 = .ok (.iinc 2 1, 3) := by decide +kernel
theorem dX1_listPlans_29 : decode cX1_listPlans 29 = .ok (.goto (-27), 3) := by decide +kernel
theorem dX1_listPlans_32 : decode cX1_listPlans 32 = .ok (.return_, 1) := by decide +kernel
theorem dX1_isClosed_0 : decode cX1_isClosed 0 = .ok (.iconst 0, 1) := by decide +kernel
theorem dX1_isClosed_1 : decode cX1_isClosed 1 = .ok (.istore_n 2, 1) := by decide +kernel
theorem dX1_isClosed_2 : decode cX1_isClosed 2 = .ok (.iload_n 2, 1) := by decide +kernel
theorem dX1_isClosed_3 : decode cX1_isClosed 3 = .ok (.aload_n 0, 1) := by decide +kernel
theorem dX1_isClosed_4 : decode cX1_isClosed 4 = .ok (.getfield 20, 3) := by decide +kernel
theorem dX1_isClosed_7 : decode cX1_isClosed 7 = .ok (.getfield 28, 3) := by decide +kernel
theorem dX1_isClosed_10 : decode cX1_isClosed 10 = .ok (.if_icmp .ge 32, 3) := by decide +kernel
theorem dX1_isClosed_13 : decode cX1_isClosed 13 = .ok (.iload_n 1, 1) := by decide +kernel
theorem dX1_isClosed_14 : decode cX1_isClosed 14 = .ok (.iload_n 2, 1) := by decide +kernel
theorem dX1_isClosed_15 : decode cX1_isClosed 15 = .ok (.invokestatic 36, 3) := by decide +kernel
theorem dX1_isClosed_18 : decode cX1_isClosed 18 = .ok (.ifCond .eq 18, 3) := by decide +kernel
theorem dX1_isClosed_21 : decode cX1_isClosed 21 = .ok (.aload_n 0, 1) := by decide +kernel
theorem dX1_isClosed_22 : decode cX1_isClosed 22 = .ok (.getfield 16, 3) := by decide +kernel
theorem dX1_isClosed_25 : decode cX1_isClosed 25 = .ok (.iload_n 2, 1) := by decide +kernel
theorem dX1_isClosed_26 : decode cX1_isClosed 26 = .ok (.iaload, 1) := by decide +kernel
theorem dX1_isClosed_27 : decode cX1_isClosed 27 = .ok (.iload_n 1, 1) := by decide +kernel
theorem dX1_isClosed_28 : decode cX1_isClosed 28 = .ok (.iconst (-1), 1) := by decide +kernel
theorem dX1_isClosed_29 : decode cX1_isClosed 29 = .ok (.ixor, 1) := by decide +kernel
theorem dX1_isClosed_30 : decode cX1_isClosed 30 = .ok (.iand, 1) := by decide +kernel
theorem dX1_isClosed_31 : decode cX1_isClosed 31 = .ok (.ifCond .eq 5, 3) := by decide +kernel
theorem dX1_isClosed_34 : decode cX1_isClosed 34 = .ok (.iconst 0, 1) := by decide +kernel
theorem dX1_isClosed_35 : decode cX1_isClosed 35 = .ok (.ireturn, 1) := by decide +kernel
theorem dX1_isClosed_36 : decode cX1_isClosed 36 = .ok (.iinc 2 1, 3) := by decide +kernel
theorem dX1_isClosed_39 : decode cX1_isClosed 39 = .ok (.goto (-37), 3) := by decide +kernel
theorem dX1_isClosed_42 : decode cX1_isClosed 42 = .ok (.iconst 1, 1) := by decide +kernel
theorem dX1_isClosed_43 : decode cX1_isClosed 43 = .ok (.ireturn, 1) := by decide +kernel
theorem dX1_mixBlocks_0 : decode cX1_mixBlocks 0 = .ok (.iconst 0, 1) := by decide +kernel
theorem dX1_mixBlocks_1 : decode cX1_mixBlocks 1 = .ok (.istore_n 3, 1) := by decide +kernel
theorem dX1_mixBlocks_2 : decode cX1_mixBlocks 2 = .ok (.iload_n 3, 1) := by decide +kernel
theorem dX1_mixBlocks_3 : decode cX1_mixBlocks 3 = .ok (.aload_n 0, 1) := by decide +kernel
theorem dX1_mixBlocks_4 : decode cX1_mixBlocks 4 = .ok (.getfield 20, 3) := by decide +kernel
theorem dX1_mixBlocks_7 : decode cX1_mixBlocks 7 = .ok (.getfield 28, 3) := by decide +kernel
theorem dX1_mixBlocks_10 : decode cX1_mixBlocks 10 = .ok (.if_icmp .ge 29, 3) := by decide +kernel
theorem dX1_mixBlocks_13 : decode cX1_mixBlocks 13 = .ok (.aload_n 0, 1) := by decide +kernel
theorem dX1_mixBlocks_14 : decode cX1_mixBlocks 14 = .ok (.getfield 20, 3) := by decide +kernel
theorem dX1_mixBlocks_17 : decode cX1_mixBlocks 17 = .ok (.lload_n 1, 1) := by decide +kernel
theorem dX1_mixBlocks_18 : decode cX1_mixBlocks 18 = .ok (.iload_n 3, 1) := by decide +kernel
theorem dX1_mixBlocks_19 : decode cX1_mixBlocks 19 = .ok (.invokevirtual 53, 3) := by decide +kernel
theorem dX1_mixBlocks_22 : decode cX1_mixBlocks 22 = .ok (.aload_n 0, 1) := by decide +kernel
theorem dX1_mixBlocks_23 : decode cX1_mixBlocks 23 = .ok (.getfield 16, 3) := by decide +kernel
theorem dX1_mixBlocks_26 : decode cX1_mixBlocks 26 = .ok (.iload_n 3, 1) := by decide +kernel
theorem dX1_mixBlocks_27 : decode cX1_mixBlocks 27 = .ok (.iaload, 1) := by decide +kernel
theorem dX1_mixBlocks_28 : decode cX1_mixBlocks 28 = .ok (.i2l, 1) := by decide +kernel
theorem dX1_mixBlocks_29 : decode cX1_mixBlocks 29 = .ok (.invokestatic 57, 3) := by decide +kernel
theorem dX1_mixBlocks_32 : decode cX1_mixBlocks 32 = .ok (.lstore_n 1, 1) := by decide +kernel
theorem dX1_mixBlocks_33 : decode cX1_mixBlocks 33 = .ok (.iinc 3 1, 3) := by decide +kernel
theorem dX1_mixBlocks_36 : decode cX1_mixBlocks 36 = .ok (.goto (-34), 3) := by decide +kernel
theorem dX1_mixBlocks_39 : decode cX1_mixBlocks 39 = .ok (.lload_n 1, 1) := by decide +kernel
theorem dX1_mixBlocks_40 : decode cX1_mixBlocks 40 = .ok (.lreturn, 1) := by decide +kernel
theorem dX2_init_0 : decode cX2_init 0 = .ok (.aload_n 0, 1) := by decide +kernel
theorem dX2_init_1 : decode cX2_init 1 = .ok (.invokespecial 1, 3) := by decide +kernel
theorem dX2_init_4 : decode cX2_init 4 = .ok (.aload_n 0, 1) := by decide +kernel
theorem dX2_init_5 : decode cX2_init 5 = .ok (.aload_n 1, 1) := by decide +kernel
theorem dX2_init_6 : decode cX2_init 6 = .ok (.putfield 7, 3) := by decide +kernel
theorem dX2_init_9 : decode cX2_init 9 = .ok (.aload_n 0, 1) := by decide +kernel
theorem dX2_init_10 : decode cX2_init 10 = .ok (.iload_n 2, 1) := by decide +kernel
theorem dX2_init_11 : decode cX2_init 11 = .ok (.putfield 13, 3) := by decide +kernel
theorem dX2_init_14 : decode cX2_init 14 = .ok (.return_, 1) := by decide +kernel
theorem dX2_dropParts_0 : decode cX2_dropParts 0 = .ok (.aload_n 0, 1) := by decide +kernel
theorem dX2_dropParts_1 : decode cX2_dropParts 1 = .ok (.getfield 7, 3) := by decide +kernel
theorem dX2_dropParts_4 : decode cX2_dropParts 4 = .ok (.iconst 0, 1) := by decide +kernel
theorem dX2_dropParts_5 : decode cX2_dropParts 5 = .ok (.putfield 17, 3) := by decide +kernel
theorem dX2_dropParts_8 : decode cX2_dropParts 8 = .ok (.return_, 1) := by decide +kernel
theorem dX3_init_0 : decode cX3_init 0 = .ok (.aload_n 0, 1) := by decide +kernel
theorem dX3_init_1 : decode cX3_init 1 = .ok (.bipush 14, 2) := by decide +kernel
theorem dX3_init_3 : decode cX3_init 3 = .ok (.invokespecial 5, 3) := by decide +kernel
theorem dX3_init_6 : decode cX3_init 6 = .ok (.aload_n 0, 1) := by decide +kernel
theorem dX3_init_7 : decode cX3_init 7 = .ok (.bipush 14, 2) := by decide +kernel
theorem dX3_init_9 : decode cX3_init 9 = .ok (.newarray .int, 2) := by decide +kernel
theorem dX3_init_11 : decode cX3_init 11 = .ok (.putfield 11, 3) := by decide +kernel
theorem dX3_init_14 : decode cX3_init 14 = .ok (.aload_n 0, 1) := by decide +kernel
theorem dX3_init_15 : decode cX3_init 15 = .ok (.bipush 14, 2) := by decide +kernel
theorem dX3_init_17 : decode cX3_init 17 = .ok (.newarray .int, 2) := by decide +kernel
theorem dX3_init_19 : decode cX3_init 19 = .ok (.putfield 15, 3) := by decide +kernel
theorem dX3_init_22 : decode cX3_init 22 = .ok (.return_, 1) := by decide +kernel
theorem dX3_appendLink_0 : decode cX3_appendLink 0 = .ok (.aload_n 0, 1) := by decide +kernel
theorem dX3_appendLink_1 : decode cX3_appendLink 1 = .ok (.invokevirtual 18, 3) := by decide +kernel
theorem dX3_appendLink_4 : decode cX3_appendLink 4 = .ok (.ifCond .eq 6, 3) := by decide +kernel
theorem dX3_appendLink_7 : decode cX3_appendLink 7 = .ok (.bipush (-4), 2) := by decide +kernel
theorem dX3_appendLink_9 : decode cX3_appendLink 9 = .ok (.ireturn, 1) := by decide +kernel
theorem dX3_appendLink_10 : decode cX3_appendLink 10 = .ok (.aload_n 0, 1) := by decide +kernel
theorem dX3_appendLink_11 : decode cX3_appendLink 11 = .ok (.getfield 11, 3) := by decide +kernel
theorem dX3_appendLink_14 : decode cX3_appendLink 14 = .ok (.aload_n 0, 1) := by decide +kernel
theorem dX3_appendLink_15 : decode cX3_appendLink 15 = .ok (.getfield 22, 3) := by decide +kernel
theorem dX3_appendLink_18 : decode cX3_appendLink 18 = .ok (.iload_n 1, 1) := by decide +kernel
theorem dX3_appendLink_19 : decode cX3_appendLink 19 = .ok (.iastore, 1) := by decide +kernel
theorem dX3_appendLink_20 : decode cX3_appendLink 20 = .ok (.aload_n 0, 1) := by decide +kernel
theorem dX3_appendLink_21 : decode cX3_appendLink 21 = .ok (.getfield 15, 3) := by decide +kernel
theorem dX3_appendLink_24 : decode cX3_appendLink 24 = .ok (.aload_n 0, 1) := by decide +kernel
theorem dX3_appendLink_25 : decode cX3_appendLink 25 = .ok (.getfield 22, 3) := by decide +kernel
theorem dX3_appendLink_28 : decode cX3_appendLink 28 = .ok (.iload_n 2, 1) := by decide +kernel
theorem dX3_appendLink_29 : decode cX3_appendLink 29 = .ok (.iastore, 1) := by decide +kernel
theorem dX3_appendLink_30 : decode cX3_appendLink 30 = .ok (.aload_n 0, 1) := by decide +kernel
theorem dX3_appendLink_31 : decode cX3_appendLink 31 = .ok (.iload_n 3, 1) := by decide +kernel
theorem dX3_appendLink_32 : decode cX3_appendLink 32 = .ok (.iload 4, 2) := by decide +kernel
theorem dX3_appendLink_34 : decode cX3_appendLink 34 = .ok (.invokevirtual 26, 3) := by decide +kernel
theorem dX3_appendLink_37 : decode cX3_appendLink 37 = .ok (.ireturn, 1) := by decide +kernel
theorem dX3_mixLinks_0 : decode cX3_mixLinks 0 = .ok (.iconst 0, 1) := by decide +kernel
theorem dX3_mixLinks_1 : decode cX3_mixLinks 1 = .ok (.istore_n 3, 1) := by decide +kernel
theorem dX3_mixLinks_2 : decode cX3_mixLinks 2 = .ok (.iload_n 3, 1) := by decide +kernel
theorem dX3_mixLinks_3 : decode cX3_mixLinks 3 = .ok (.aload_n 0, 1) := by decide +kernel
theorem dX3_mixLinks_4 : decode cX3_mixLinks 4 = .ok (.getfield 22, 3) := by decide +kernel
theorem dX3_mixLinks_7 : decode cX3_mixLinks 7 = .ok (.if_icmp .ge 36, 3) := by decide +kernel
theorem dX3_mixLinks_10 : decode cX3_mixLinks 10 = .ok (.aload_n 0, 1) := by decide +kernel
theorem dX3_mixLinks_11 : decode cX3_mixLinks 11 = .ok (.lload_n 1, 1) := by decide +kernel
theorem dX3_mixLinks_12 : decode cX3_mixLinks 12 = .ok (.aload_n 0, 1) := by decide +kernel
theorem dX3_mixLinks_13 : decode cX3_mixLinks 13 = .ok (.getfield 11, 3) := by decide +kernel
theorem dX3_mixLinks_16 : decode cX3_mixLinks 16 = .ok (.iload_n 3, 1) := by decide +kernel
theorem dX3_mixLinks_17 : decode cX3_mixLinks 17 = .ok (.iaload, 1) := by decide +kernel
theorem dX3_mixLinks_18 : decode cX3_mixLinks 18 = .ok (.i2l, 1) := by decide +kernel
theorem dX3_mixLinks_19 : decode cX3_mixLinks 19 = .ok (.invokestatic 30, 3) := by decide +kernel
theorem dX3_mixLinks_22 : decode cX3_mixLinks 22 = .ok (.aload_n 0, 1) := by decide +kernel
theorem dX3_mixLinks_23 : decode cX3_mixLinks 23 = .ok (.getfield 15, 3) := by decide +kernel
theorem dX3_mixLinks_26 : decode cX3_mixLinks 26 = .ok (.iload_n 3, 1) := by decide +kernel
theorem dX3_mixLinks_27 : decode cX3_mixLinks 27 = .ok (.iaload, 1) := by decide +kernel
theorem dX3_mixLinks_28 : decode cX3_mixLinks 28 = .ok (.i2l, 1) := by decide +kernel
theorem dX3_mixLinks_29 : decode cX3_mixLinks 29 = .ok (.invokestatic 30, 3) := by decide +kernel
theorem dX3_mixLinks_32 : decode cX3_mixLinks 32 = .ok (.iload_n 3, 1) := by decide +kernel
theorem dX3_mixLinks_33 : decode cX3_mixLinks 33 = .ok (.invokevirtual 34, 3) := by decide +kernel
theorem dX3_mixLinks_36 : decode cX3_mixLinks 36 = .ok (.lstore_n 1, 1) := by decide +kernel
theorem dX3_mixLinks_37 : decode cX3_mixLinks 37 = .ok (.iinc 3 1, 3) := by decide +kernel
theorem dX3_mixLinks_40 : decode cX3_mixLinks 40 = .ok (.goto (-38), 3) := by decide +kernel
theorem dX3_mixLinks_43 : decode cX3_mixLinks 43 = .ok (.lload_n 1, 1) := by decide +kernel
theorem dX3_mixLinks_44 : decode cX3_mixLinks 44 = .ok (.lreturn, 1) := by decide +kernel
theorem dX4_init_0 : decode cX4_init 0 = .ok (.aload_n 0, 1) := by decide +kernel
theorem dX4_init_1 : decode cX4_init 1 = .ok (.new 3, 3) := by decide +kernel
theorem dX4_init_4 : decode cX4_init 4 = .ok (.dup, 1) := by decide +kernel
theorem dX4_init_5 : decode cX4_init 5 = .ok (.bipush 8, 2) := by decide +kernel
theorem dX4_init_7 : decode cX4_init 7 = .ok (.invokespecial 7, 3) := by decide +kernel
theorem dX4_init_10 : decode cX4_init 10 = .ok (.iconst (-1), 1) := by decide +kernel
theorem dX4_init_11 : decode cX4_init 11 = .ok (.invokespecial 11, 3) := by decide +kernel
theorem dX4_init_14 : decode cX4_init 14 = .ok (.aload_n 0, 1) := by decide +kernel
theorem dX4_init_15 : decode cX4_init 15 = .ok (.bipush 8, 2) := by decide +kernel
theorem dX4_init_17 : decode cX4_init 17 = .ok (.newarray .int, 2) := by decide +kernel
theorem dX4_init_19 : decode cX4_init 19 = .ok (.putfield 16, 3) := by decide +kernel
theorem dX4_init_22 : decode cX4_init 22 = .ok (.aload_n 0, 1) := by decide +kernel
theorem dX4_init_23 : decode cX4_init 23 = .ok (.bipush 20, 2) := by decide +kernel
theorem dX4_init_25 : decode cX4_init 25 = .ok (.putfield 20, 3) := by decide +kernel
theorem dX4_init_28 : decode cX4_init 28 = .ok (.return_, 1) := by decide +kernel
theorem dX4_appendThing_0 : decode cX4_appendThing 0 = .ok (.aload_n 0, 1) := by decide +kernel
theorem dX4_appendThing_1 : decode cX4_appendThing 1 = .ok (.getfield 24, 3) := by decide +kernel
theorem dX4_appendThing_4 : decode cX4_appendThing 4 = .ok (.invokevirtual 28, 3) := by decide +kernel
theorem dX4_appendThing_7 : decode cX4_appendThing 7 = .ok (.ifCond .eq 6, 3) := by decide +kernel
theorem dX4_appendThing_10 : decode cX4_appendThing 10 = .ok (.bipush (-4), 2) := by decide +kernel
theorem dX4_appendThing_12 : decode cX4_appendThing 12 = .ok (.ireturn, 1) := by decide +kernel
theorem dX4_appendThing_13 : decode cX4_appendThing 13 = .ok (.aload_n 0, 1) := by decide +kernel
theorem dX4_appendThing_14 : decode cX4_appendThing 14 = .ok (.getfield 16, 3) := by decide +kernel
theorem dX4_appendThing_17 : decode cX4_appendThing 17 = .ok (.aload_n 0, 1) := by decide +kernel
theorem dX4_appendThing_18 : decode cX4_appendThing 18 = .ok (.getfield 24, 3) := by decide +kernel
theorem dX4_appendThing_21 : decode cX4_appendThing 21 = .ok (.getfield 32, 3) := by decide +kernel
theorem dX4_appendThing_24 : decode cX4_appendThing 24 = .ok (.iload_n 1, 1) := by decide +kernel
theorem dX4_appendThing_25 : decode cX4_appendThing 25 = .ok (.iastore, 1) := by decide +kernel
theorem dX4_appendThing_26 : decode cX4_appendThing 26 = .ok (.aload_n 0, 1) := by decide +kernel
theorem dX4_appendThing_27 : decode cX4_appendThing 27 = .ok (.getfield 24, 3) := by decide +kernel
theorem dX4_appendThing_30 : decode cX4_appendThing 30 = .ok (.iload_n 2, 1) := by decide +kernel
theorem dX4_appendThing_31 : decode cX4_appendThing 31 = .ok (.iload_n 3, 1) := by decide +kernel
theorem dX4_appendThing_32 : decode cX4_appendThing 32 = .ok (.invokevirtual 35, 3) := by decide +kernel
theorem dX4_appendThing_35 : decode cX4_appendThing 35 = .ok (.ireturn, 1) := by decide +kernel
theorem dX4_listPlans_0 : decode cX4_listPlans 0 = .ok (.iconst 0, 1) := by decide +kernel
theorem dX4_listPlans_1 : decode cX4_listPlans 1 = .ok (.istore_n 2, 1) := by decide +kernel
theorem dX4_listPlans_2 : decode cX4_listPlans 2 = .ok (.iload_n 2, 1) := by decide +kernel
theorem dX4_listPlans_3 : decode cX4_listPlans 3 = .ok (.aload_n 0, 1) := by decide +kernel
theorem dX4_listPlans_4 : decode cX4_listPlans 4 = .ok (.getfield 24, 3) := by decide +kernel
theorem dX4_listPlans_7 : decode cX4_listPlans 7 = .ok (.invokevirtual 39, 3) := by decide +kernel
theorem dX4_listPlans_10 : decode cX4_listPlans 10 = .ok (.if_icmp .gt 26, 3) := by decide +kernel
theorem dX4_listPlans_13 : decode cX4_listPlans 13 = .ok (.aload_n 0, 1) := by decide +kernel
theorem dX4_listPlans_14 : decode cX4_listPlans 14 = .ok (.iload_n 2, 1) := by decide +kernel
theorem dX4_listPlans_15 : decode cX4_listPlans 15 = .ok (.invokevirtual 43, 3) := by decide +kernel
theorem dX4_listPlans_18 : decode cX4_listPlans 18 = .ok (.aload_n 0, 1) := by decide +kernel
theorem dX4_listPlans_19 : decode cX4_listPlans 19 = .ok (.getfield 20, 3) := by decide +kernel
theorem dX4_listPlans_22 : decode cX4_listPlans 22 = .ok (.if_icmp .gt 8, 3) := by decide +kernel
theorem dX4_listPlans_25 : decode cX4_listPlans 25 = .ok (.aload_n 1, 1) := by decide +kernel
theorem dX4_listPlans_26 : decode cX4_listPlans 26 = .ok (.iload_n 2, 1) := by decide +kernel
theorem dX4_listPlans_27 : decode cX4_listPlans 27 = .ok (.invokevirtual 47, 3) := by decide +kernel
theorem dX4_listPlans_30 : decode cX4_listPlans 30 = .ok (.iinc 2 1, 3) := by decide +kernel
theorem dX4_listPlans_33 : decode cX4_listPlans 33 = .ok (.goto (-31), 3) := by decide +kernel
theorem dX4_listPlans_36 : decode cX4_listPlans 36 = .ok (.return_, 1) := by decide +kernel
theorem dX4_weightOf_0 : decode cX4_weightOf 0 = .ok (.iconst 0, 1) := by decide +kernel
theorem dX4_weightOf_1 : decode cX4_weightOf 1 = .ok (.istore_n 2, 1) := by decide +kernel
theorem dX4_weightOf_2 : decode cX4_weightOf 2 = .ok (.iconst 0, 1) := by decide +kernel
theorem dX4_weightOf_3 : decode cX4_weightOf 3 = .ok (.istore_n 3, 1) := by decide +kernel
theorem dX4_weightOf_4 : decode cX4_weightOf 4 = .ok (.iload_n 3, 1) := by decide +kernel
theorem dX4_weightOf_5 : decode cX4_weightOf 5 = .ok (.aload_n 0, 1) := by decide +kernel
theorem dX4_weightOf_6 : decode cX4_weightOf 6 = .ok (.getfield 24, 3) := by decide +kernel
theorem dX4_weightOf_9 : decode cX4_weightOf 9 = .ok (.getfield 32, 3) := by decide +kernel
theorem dX4_weightOf_12 : decode cX4_weightOf 12 = .ok (.if_icmp .ge 26, 3) := by decide +kernel
theorem dX4_weightOf_15 : decode cX4_weightOf 15 = .ok (.iload_n 1, 1) := by decide +kernel
theorem dX4_weightOf_16 : decode cX4_weightOf 16 = .ok (.iload_n 3, 1) := by decide +kernel
theorem dX4_weightOf_17 : decode cX4_weightOf 17 = .ok (.invokestatic 52, 3) := by decide +kernel
theorem dX4_weightOf_20 : decode cX4_weightOf 20 = .ok (.ifCond .eq 12, 3) := by decide +kernel
theorem dX4_weightOf_23 : decode cX4_weightOf 23 = .ok (.iload_n 2, 1) := by decide +kernel
theorem dX4_weightOf_24 : decode cX4_weightOf 24 = .ok (.aload_n 0, 1) := by decide +kernel
theorem dX4_weightOf_25 : decode cX4_weightOf 25 = .ok (.getfield 16, 3) := by decide +kernel
theorem dX4_weightOf_28 : decode cX4_weightOf 28 = .ok (.iload_n 3, 1) := by decide +kernel
theorem dX4_weightOf_29 : decode cX4_weightOf 29 = .ok (.iaload, 1) := by decide +kernel
theorem dX4_weightOf_30 : decode cX4_weightOf 30 = .ok (.iadd, 1) := by decide +kernel
theorem dX4_weightOf_31 : decode cX4_weightOf 31 = .ok (.istore_n 2, 1) := by decide +kernel
theorem dX4_weightOf_32 : decode cX4_weightOf 32 = .ok (.iinc 3 1, 3) := by decide +kernel
theorem dX4_weightOf_35 : decode cX4_weightOf 35 = .ok (.goto (-31), 3) := by decide +kernel
theorem dX4_weightOf_38 : decode cX4_weightOf 38 = .ok (.iload_n 2, 1) := by decide +kernel
theorem dX4_weightOf_39 : decode cX4_weightOf 39 = .ok (.ireturn, 1) := by decide +kernel
theorem dX4_mixThings_0 : decode cX4_mixThings 0 = .ok (.iconst 0, 1) := by decide +kernel
theorem dX4_mixThings_1 : decode cX4_mixThings 1 = .ok (.istore_n 3, 1) := by decide +kernel
theorem dX4_mixThings_2 : decode cX4_mixThings 2 = .ok (.iload_n 3, 1) := by decide +kernel
theorem dX4_mixThings_3 : decode cX4_mixThings 3 = .ok (.aload_n 0, 1) := by decide +kernel
theorem dX4_mixThings_4 : decode cX4_mixThings 4 = .ok (.getfield 24, 3) := by decide +kernel
theorem dX4_mixThings_7 : decode cX4_mixThings 7 = .ok (.getfield 32, 3) := by decide +kernel
theorem dX4_mixThings_10 : decode cX4_mixThings 10 = .ok (.if_icmp .ge 29, 3) := by decide +kernel
theorem dX4_mixThings_13 : decode cX4_mixThings 13 = .ok (.aload_n 0, 1) := by decide +kernel
theorem dX4_mixThings_14 : decode cX4_mixThings 14 = .ok (.getfield 24, 3) := by decide +kernel
theorem dX4_mixThings_17 : decode cX4_mixThings 17 = .ok (.lload_n 1, 1) := by decide +kernel
theorem dX4_mixThings_18 : decode cX4_mixThings 18 = .ok (.aload_n 0, 1) := by decide +kernel
theorem dX4_mixThings_19 : decode cX4_mixThings 19 = .ok (.getfield 16, 3) := by decide +kernel
theorem dX4_mixThings_22 : decode cX4_mixThings 22 = .ok (.iload_n 3, 1) := by decide +kernel
theorem dX4_mixThings_23 : decode cX4_mixThings 23 = .ok (.iaload, 1) := by decide +kernel
theorem dX4_mixThings_24 : decode cX4_mixThings 24 = .ok (.i2l, 1) := by decide +kernel
theorem dX4_mixThings_25 : decode cX4_mixThings 25 = .ok (.invokestatic 56, 3) := by decide +kernel
theorem dX4_mixThings_28 : decode cX4_mixThings 28 = .ok (.iload_n 3, 1) := by decide +kernel
theorem dX4_mixThings_29 : decode cX4_mixThings 29 = .ok (.invokevirtual 60, 3) := by decide +kernel
theorem dX4_mixThings_32 : decode cX4_mixThings 32 = .ok (.lstore_n 1, 1) := by decide +kernel
theorem dX4_mixThings_33 : decode cX4_mixThings 33 = .ok (.iinc 3 1, 3) := by decide +kernel
theorem dX4_mixThings_36 : decode cX4_mixThings 36 = .ok (.goto (-34), 3) := by decide +kernel
theorem dX4_mixThings_39 : decode cX4_mixThings 39 = .ok (.lload_n 1, 1) := by decide +kernel
theorem dX4_mixThings_40 : decode cX4_mixThings 40 = .ok (.lreturn, 1) := by decide +kernel
theorem dX5_init_0 : decode cX5_init 0 = .ok (.aload_n 0, 1) := by decide +kernel
theorem dX5_init_1 : decode cX5_init 1 = .ok (.aload_n 1, 1) := by decide +kernel
theorem dX5_init_2 : decode cX5_init 2 = .ok (.iconst 1, 1) := by decide +kernel
theorem dX5_init_3 : decode cX5_init 3 = .ok (.invokespecial 3, 3) := by decide +kernel
theorem dX5_init_6 : decode cX5_init 6 = .ok (.aload_n 1, 1) := by decide +kernel
theorem dX5_init_7 : decode cX5_init 7 = .ok (.bipush 16, 2) := by decide +kernel
theorem dX5_init_9 : decode cX5_init 9 = .ok (.putfield 9, 3) := by decide +kernel
theorem dX5_init_12 : decode cX5_init 12 = .ok (.return_, 1) := by decide +kernel
theorem dX5_listPlans_0 : decode cX5_listPlans 0 = .ok (.aload_n 0, 1) := by decide +kernel
theorem dX5_listPlans_1 : decode cX5_listPlans 1 = .ok (.iconst 3, 1) := by decide +kernel
theorem dX5_listPlans_2 : decode cX5_listPlans 2 = .ok (.iconst 0, 1) := by decide +kernel
theorem dX5_listPlans_3 : decode cX5_listPlans 3 = .ok (.iconst 0, 1) := by decide +kernel
theorem dX5_listPlans_4 : decode cX5_listPlans 4 = .ok (.aload_n 1, 1) := by decide +kernel
theorem dX5_listPlans_5 : decode cX5_listPlans 5 = .ok (.invokevirtual 15, 3) := by decide +kernel
theorem dX5_listPlans_8 : decode cX5_listPlans 8 = .ok (.return_, 1) := by decide +kernel
theorem dX5_match_0 : decode cX5_match 0 = .ok (.iload_n 1, 1) := by decide +kernel
theorem dX5_match_1 : decode cX5_match 1 = .ok (.ifCond .ge 10, 3) := by decide +kernel
theorem dX5_match_4 : decode cX5_match 4 = .ok (.aload 4, 2) := by decide +kernel
theorem dX5_match_6 : decode cX5_match 6 = .ok (.iload_n 3, 1) := by decide +kernel
theorem dX5_match_7 : decode cX5_match 7 = .ok (.invokevirtual 21, 3) := by decide +kernel
theorem dX5_match_10 : decode cX5_match 10 = .ok (.return_, 1) := by decide +kernel
theorem dX5_match_11 : decode cX5_match 11 = .ok (.iconst 0, 1) := by decide +kernel
theorem dX5_match_12 : decode cX5_match 12 = .ok (.istore 5, 2) := by decide +kernel
theorem dX5_match_14 : decode cX5_match 14 = .ok (.iload 5, 2) := by decide +kernel
theorem dX5_match_16 : decode cX5_match 16 = .ok (.iconst 4, 1) := by decide +kernel
theorem dX5_match_17 : decode cX5_match 17 = .ok (.if_icmp .ge 46, 3) := by decide +kernel
theorem dX5_match_20 : decode cX5_match 20 = .ok (.iload_n 2, 1) := by decide +kernel
theorem dX5_match_21 : decode cX5_match 21 = .ok (.iload 5, 2) := by decide +kernel
theorem dX5_match_23 : decode cX5_match 23 = .ok (.invokestatic 27, 3) := by decide +kernel
theorem dX5_match_26 : decode cX5_match 26 = .ok (.ifCond .eq 6, 3) := by decide +kernel
theorem dX5_match_29 : decode cX5_match 29 = .ok (.goto 28, 3) := by decide +kernel
theorem dX5_match_32 : decode cX5_match 32 = .ok (.aload_n 0, 1) := by decide +kernel
theorem dX5_match_33 : decode cX5_match 33 = .ok (.iload_n 1, 1) := by decide +kernel
theorem dX5_match_34 : decode cX5_match 34 = .ok (.iconst 1, 1) := by decide +kernel
theorem dX5_match_35 : decode cX5_match 35 = .ok (.isub, 1) := by decide +kernel
theorem dX5_match_36 : decode cX5_match 36 = .ok (.iload_n 2, 1) := by decide +kernel
theorem dX5_match_37 : decode cX5_match 37 = .ok (.iconst 1, 1) := by decide +kernel
theorem dX5_match_38 : decode cX5_match 38 = .ok (.iload 5, 2) := by decide +kernel
theorem dX5_match_40 : decode cX5_match 40 = .ok (.ishl, 1) := by decide +kernel
theorem dX5_match_41 : decode cX5_match 41 = .ok (.ior, 1) := by decide +kernel
theorem dX5_match_42 : decode cX5_match 42 = .ok (.iload_n 3, 1) := by decide +kernel
theorem dX5_match_43 : decode cX5_match 43 = .ok (.iconst 1, 1) := by decide +kernel
theorem dX5_match_44 : decode cX5_match 44 = .ok (.iconst 4, 1) := by decide +kernel
theorem dX5_match_45 : decode cX5_match 45 = .ok (.iload_n 1, 1) := by decide +kernel
theorem dX5_match_46 : decode cX5_match 46 = .ok (.imul, 1) := by decide +kernel
theorem dX5_match_47 : decode cX5_match 47 = .ok (.iload 5, 2) := by decide +kernel
theorem dX5_match_49 : decode cX5_match 49 = .ok (.iadd, 1) := by decide +kernel
theorem dX5_match_50 : decode cX5_match 50 = .ok (.ishl, 1) := by decide +kernel
theorem dX5_match_51 : decode cX5_match 51 = .ok (.ior, 1) := by decide +kernel
theorem dX5_match_52 : decode cX5_match 52 = .ok (.aload 4, 2) := by decide +kernel
theorem dX5_match_54 : decode cX5_match 54 = .ok (.invokevirtual 15, 3) := by decide +kernel
theorem dX5_match_57 : decode cX5_match 57 = .ok (.iinc 5 1, 3) := by decide +kernel
theorem dX5_match_60 : decode cX5_match 60 = .ok (.goto (-46), 3) := by decide +kernel
theorem dX5_match_63 : decode cX5_match 63 = .ok (.return_, 1) := by decide +kernel
theorem dX5_dropParts_0 : decode cX5_dropParts 0 = .ok (.iconst 0, 1) := by decide +kernel
theorem dX5_dropParts_1 : decode cX5_dropParts 1 = .ok (.istore_n 1, 1) := by decide +kernel
theorem dX5_dropParts_2 : decode cX5_dropParts 2 = .ok (.iload_n 1, 1) := by decide +kernel
theorem dX5_dropParts_3 : decode cX5_dropParts 3 = .ok (.aload_n 0, 1) := by decide +kernel
theorem dX5_dropParts_4 : decode cX5_dropParts 4 = .ok (.getfield 31, 3) := by decide +kernel
theorem dX5_dropParts_7 : decode cX5_dropParts 7 = .ok (.getfield 9, 3) := by decide +kernel
theorem dX5_dropParts_10 : decode cX5_dropParts 10 = .ok (.if_icmp .ge 19, 3) := by decide +kernel
theorem dX5_dropParts_13 : decode cX5_dropParts 13 = .ok (.aload_n 0, 1) := by decide +kernel
theorem dX5_dropParts_14 : decode cX5_dropParts 14 = .ok (.getfield 31, 3) := by decide +kernel
theorem dX5_dropParts_17 : decode cX5_dropParts 17 = .ok (.iload_n 1, 1) := by decide +kernel
theorem dX5_dropParts_18 : decode cX5_dropParts 18 = .ok (.iconst 0, 1) := by decide +kernel
theorem dX5_dropParts_19 : decode cX5_dropParts 19 = .ok (.iconst 0, 1) := by decide +kernel
theorem dX5_dropParts_20 : decode cX5_dropParts 20 = .ok (.invokevirtual 35, 3) := by decide +kernel
theorem dX5_dropParts_23 : decode cX5_dropParts 23 = .ok (.iinc 1 1, 3) := by decide +kernel
theorem dX5_dropParts_26 : decode cX5_dropParts 26 = .ok (.goto (-24), 3) := by decide +kernel
theorem dX5_dropParts_29 : decode cX5_dropParts 29 = .ok (.return_, 1) := by decide +kernel
theorem dX6_init_0 : decode cX6_init 0 = .ok (.aload_n 0, 1) := by decide +kernel
theorem dX6_init_1 : decode cX6_init 1 = .ok (.invokespecial 1, 3) := by decide +kernel
theorem dX6_init_4 : decode cX6_init 4 = .ok (.aload_n 0, 1) := by decide +kernel
theorem dX6_init_5 : decode cX6_init 5 = .ok (.iload_n 1, 1) := by decide +kernel
theorem dX6_init_6 : decode cX6_init 6 = .ok (.newarray .int, 2) := by decide +kernel
theorem dX6_init_8 : decode cX6_init 8 = .ok (.putfield 7, 3) := by decide +kernel
theorem dX6_init_11 : decode cX6_init 11 = .ok (.aload_n 0, 1) := by decide +kernel
theorem dX6_init_12 : decode cX6_init 12 = .ok (.iload_n 1, 1) := by decide +kernel
theorem dX6_init_13 : decode cX6_init 13 = .ok (.newarray .int, 2) := by decide +kernel
theorem dX6_init_15 : decode cX6_init 15 = .ok (.putfield 13, 3) := by decide +kernel
theorem dX6_init_18 : decode cX6_init 18 = .ok (.aload_n 0, 1) := by decide +kernel
theorem dX6_init_19 : decode cX6_init 19 = .ok (.iconst 0, 1) := by decide +kernel
theorem dX6_init_20 : decode cX6_init 20 = .ok (.putfield 16, 3) := by decide +kernel
theorem dX6_init_23 : decode cX6_init 23 = .ok (.return_, 1) := by decide +kernel
theorem dX6_isFull_0 : decode cX6_isFull 0 = .ok (.aload_n 0, 1) := by decide +kernel
theorem dX6_isFull_1 : decode cX6_isFull 1 = .ok (.getfield 16, 3) := by decide +kernel
theorem dX6_isFull_4 : decode cX6_isFull 4 = .ok (.aload_n 0, 1) := by decide +kernel
theorem dX6_isFull_5 : decode cX6_isFull 5 = .ok (.getfield 7, 3) := by decide +kernel
theorem dX6_isFull_8 : decode cX6_isFull 8 = .ok (.arraylength, 1) := by decide +kernel
theorem dX6_isFull_9 : decode cX6_isFull 9 = .ok (.if_icmp .lt 7, 3) := by decide +kernel
theorem dX6_isFull_12 : decode cX6_isFull 12 = .ok (.iconst 1, 1) := by decide +kernel
theorem dX6_isFull_13 : decode cX6_isFull 13 = .ok (.goto 4, 3) := by decide +kernel
theorem dX6_isFull_16 : decode cX6_isFull 16 = .ok (.iconst 0, 1) := by decide +kernel
theorem dX6_isFull_17 : decode cX6_isFull 17 = .ok (.ireturn, 1) := by decide +kernel
theorem dX6_has_0 : decode cX6_has 0 = .ok (.iload_n 1, 1) := by decide +kernel
theorem dX6_has_1 : decode cX6_has 1 = .ok (.ifCond .lt 15, 3) := by decide +kernel
theorem dX6_has_4 : decode cX6_has 4 = .ok (.iload_n 1, 1) := by decide +kernel
theorem dX6_has_5 : decode cX6_has 5 = .ok (.aload_n 0, 1) := by decide +kernel
theorem dX6_has_6 : decode cX6_has 6 = .ok (.getfield 16, 3) := by decide +kernel
theorem dX6_has_9 : decode cX6_has 9 = .ok (.if_icmp .ge 7, 3) := by decide +kernel
theorem dX6_has_12 : decode cX6_has 12 = .ok (.iconst 1, 1) := by decide +kernel
theorem dX6_has_13 : decode cX6_has 13 = .ok (.goto 4, 3) := by decide +kernel
theorem dX6_has_16 : decode cX6_has 16 = .ok (.iconst 0, 1) := by decide +kernel
theorem dX6_has_17 : decode cX6_has 17 = .ok (.ireturn, 1) := by decide +kernel
theorem dX6_all_0 : decode cX6_all 0 = .ok (.iconst 1, 1) := by decide +kernel
theorem dX6_all_1 : decode cX6_all 1 = .ok (.aload_n 0, 1) := by decide +kernel
theorem dX6_all_2 : decode cX6_all 2 = .ok (.getfield 16, 3) := by decide +kernel
theorem dX6_all_5 : decode cX6_all 5 = .ok (.ishl, 1) := by decide +kernel
theorem dX6_all_6 : decode cX6_all 6 = .ok (.iconst 1, 1) := by decide +kernel
theorem dX6_all_7 : decode cX6_all 7 = .ok (.isub, 1) := by decide +kernel
theorem dX6_all_8 : decode cX6_all 8 = .ok (.ireturn, 1) := by decide +kernel
theorem dX6_setLine_0 : decode cX6_setLine 0 = .ok (.iload_n 1, 1) := by decide +kernel
theorem dX6_setLine_1 : decode cX6_setLine 1 = .ok (.ifCond .lt 12, 3) := by decide +kernel
theorem dX6_setLine_4 : decode cX6_setLine 4 = .ok (.iload_n 1, 1) := by decide +kernel
theorem dX6_setLine_5 : decode cX6_setLine 5 = .ok (.aload_n 0, 1) := by decide +kernel
theorem dX6_setLine_6 : decode cX6_setLine 6 = .ok (.getfield 7, 3) := by decide +kernel
theorem dX6_setLine_9 : decode cX6_setLine 9 = .ok (.arraylength, 1) := by decide +kernel
theorem dX6_setLine_10 : decode cX6_setLine 10 = .ok (.if_icmp .lt 4, 3) := by decide +kernel
theorem dX6_setLine_13 : decode cX6_setLine 13 = .ok (.return_, 1) := by decide +kernel
theorem dX6_setLine_14 : decode cX6_setLine 14 = .ok (.aload_n 0, 1) := by decide +kernel
theorem dX6_setLine_15 : decode cX6_setLine 15 = .ok (.getfield 7, 3) := by decide +kernel
theorem dX6_setLine_18 : decode cX6_setLine 18 = .ok (.iload_n 1, 1) := by decide +kernel
theorem dX6_setLine_19 : decode cX6_setLine 19 = .ok (.iload_n 2, 1) := by decide +kernel
theorem dX6_setLine_20 : decode cX6_setLine 20 = .ok (.iastore, 1) := by decide +kernel
theorem dX6_setLine_21 : decode cX6_setLine 21 = .ok (.aload_n 0, 1) := by decide +kernel
theorem dX6_setLine_22 : decode cX6_setLine 22 = .ok (.getfield 13, 3) := by decide +kernel
theorem dX6_setLine_25 : decode cX6_setLine 25 = .ok (.iload_n 1, 1) := by decide +kernel
theorem dX6_setLine_26 : decode cX6_setLine 26 = .ok (.iload_n 3, 1) := by decide +kernel
theorem dX6_setLine_27 : decode cX6_setLine 27 = .ok (.iastore, 1) := by decide +kernel
theorem dX6_setLine_28 : decode cX6_setLine 28 = .ok (.return_, 1) := by decide +kernel
theorem dX6_appendLine_0 : decode cX6_appendLine 0 = .ok (.aload_n 0, 1) := by decide +kernel
theorem dX6_appendLine_1 : decode cX6_appendLine 1 = .ok (.aload_n 0, 1) := by decide +kernel
theorem dX6_appendLine_2 : decode cX6_appendLine 2 = .ok (.getfield 16, 3) := by decide +kernel
theorem dX6_appendLine_5 : decode cX6_appendLine 5 = .ok (.iload_n 1, 1) := by decide +kernel
theorem dX6_appendLine_6 : decode cX6_appendLine 6 = .ok (.iload_n 2, 1) := by decide +kernel
theorem dX6_appendLine_7 : decode cX6_appendLine 7 = .ok (.invokevirtual 20, 3) := by decide +kernel
theorem dX6_appendLine_10 : decode cX6_appendLine 10 = .ok (.aload_n 0, 1) := by decide +kernel
theorem dX6_appendLine_11 : decode cX6_appendLine 11 = .ok (.dup, 1) := by decide +kernel
theorem dX6_appendLine_12 : decode cX6_appendLine 12 = .ok (.getfield 16, 3) := by decide +kernel
theorem dX6_appendLine_15 : decode cX6_appendLine 15 = .ok (.dup_x1, 1) := by decide +kernel
theorem dX6_appendLine_16 : decode cX6_appendLine 16 = .ok (.iconst 1, 1) := by decide +kernel
theorem dX6_appendLine_17 : decode cX6_appendLine 17 = .ok (.iadd, 1) := by decide +kernel
theorem dX6_appendLine_18 : decode cX6_appendLine 18 = .ok (.putfield 16, 3) := by decide +kernel
theorem dX6_appendLine_21 : decode cX6_appendLine 21 = .ok (.ireturn, 1) := by decide +kernel
theorem dX6_mixLine_0 : decode cX6_mixLine 0 = .ok (.lload_n 1, 1) := by decide +kernel
theorem dX6_mixLine_1 : decode cX6_mixLine 1 = .ok (.aload_n 0, 1) := by decide +kernel
theorem dX6_mixLine_2 : decode cX6_mixLine 2 = .ok (.getfield 7, 3) := by decide +kernel
theorem dX6_mixLine_5 : decode cX6_mixLine 5 = .ok (.iload_n 3, 1) := by decide +kernel
theorem dX6_mixLine_6 : decode cX6_mixLine 6 = .ok (.iaload, 1) := by decide +kernel
theorem dX6_mixLine_7 : decode cX6_mixLine 7 = .ok (.i2l, 1) := by decide +kernel
theorem dX6_mixLine_8 : decode cX6_mixLine 8 = .ok (.invokestatic 24, 3) := by decide +kernel
theorem dX6_mixLine_11 : decode cX6_mixLine 11 = .ok (.aload_n 0, 1) := by decide +kernel
theorem dX6_mixLine_12 : decode cX6_mixLine 12 = .ok (.getfield 13, 3) := by decide +kernel
theorem dX6_mixLine_15 : decode cX6_mixLine 15 = .ok (.iload_n 3, 1) := by decide +kernel
theorem dX6_mixLine_16 : decode cX6_mixLine 16 = .ok (.iaload, 1) := by decide +kernel
theorem dX6_mixLine_17 : decode cX6_mixLine 17 = .ok (.i2l, 1) := by decide +kernel
theorem dX6_mixLine_18 : decode cX6_mixLine 18 = .ok (.invokestatic 24, 3) := by decide +kernel
theorem dX6_mixLine_21 : decode cX6_mixLine 21 = .ok (.lreturn, 1) := by decide +kernel
theorem dX7_init_0 : decode cX7_init 0 = .ok (.aload_n 0, 1) := by decide +kernel
theorem dX7_init_1 : decode cX7_init 1 = .ok (.invokespecial 3, 3) := by decide +kernel
theorem dX7_init_4 : decode cX7_init 4 = .ok (.aload_n 0, 1) := by decide +kernel
theorem dX7_init_5 : decode cX7_init 5 = .ok (.sipush 140, 3) := by decide +kernel
theorem dX7_init_8 : decode cX7_init 8 = .ok (.newarray .int, 2) := by decide +kernel
theorem dX7_init_10 : decode cX7_init 10 = .ok (.putfield 11, 3) := by decide +kernel
theorem dX7_init_13 : decode cX7_init 13 = .ok (.aload_n 0, 1) := by decide +kernel
theorem dX7_init_14 : decode cX7_init 14 = .ok (.sipush 141, 3) := by decide +kernel
theorem dX7_init_17 : decode cX7_init 17 = .ok (.newarray .long, 2) := by decide +kernel
theorem dX7_init_19 : decode cX7_init 19 = .ok (.putfield 15, 3) := by decide +kernel
theorem dX7_init_22 : decode cX7_init 22 = .ok (.aload_n 0, 1) := by decide +kernel
theorem dX7_init_23 : decode cX7_init 23 = .ok (.sipush 141, 3) := by decide +kernel
theorem dX7_init_26 : decode cX7_init 26 = .ok (.newarray .long, 2) := by decide +kernel
theorem dX7_init_28 : decode cX7_init 28 = .ok (.putfield 19, 3) := by decide +kernel
theorem dX7_init_31 : decode cX7_init 31 = .ok (.aload_n 0, 1) := by decide +kernel
theorem dX7_init_32 : decode cX7_init 32 = .ok (.iconst 0, 1) := by decide +kernel
theorem dX7_init_33 : decode cX7_init 33 = .ok (.putfield 22, 3) := by decide +kernel
theorem dX7_init_36 : decode cX7_init 36 = .ok (.return_, 1) := by decide +kernel
theorem dX7_cutUp_0 : decode cX7_cutUp 0 = .ok (.aload_n 0, 1) := by decide +kernel
theorem dX7_cutUp_1 : decode cX7_cutUp 1 = .ok (.iconst 0, 1) := by decide +kernel
theorem dX7_cutUp_2 : decode cX7_cutUp 2 = .ok (.putfield 22, 3) := by decide +kernel
theorem dX7_cutUp_5 : decode cX7_cutUp 5 = .ok (.aload_n 1, 1) := by decide +kernel
theorem dX7_cutUp_6 : decode cX7_cutUp 6 = .ok (.getfield 26, 3) := by decide +kernel
theorem dX7_cutUp_9 : decode cX7_cutUp 9 = .ok (.ifCond .ne 4, 3) := by decide +kernel
theorem dX7_cutUp_12 : decode cX7_cutUp 12 = .ok (.return_, 1) := by decide +kernel
theorem dX7_cutUp_13 : decode cX7_cutUp 13 = .ok (.aload_n 0, 1) := by decide +kernel
theorem dX7_cutUp_14 : decode cX7_cutUp 14 = .ok (.iconst 0, 1) := by decide +kernel
theorem dX7_cutUp_15 : decode cX7_cutUp 15 = .ok (.lconst 0, 1) := by decide +kernel
theorem dX7_cutUp_16 : decode cX7_cutUp 16 = .ok (.lconst 1, 1) := by decide +kernel
theorem dX7_cutUp_17 : decode cX7_cutUp 17 = .ok (.invokevirtual 29, 3) := by decide +kernel
theorem dX7_cutUp_20 : decode cX7_cutUp 20 = .ok (.aload_n 1, 1) := by decide +kernel
theorem dX7_cutUp_21 : decode cX7_cutUp 21 = .ok (.invokestatic 33, 3) := by decide +kernel
theorem dX7_cutUp_24 : decode cX7_cutUp 24 = .ok (.istore_n 3, 1) := by decide +kernel
theorem dX7_cutUp_25 : decode cX7_cutUp 25 = .ok (.iload_n 3, 1) := by decide +kernel
theorem dX7_cutUp_26 : decode cX7_cutUp 26 = .ok (.iconst (-1), 1) := by decide +kernel
theorem dX7_cutUp_27 : decode cX7_cutUp 27 = .ok (.if_icmp .eq 44, 3) := by decide +kernel
theorem dX7_cutUp_30 : decode cX7_cutUp 30 = .ok (.aload_n 0, 1) := by decide +kernel
theorem dX7_cutUp_31 : decode cX7_cutUp 31 = .ok (.getfield 22, 3) := by decide +kernel
theorem dX7_cutUp_34 : decode cX7_cutUp 34 = .ok (.sipush 140, 3) := by decide +kernel
theorem dX7_cutUp_37 : decode cX7_cutUp 37 = .ok (.if_icmp .ge 34, 3) := by decide +kernel
theorem dX7_cutUp_40 : decode cX7_cutUp 40 = .ok (.aload_n 0, 1) := by decide +kernel
theorem dX7_cutUp_41 : decode cX7_cutUp 41 = .ok (.getfield 11, 3) := by decide +kernel
theorem dX7_cutUp_44 : decode cX7_cutUp 44 = .ok (.aload_n 0, 1) := by decide +kernel
theorem dX7_cutUp_45 : decode cX7_cutUp 45 = .ok (.getfield 22, 3) := by decide +kernel
theorem dX7_cutUp_48 : decode cX7_cutUp 48 = .ok (.iload_n 3, 1) := by decide +kernel
theorem dX7_cutUp_49 : decode cX7_cutUp 49 = .ok (.iastore, 1) := by decide +kernel
theorem dX7_cutUp_50 : decode cX7_cutUp 50 = .ok (.aload_n 0, 1) := by decide +kernel
theorem dX7_cutUp_51 : decode cX7_cutUp 51 = .ok (.dup, 1) := by decide +kernel
theorem dX7_cutUp_52 : decode cX7_cutUp 52 = .ok (.getfield 22, 3) := by decide +kernel
theorem dX7_cutUp_55 : decode cX7_cutUp 55 = .ok (.iconst 1, 1) := by decide +kernel
theorem dX7_cutUp_56 : decode cX7_cutUp 56 = .ok (.iadd, 1) := by decide +kernel
theorem dX7_cutUp_57 : decode cX7_cutUp 57 = .ok (.putfield 22, 3) := by decide +kernel
theorem dX7_cutUp_60 : decode cX7_cutUp 60 = .ok (.aload_n 0, 1) := by decide +kernel
theorem dX7_cutUp_61 : decode cX7_cutUp 61 = .ok (.aload_n 1, 1) := by decide +kernel
theorem dX7_cutUp_62 : decode cX7_cutUp 62 = .ok (.iload_n 3, 1) := by decide +kernel
theorem dX7_cutUp_63 : decode cX7_cutUp 63 = .ok (.iload_n 2, 1) := by decide +kernel
theorem dX7_cutUp_64 : decode cX7_cutUp 64 = .ok (.invokevirtual 37, 3) := by decide +kernel
theorem dX7_cutUp_67 : decode cX7_cutUp 67 = .ok (.istore_n 3, 1) := by decide +kernel
theorem dX7_cutUp_68 : decode cX7_cutUp 68 = .ok (.goto (-43), 3) := by decide +kernel
theorem dX7_cutUp_71 : decode cX7_cutUp 71 = .ok (.aload_n 0, 1) := by decide +kernel
theorem dX7_cutUp_72 : decode cX7_cutUp 72 = .ok (.aload_n 0, 1) := by decide +kernel
theorem dX7_cutUp_73 : decode cX7_cutUp 73 = .ok (.getfield 22, 3) := by decide +kernel
theorem dX7_cutUp_76 : decode cX7_cutUp 76 = .ok (.iload_n 2, 1) := by decide +kernel
theorem dX7_cutUp_77 : decode cX7_cutUp 77 = .ok (.i2l, 1) := by decide +kernel
theorem dX7_cutUp_78 : decode cX7_cutUp 78 = .ok (.lconst 1, 1) := by decide +kernel
theorem dX7_cutUp_79 : decode cX7_cutUp 79 = .ok (.invokevirtual 29, 3) := by decide +kernel
theorem dX7_cutUp_82 : decode cX7_cutUp 82 = .ok (.return_, 1) := by decide +kernel
theorem dX7_setEnd_0 : decode cX7_setEnd 0 = .ok (.aload_n 0, 1) := by decide +kernel
theorem dX7_setEnd_1 : decode cX7_setEnd 1 = .ok (.getfield 15, 3) := by decide +kernel
theorem dX7_setEnd_4 : decode cX7_setEnd 4 = .ok (.iload_n 1, 1) := by decide +kernel
theorem dX7_setEnd_5 : decode cX7_setEnd 5 = .ok (.lload_n 2, 1) := by decide +kernel
theorem dX7_setEnd_6 : decode cX7_setEnd 6 = .ok (.lastore, 1) := by decide +kernel
theorem dX7_setEnd_7 : decode cX7_setEnd 7 = .ok (.aload_n 0, 1) := by decide +kernel
theorem dX7_setEnd_8 : decode cX7_setEnd 8 = .ok (.getfield 19, 3) := by decide +kernel
theorem dX7_setEnd_11 : decode cX7_setEnd 11 = .ok (.iload_n 1, 1) := by decide +kernel
theorem dX7_setEnd_12 : decode cX7_setEnd 12 = .ok (.lload 4, 2) := by decide +kernel
theorem dX7_setEnd_14 : decode cX7_setEnd 14 = .ok (.lastore, 1) := by decide +kernel
theorem dX7_setEnd_15 : decode cX7_setEnd 15 = .ok (.return_, 1) := by decide +kernel
theorem dX7_firstPlan_0 : decode cX7_firstPlan 0 = .ok (.iconst 0, 1) := by decide +kernel
theorem dX7_firstPlan_1 : decode cX7_firstPlan 1 = .ok (.istore_n 1, 1) := by decide +kernel
theorem dX7_firstPlan_2 : decode cX7_firstPlan 2 = .ok (.iconst 1, 1) := by decide +kernel
theorem dX7_firstPlan_3 : decode cX7_firstPlan 3 = .ok (.istore_n 2, 1) := by decide +kernel
theorem dX7_firstPlan_4 : decode cX7_firstPlan 4 = .ok (.iload_n 2, 1) := by decide +kernel
theorem dX7_firstPlan_5 : decode cX7_firstPlan 5 = .ok (.aload_n 0, 1) := by decide +kernel
theorem dX7_firstPlan_6 : decode cX7_firstPlan 6 = .ok (.getfield 26, 3) := by decide +kernel
theorem dX7_firstPlan_9 : decode cX7_firstPlan 9 = .ok (.if_icmp .ge 63, 3) := by decide +kernel
theorem dX7_firstPlan_12 : decode cX7_firstPlan 12 = .ok (.aload_n 0, 1) := by decide +kernel
theorem dX7_firstPlan_13 : decode cX7_firstPlan 13 = .ok (.getfield 41, 3) := by decide +kernel
theorem dX7_firstPlan_16 : decode cX7_firstPlan 16 = .ok (.aload_n 0, 1) := by decide +kernel
theorem dX7_firstPlan_17 : decode cX7_firstPlan 17 = .ok (.getfield 44, 3) := by decide +kernel
theorem dX7_firstPlan_20 : decode cX7_firstPlan 20 = .ok (.iload_n 2, 1) := by decide +kernel
theorem dX7_firstPlan_21 : decode cX7_firstPlan 21 = .ok (.iaload, 1) := by decide +kernel
theorem dX7_firstPlan_22 : decode cX7_firstPlan 22 = .ok (.aload_n 0, 1) := by decide +kernel
theorem dX7_firstPlan_23 : decode cX7_firstPlan 23 = .ok (.getfield 44, 3) := by decide +kernel
theorem dX7_firstPlan_26 : decode cX7_firstPlan 26 = .ok (.iload_n 1, 1) := by decide +kernel
theorem dX7_firstPlan_27 : decode cX7_firstPlan 27 = .ok (.iaload, 1) := by decide +kernel
theorem dX7_firstPlan_28 : decode cX7_firstPlan 28 = .ok (.isub, 1) := by decide +kernel
theorem dX7_firstPlan_29 : decode cX7_firstPlan 29 = .ok (.imul, 1) := by decide +kernel
theorem dX7_firstPlan_30 : decode cX7_firstPlan 30 = .ok (.istore_n 3, 1) := by decide +kernel
theorem dX7_firstPlan_31 : decode cX7_firstPlan 31 = .ok (.aload_n 0, 1) := by decide +kernel
theorem dX7_firstPlan_32 : decode cX7_firstPlan 32 = .ok (.getfield 41, 3) := by decide +kernel
theorem dX7_firstPlan_35 : decode cX7_firstPlan 35 = .ok (.aload_n 0, 1) := by decide +kernel
theorem dX7_firstPlan_36 : decode cX7_firstPlan 36 = .ok (.getfield 47, 3) := by decide +kernel
theorem dX7_firstPlan_39 : decode cX7_firstPlan 39 = .ok (.iload_n 2, 1) := by decide +kernel
theorem dX7_firstPlan_40 : decode cX7_firstPlan 40 = .ok (.iaload, 1) := by decide +kernel
theorem dX7_firstPlan_41 : decode cX7_firstPlan 41 = .ok (.aload_n 0, 1) := by decide +kernel
theorem dX7_firstPlan_42 : decode cX7_firstPlan 42 = .ok (.getfield 47, 3) := by decide +kernel
theorem dX7_firstPlan_45 : decode cX7_firstPlan 45 = .ok (.iload_n 1, 1) := by decide +kernel
theorem dX7_firstPlan_46 : decode cX7_firstPlan 46 = .ok (.iaload, 1) := by decide +kernel
theorem dX7_firstPlan_47 : decode cX7_firstPlan 47 = .ok (.isub, 1) := by decide +kernel
theorem dX7_firstPlan_48 : decode cX7_firstPlan 48 = .ok (.imul, 1) := by decide +kernel
theorem dX7_firstPlan_49 : decode cX7_firstPlan 49 = .ok (.istore 4, 2) := by decide +kernel
theorem dX7_firstPlan_51 : decode cX7_firstPlan 51 = .ok (.iload_n 3, 1) := by decide +kernel
theorem dX7_firstPlan_52 : decode cX7_firstPlan 52 = .ok (.ifCond .lt 12, 3) := by decide +kernel
theorem dX7_firstPlan_55 : decode cX7_firstPlan 55 = .ok (.iload_n 3, 1) := by decide +kernel
theorem dX7_firstPlan_56 : decode cX7_firstPlan 56 = .ok (.ifCond .ne 10, 3) := by decide +kernel
theorem dX7_firstPlan_59 : decode cX7_firstPlan 59 = .ok (.iload 4, 2) := by decide +kernel
theorem dX7_firstPlan_61 : decode cX7_firstPlan 61 = .ok (.ifCond .ge 5, 3) := by decide +kernel
theorem dX7_firstPlan_64 : decode cX7_firstPlan 64 = .ok (.iload_n 2, 1) := by decide +kernel
theorem dX7_firstPlan_65 : decode cX7_firstPlan 65 = .ok (.istore_n 1, 1) := by decide +kernel
theorem dX7_firstPlan_66 : decode cX7_firstPlan 66 = .ok (.iinc 2 1, 3) := by decide +kernel
theorem dX7_firstPlan_69 : decode cX7_firstPlan 69 = .ok (.goto (-65), 3) := by decide +kernel
theorem dX7_firstPlan_72 : decode cX7_firstPlan 72 = .ok (.iload_n 1, 1) := by decide +kernel
theorem dX7_firstPlan_73 : decode cX7_firstPlan 73 = .ok (.ireturn, 1) := by decide +kernel
theorem dX7_nextPlan_0 : decode cX7_nextPlan 0 = .ok (.iconst (-1), 1) := by decide +kernel
theorem dX7_nextPlan_1 : decode cX7_nextPlan 1 = .ok (.istore 4, 2) := by decide +kernel
theorem dX7_nextPlan_3 : decode cX7_nextPlan 3 = .ok (.iload_n 3, 1) := by decide +kernel
theorem dX7_nextPlan_4 : decode cX7_nextPlan 4 = .ok (.i2l, 1) := by decide +kernel
theorem dX7_nextPlan_5 : decode cX7_nextPlan 5 = .ok (.lstore 5, 2) := by decide +kernel
theorem dX7_nextPlan_7 : decode cX7_nextPlan 7 = .ok (.lconst 1, 1) := by decide +kernel
theorem dX7_nextPlan_8 : decode cX7_nextPlan 8 = .ok (.lstore 7, 2) := by decide +kernel
theorem dX7_nextPlan_10 : decode cX7_nextPlan 10 = .ok (.iconst 0, 1) := by decide +kernel
theorem dX7_nextPlan_11 : decode cX7_nextPlan 11 = .ok (.istore 9, 2) := by decide +kernel
theorem dX7_nextPlan_13 : decode cX7_nextPlan 13 = .ok (.iload 9, 2) := by decide +kernel
theorem dX7_nextPlan_15 : decode cX7_nextPlan 15 = .ok (.aload_n 1, 1) := by decide +kernel
theorem dX7_nextPlan_16 : decode cX7_nextPlan 16 = .ok (.getfield 26, 3) := by decide +kernel
theorem dX7_nextPlan_19 : decode cX7_nextPlan 19 = .ok (.if_icmp .ge 119, 3) := by decide +kernel
theorem dX7_nextPlan_22 : decode cX7_nextPlan 22 = .ok (.aload_n 1, 1) := by decide +kernel
theorem dX7_nextPlan_23 : decode cX7_nextPlan 23 = .ok (.getfield 41, 3) := by decide +kernel
theorem dX7_nextPlan_26 : decode cX7_nextPlan 26 = .ok (.aload_n 1, 1) := by decide +kernel
theorem dX7_nextPlan_27 : decode cX7_nextPlan 27 = .ok (.getfield 47, 3) := by decide +kernel
theorem dX7_nextPlan_30 : decode cX7_nextPlan 30 = .ok (.iload_n 2, 1) := by decide +kernel
theorem dX7_nextPlan_31 : decode cX7_nextPlan 31 = .ok (.iaload, 1) := by decide +kernel
theorem dX7_nextPlan_32 : decode cX7_nextPlan 32 = .ok (.aload_n 1, 1) := by decide +kernel
theorem dX7_nextPlan_33 : decode cX7_nextPlan 33 = .ok (.getfield 47, 3) := by decide +kernel
theorem dX7_nextPlan_36 : decode cX7_nextPlan 36 = .ok (.iload 9, 2) := by decide +kernel
theorem dX7_nextPlan_38 : decode cX7_nextPlan 38 = .ok (.iaload, 1) := by decide +kernel
theorem dX7_nextPlan_39 : decode cX7_nextPlan 39 = .ok (.isub, 1) := by decide +kernel
theorem dX7_nextPlan_40 : decode cX7_nextPlan 40 = .ok (.imul, 1) := by decide +kernel
theorem dX7_nextPlan_41 : decode cX7_nextPlan 41 = .ok (.i2l, 1) := by decide +kernel
theorem dX7_nextPlan_42 : decode cX7_nextPlan 42 = .ok (.lstore 10, 2) := by decide +kernel
theorem dX7_nextPlan_44 : decode cX7_nextPlan 44 = .ok (.lload 10, 2) := by decide +kernel
theorem dX7_nextPlan_46 : decode cX7_nextPlan 46 = .ok (.lconst 0, 1) := by decide +kernel
theorem dX7_nextPlan_47 : decode cX7_nextPlan 47 = .ok (.lcmp, 1) := by decide +kernel
theorem dX7_nextPlan_48 : decode cX7_nextPlan 48 = .ok (.ifCond .gt 6, 3) := by decide +kernel
theorem dX7_nextPlan_51 : decode cX7_nextPlan 51 = .ok (.goto 81, 3) := by decide +kernel
theorem dX7_nextPlan_54 : decode cX7_nextPlan 54 = .ok (.aload_n 1, 1) := by decide +kernel
theorem dX7_nextPlan_55 : decode cX7_nextPlan 55 = .ok (.getfield 41, 3) := by decide +kernel
theorem dX7_nextPlan_58 : decode cX7_nextPlan 58 = .ok (.aload_n 1, 1) := by decide +kernel
theorem dX7_nextPlan_59 : decode cX7_nextPlan 59 = .ok (.getfield 44, 3) := by decide +kernel
theorem dX7_nextPlan_62 : decode cX7_nextPlan 62 = .ok (.iload 9, 2) := by decide +kernel
theorem dX7_nextPlan_64 : decode cX7_nextPlan 64 = .ok (.iaload, 1) := by decide +kernel
theorem dX7_nextPlan_65 : decode cX7_nextPlan 65 = .ok (.aload_n 1, 1) := by decide +kernel
theorem dX7_nextPlan_66 : decode cX7_nextPlan 66 = .ok (.getfield 44, 3) := by decide +kernel
theorem dX7_nextPlan_69 : decode cX7_nextPlan 69 = .ok (.iload_n 2, 1) := by decide +kernel
theorem dX7_nextPlan_70 : decode cX7_nextPlan 70 = .ok (.iaload, 1) := by decide +kernel
theorem dX7_nextPlan_71 : decode cX7_nextPlan 71 = .ok (.isub, 1) := by decide +kernel
theorem dX7_nextPlan_72 : decode cX7_nextPlan 72 = .ok (.imul, 1) := by decide +kernel
theorem dX7_nextPlan_73 : decode cX7_nextPlan 73 = .ok (.i2l, 1) := by decide +kernel
theorem dX7_nextPlan_74 : decode cX7_nextPlan 74 = .ok (.lstore 12, 2) := by decide +kernel
theorem dX7_nextPlan_76 : decode cX7_nextPlan 76 = .ok (.lload 12, 2) := by decide +kernel
theorem dX7_nextPlan_78 : decode cX7_nextPlan 78 = .ok (.lload 7, 2) := by decide +kernel
theorem dX7_nextPlan_80 : decode cX7_nextPlan 80 = .ok (.lmul, 1) := by decide +kernel
theorem dX7_nextPlan_81 : decode cX7_nextPlan 81 = .ok (.lload 5, 2) := by decide +kernel
theorem dX7_nextPlan_83 : decode cX7_nextPlan 83 = .ok (.lload 10, 2) := by decide +kernel
theorem dX7_nextPlan_85 : decode cX7_nextPlan 85 = .ok (.lmul, 1) := by decide +kernel
theorem dX7_nextPlan_86 : decode cX7_nextPlan 86 = .ok (.lsub, 1) := by decide +kernel
theorem dX7_nextPlan_87 : decode cX7_nextPlan 87 = .ok (.lstore 14, 2) := by decide +kernel
theorem dX7_nextPlan_89 : decode cX7_nextPlan 89 = .ok (.lload 14, 2) := by decide +kernel
theorem dX7_nextPlan_91 : decode cX7_nextPlan 91 = .ok (.lconst 0, 1) := by decide +kernel
theorem dX7_nextPlan_92 : decode cX7_nextPlan 92 = .ok (.lcmp, 1) := by decide +kernel
theorem dX7_nextPlan_93 : decode cX7_nextPlan 93 = .ok (.ifCond .gt 39, 3) := by decide +kernel
theorem dX7_nextPlan_96 : decode cX7_nextPlan 96 = .ok (.lload 14, 2) := by decide +kernel
theorem dX7_nextPlan_98 : decode cX7_nextPlan 98 = .ok (.lconst 0, 1) := by decide +kernel
theorem dX7_nextPlan_99 : decode cX7_nextPlan 99 = .ok (.lcmp, 1) := by decide +kernel
theorem dX7_nextPlan_100 : decode cX7_nextPlan 100 = .ok (.ifCond .ne 20, 3) := by decide +kernel
theorem dX7_nextPlan_103 : decode cX7_nextPlan 103 = .ok (.iload 4, 2) := by decide +kernel
theorem dX7_nextPlan_105 : decode cX7_nextPlan 105 = .ok (.iconst (-1), 1) := by decide +kernel
theorem dX7_nextPlan_106 : decode cX7_nextPlan 106 = .ok (.if_icmp .eq 26, 3) := by decide +kernel
theorem dX7_nextPlan_109 : decode cX7_nextPlan 109 = .ok (.lload 10, 2) := by decide +kernel
theorem dX7_nextPlan_111 : decode cX7_nextPlan 111 = .ok (.lload 7, 2) := by decide +kernel
theorem dX7_nextPlan_113 : decode cX7_nextPlan 113 = .ok (.lcmp, 1) := by decide +kernel
theorem dX7_nextPlan_114 : decode cX7_nextPlan 114 = .ok (.ifCond .gt 6, 3) := by decide +kernel
theorem dX7_nextPlan_117 : decode cX7_nextPlan 117 = .ok (.goto 15, 3) := by decide +kernel
theorem dX7_nextPlan_120 : decode cX7_nextPlan 120 = .ok (.iload 9, 2) := by decide +kernel
theorem dX7_nextPlan_122 : decode cX7_nextPlan 122 = .ok (.istore 4, 2) := by decide +kernel
theorem dX7_nextPlan_124 : decode cX7_nextPlan 124 = .ok (.lload 12, 2) := by decide +kernel
theorem dX7_nextPlan_126 : decode cX7_nextPlan 126 = .ok (.lstore 5, 2) := by decide +kernel
theorem dX7_nextPlan_128 : decode cX7_nextPlan 128 = .ok (.lload 10, 2) := by decide +kernel
theorem dX7_nextPlan_130 : decode cX7_nextPlan 130 = .ok (.lstore 7, 2) := by decide +kernel
theorem dX7_nextPlan_132 : decode cX7_nextPlan 132 = .ok (.iinc 9 1, 3) := by decide +kernel
theorem dX7_nextPlan_135 : decode cX7_nextPlan 135 = .ok (.goto (-122), 3) := by decide +kernel
theorem dX7_nextPlan_138 : decode cX7_nextPlan 138 = .ok (.iload 4, 2) := by decide +kernel
theorem dX7_nextPlan_140 : decode cX7_nextPlan 140 = .ok (.iconst (-1), 1) := by decide +kernel
theorem dX7_nextPlan_141 : decode cX7_nextPlan 141 = .ok (.if_icmp .eq 15, 3) := by decide +kernel
theorem dX7_nextPlan_144 : decode cX7_nextPlan 144 = .ok (.aload_n 0, 1) := by decide +kernel
theorem dX7_nextPlan_145 : decode cX7_nextPlan 145 = .ok (.aload_n 0, 1) := by decide +kernel
theorem dX7_nextPlan_146 : decode cX7_nextPlan 146 = .ok (.getfield 22, 3) := by decide +kernel
theorem dX7_nextPlan_149 : decode cX7_nextPlan 149 = .ok (.lload 5, 2) := by decide +kernel
theorem dX7_nextPlan_151 : decode cX7_nextPlan 151 = .ok (.lload 7, 2) := by decide +kernel
theorem dX7_nextPlan_153 : decode cX7_nextPlan 153 = .ok (.invokevirtual 29, 3) := by decide +kernel
theorem dX7_nextPlan_156 : decode cX7_nextPlan 156 = .ok (.iload 4, 2) := by decide +kernel
theorem dX7_nextPlan_158 : decode cX7_nextPlan 158 = .ok (.ireturn, 1) := by decide +kernel
theorem dX7_bestSumAt_0 : decode cX7_bestSumAt 0 = .ok (.aload_n 0, 1) := by decide +kernel
theorem dX7_bestSumAt_1 : decode cX7_bestSumAt 1 = .ok (.getfield 11, 3) := by decide +kernel
theorem dX7_bestSumAt_4 : decode cX7_bestSumAt 4 = .ok (.iconst 0, 1) := by decide +kernel
theorem dX7_bestSumAt_5 : decode cX7_bestSumAt 5 = .ok (.iload_n 2, 1) := by decide +kernel
theorem dX7_bestSumAt_6 : decode cX7_bestSumAt 6 = .ok (.aload_n 0, 1) := by decide +kernel
theorem dX7_bestSumAt_7 : decode cX7_bestSumAt 7 = .ok (.getfield 22, 3) := by decide +kernel
theorem dX7_bestSumAt_10 : decode cX7_bestSumAt 10 = .ok (.iconst 1, 1) := by decide +kernel
theorem dX7_bestSumAt_11 : decode cX7_bestSumAt 11 = .ok (.isub, 1) := by decide +kernel
theorem dX7_bestSumAt_12 : decode cX7_bestSumAt 12 = .ok (.invokestatic 50, 3) := by decide +kernel
theorem dX7_bestSumAt_15 : decode cX7_bestSumAt 15 = .ok (.invokestatic 56, 3) := by decide +kernel
theorem dX7_bestSumAt_18 : decode cX7_bestSumAt 18 = .ok (.iaload, 1) := by decide +kernel
theorem dX7_bestSumAt_19 : decode cX7_bestSumAt 19 = .ok (.istore_n 3, 1) := by decide +kernel
theorem dX7_bestSumAt_20 : decode cX7_bestSumAt 20 = .ok (.aload_n 1, 1) := by decide +kernel
theorem dX7_bestSumAt_21 : decode cX7_bestSumAt 21 = .ok (.iload_n 3, 1) := by decide +kernel
theorem dX7_bestSumAt_22 : decode cX7_bestSumAt 22 = .ok (.aload_n 0, 1) := by decide +kernel
theorem dX7_bestSumAt_23 : decode cX7_bestSumAt 23 = .ok (.getfield 15, 3) := by decide +kernel
theorem dX7_bestSumAt_26 : decode cX7_bestSumAt 26 = .ok (.iload_n 2, 1) := by decide +kernel
theorem dX7_bestSumAt_27 : decode cX7_bestSumAt 27 = .ok (.laload, 1) := by decide +kernel
theorem dX7_bestSumAt_28 : decode cX7_bestSumAt 28 = .ok (.aload_n 0, 1) := by decide +kernel
theorem dX7_bestSumAt_29 : decode cX7_bestSumAt 29 = .ok (.getfield 19, 3) := by decide +kernel
theorem dX7_bestSumAt_32 : decode cX7_bestSumAt 32 = .ok (.iload_n 2, 1) := by decide +kernel
theorem dX7_bestSumAt_33 : decode cX7_bestSumAt 33 = .ok (.laload, 1) := by decide +kernel
theorem dX7_bestSumAt_34 : decode cX7_bestSumAt 34 = .ok (.invokevirtual 59, 3) := by decide +kernel
theorem dX7_bestSumAt_37 : decode cX7_bestSumAt 37 = .ok (.lreturn, 1) := by decide +kernel
theorem dX7_highestEnd_0 : decode cX7_highestEnd 0 = .ok (.iconst 0, 1) := by decide +kernel
theorem dX7_highestEnd_1 : decode cX7_highestEnd 1 = .ok (.istore_n 2, 1) := by decide +kernel
theorem dX7_highestEnd_2 : decode cX7_highestEnd 2 = .ok (.iconst 1, 1) := by decide +kernel
theorem dX7_highestEnd_3 : decode cX7_highestEnd 3 = .ok (.istore_n 3, 1) := by decide +kernel
theorem dX7_highestEnd_4 : decode cX7_highestEnd 4 = .ok (.iload_n 3, 1) := by decide +kernel
theorem dX7_highestEnd_5 : decode cX7_highestEnd 5 = .ok (.aload_n 0, 1) := by decide +kernel
theorem dX7_highestEnd_6 : decode cX7_highestEnd 6 = .ok (.getfield 22, 3) := by decide +kernel
theorem dX7_highestEnd_9 : decode cX7_highestEnd 9 = .ok (.if_icmp .gt 41, 3) := by decide +kernel
theorem dX7_highestEnd_12 : decode cX7_highestEnd 12 = .ok (.aload_n 0, 1) := by decide +kernel
theorem dX7_highestEnd_13 : decode cX7_highestEnd 13 = .ok (.aload_n 1, 1) := by decide +kernel
theorem dX7_highestEnd_14 : decode cX7_highestEnd 14 = .ok (.iload_n 3, 1) := by decide +kernel
theorem dX7_highestEnd_15 : decode cX7_highestEnd 15 = .ok (.invokevirtual 63, 3) := by decide +kernel
theorem dX7_highestEnd_18 : decode cX7_highestEnd 18 = .ok (.aload_n 0, 1) := by decide +kernel
theorem dX7_highestEnd_19 : decode cX7_highestEnd 19 = .ok (.getfield 19, 3) := by decide +kernel
theorem dX7_highestEnd_22 : decode cX7_highestEnd 22 = .ok (.iload_n 2, 1) := by decide +kernel
theorem dX7_highestEnd_23 : decode cX7_highestEnd 23 = .ok (.laload, 1) := by decide +kernel
theorem dX7_highestEnd_24 : decode cX7_highestEnd 24 = .ok (.lmul, 1) := by decide +kernel
theorem dX7_highestEnd_25 : decode cX7_highestEnd 25 = .ok (.aload_n 0, 1) := by decide +kernel
theorem dX7_highestEnd_26 : decode cX7_highestEnd 26 = .ok (.aload_n 1, 1) := by decide +kernel
theorem dX7_highestEnd_27 : decode cX7_highestEnd 27 = .ok (.iload_n 2, 1) := by decide +kernel
theorem dX7_highestEnd_28 : decode cX7_highestEnd 28 = .ok (.invokevirtual 63, 3) := by decide +kernel
theorem dX7_highestEnd_31 : decode cX7_highestEnd 31 = .ok (.aload_n 0, 1) := by decide +kernel
theorem dX7_highestEnd_32 : decode cX7_highestEnd 32 = .ok (.getfield 19, 3) := by decide +kernel
theorem dX7_highestEnd_35 : decode cX7_highestEnd 35 = .ok (.iload_n 3, 1) := by decide +kernel
theorem dX7_highestEnd_36 : decode cX7_highestEnd 36 = .ok (.laload, 1) := by decide +kernel
theorem dX7_highestEnd_37 : decode cX7_highestEnd 37 = .ok (.lmul, 1) := by decide +kernel
theorem dX7_highestEnd_38 : decode cX7_highestEnd 38 = .ok (.lcmp, 1) := by decide +kernel
theorem dX7_highestEnd_39 : decode cX7_highestEnd 39 = .ok (.ifCond .le 5, 3) := by decide +kernel
theorem dX7_highestEnd_42 : decode cX7_highestEnd 42 = .ok (.iload_n 3, 1) := by decide +kernel
theorem dX7_highestEnd_43 : decode cX7_highestEnd 43 = .ok (.istore_n 2, 1) := by decide +kernel
theorem dX7_highestEnd_44 : decode cX7_highestEnd 44 = .ok (.iinc 3 1, 3) := by decide +kernel
theorem dX7_highestEnd_47 : decode cX7_highestEnd 47 = .ok (.goto (-43), 3) := by decide +kernel
theorem dX7_highestEnd_50 : decode cX7_highestEnd 50 = .ok (.iload_n 2, 1) := by decide +kernel
theorem dX7_highestEnd_51 : decode cX7_highestEnd 51 = .ok (.ireturn, 1) := by decide +kernel
theorem dX7_firstEndOf_0 : decode cX7_firstEndOf 0 = .ok (.iconst 0, 1) := by decide +kernel
theorem dX7_firstEndOf_1 : decode cX7_firstEndOf 1 = .ok (.istore_n 3, 1) := by decide +kernel
theorem dX7_firstEndOf_2 : decode cX7_firstEndOf 2 = .ok (.iload_n 3, 1) := by decide +kernel
theorem dX7_firstEndOf_3 : decode cX7_firstEndOf 3 = .ok (.aload_n 0, 1) := by decide +kernel
theorem dX7_firstEndOf_4 : decode cX7_firstEndOf 4 = .ok (.getfield 22, 3) := by decide +kernel
theorem dX7_firstEndOf_7 : decode cX7_firstEndOf 7 = .ok (.if_icmp .gt 21, 3) := by decide +kernel
theorem dX7_firstEndOf_10 : decode cX7_firstEndOf 10 = .ok (.aload_n 0, 1) := by decide +kernel
theorem dX7_firstEndOf_11 : decode cX7_firstEndOf 11 = .ok (.aload_n 1, 1) := by decide +kernel
theorem dX7_firstEndOf_12 : decode cX7_firstEndOf 12 = .ok (.iload_n 2, 1) := by decide +kernel
theorem dX7_firstEndOf_13 : decode cX7_firstEndOf 13 = .ok (.iload_n 3, 1) := by decide +kernel
theorem dX7_firstEndOf_14 : decode cX7_firstEndOf 14 = .ok (.invokevirtual 67, 3) := by decide +kernel
theorem dX7_firstEndOf_17 : decode cX7_firstEndOf 17 = .ok (.ifCond .eq 5, 3) := by decide +kernel
theorem dX7_firstEndOf_20 : decode cX7_firstEndOf 20 = .ok (.iload_n 3, 1) := by decide +kernel
theorem dX7_firstEndOf_21 : decode cX7_firstEndOf 21 = .ok (.ireturn, 1) := by decide +kernel
theorem dX7_firstEndOf_22 : decode cX7_firstEndOf 22 = .ok (.iinc 3 1, 3) := by decide +kernel
theorem dX7_firstEndOf_25 : decode cX7_firstEndOf 25 = .ok (.goto (-23), 3) := by decide +kernel
theorem dX7_firstEndOf_28 : decode cX7_firstEndOf 28 = .ok (.iconst (-1), 1) := by decide +kernel
theorem dX7_firstEndOf_29 : decode cX7_firstEndOf 29 = .ok (.ireturn, 1) := by decide +kernel
theorem dX7_lastEndOf_0 : decode cX7_lastEndOf 0 = .ok (.aload_n 0, 1) := by decide +kernel
theorem dX7_lastEndOf_1 : decode cX7_lastEndOf 1 = .ok (.getfield 22, 3) := by decide +kernel
theorem dX7_lastEndOf_4 : decode cX7_lastEndOf 4 = .ok (.istore_n 3, 1) := by decide +kernel
theorem dX7_lastEndOf_5 : decode cX7_lastEndOf 5 = .ok (.iload_n 3, 1) := by decide +kernel
theorem dX7_lastEndOf_6 : decode cX7_lastEndOf 6 = .ok (.ifCond .lt 21, 3) := by decide +kernel
theorem dX7_lastEndOf_9 : decode cX7_lastEndOf 9 = .ok (.aload_n 0, 1) := by decide +kernel
theorem dX7_lastEndOf_10 : decode cX7_lastEndOf 10 = .ok (.aload_n 1, 1) := by decide +kernel
theorem dX7_lastEndOf_11 : decode cX7_lastEndOf 11 = .ok (.iload_n 2, 1) := by decide +kernel
theorem dX7_lastEndOf_12 : decode cX7_lastEndOf 12 = .ok (.iload_n 3, 1) := by decide +kernel
theorem dX7_lastEndOf_13 : decode cX7_lastEndOf 13 = .ok (.invokevirtual 67, 3) := by decide +kernel
theorem dX7_lastEndOf_16 : decode cX7_lastEndOf 16 = .ok (.ifCond .eq 5, 3) := by decide +kernel
theorem dX7_lastEndOf_19 : decode cX7_lastEndOf 19 = .ok (.iload_n 3, 1) := by decide +kernel
theorem dX7_lastEndOf_20 : decode cX7_lastEndOf 20 = .ok (.ireturn, 1) := by decide +kernel
theorem dX7_lastEndOf_21 : decode cX7_lastEndOf 21 = .ok (.iinc 3 (-1), 3) := by decide +kernel
theorem dX7_lastEndOf_24 : decode cX7_lastEndOf 24 = .ok (.goto (-19), 3) := by decide +kernel
theorem dX7_lastEndOf_27 : decode cX7_lastEndOf 27 = .ok (.iconst (-1), 1) := by decide +kernel
theorem dX7_lastEndOf_28 : decode cX7_lastEndOf 28 = .ok (.ireturn, 1) := by decide +kernel
theorem dX7_isBestAtEnd_0 : decode cX7_isBestAtEnd 0 = .ok (.aload_n 1, 1) := by decide +kernel
theorem dX7_isBestAtEnd_1 : decode cX7_isBestAtEnd 1 = .ok (.iload_n 2, 1) := by decide +kernel
theorem dX7_isBestAtEnd_2 : decode cX7_isBestAtEnd 2 = .ok (.aload_n 0, 1) := by decide +kernel
theorem dX7_isBestAtEnd_3 : decode cX7_isBestAtEnd 3 = .ok (.getfield 15, 3) := by decide +kernel
theorem dX7_isBestAtEnd_6 : decode cX7_isBestAtEnd 6 = .ok (.iload_n 3, 1) := by decide +kernel
theorem dX7_isBestAtEnd_7 : decode cX7_isBestAtEnd 7 = .ok (.laload, 1) := by decide +kernel
theorem dX7_isBestAtEnd_8 : decode cX7_isBestAtEnd 8 = .ok (.aload_n 0, 1) := by decide +kernel
theorem dX7_isBestAtEnd_9 : decode cX7_isBestAtEnd 9 = .ok (.getfield 19, 3) := by decide +kernel
theorem dX7_isBestAtEnd_12 : decode cX7_isBestAtEnd 12 = .ok (.iload_n 3, 1) := by decide +kernel
theorem dX7_isBestAtEnd_13 : decode cX7_isBestAtEnd 13 = .ok (.laload, 1) := by decide +kernel
theorem dX7_isBestAtEnd_14 : decode cX7_isBestAtEnd 14 = .ok (.invokevirtual 59, 3) := by decide +kernel
theorem dX7_isBestAtEnd_17 : decode cX7_isBestAtEnd 17 = .ok (.aload_n 0, 1) := by decide +kernel
theorem dX7_isBestAtEnd_18 : decode cX7_isBestAtEnd 18 = .ok (.aload_n 1, 1) := by decide +kernel
theorem dX7_isBestAtEnd_19 : decode cX7_isBestAtEnd 19 = .ok (.iload_n 3, 1) := by decide +kernel
theorem dX7_isBestAtEnd_20 : decode cX7_isBestAtEnd 20 = .ok (.invokevirtual 63, 3) := by decide +kernel
theorem dX7_isBestAtEnd_23 : decode cX7_isBestAtEnd 23 = .ok (.lcmp, 1) := by decide +kernel
theorem dX7_isBestAtEnd_24 : decode cX7_isBestAtEnd 24 = .ok (.ifCond .ne 7, 3) := by decide +kernel
theorem dX7_isBestAtEnd_27 : decode cX7_isBestAtEnd 27 = .ok (.iconst 1, 1) := by decide +kernel
theorem dX7_isBestAtEnd_28 : decode cX7_isBestAtEnd 28 = .ok (.goto 4, 3) := by decide +kernel
theorem dX7_isBestAtEnd_31 : decode cX7_isBestAtEnd 31 = .ok (.iconst 0, 1) := by decide +kernel
theorem dX7_isBestAtEnd_32 : decode cX7_isBestAtEnd 32 = .ok (.ireturn, 1) := by decide +kernel
theorem dX8_init_0 : decode cX8_init 0 = .ok (.aload_n 0, 1) := by decide +kernel
theorem dX8_init_1 : decode cX8_init 1 = .ok (.invokespecial 3, 3) := by decide +kernel
theorem dX8_init_4 : decode cX8_init 4 = .ok (.aload_n 0, 1) := by decide +kernel
theorem dX8_init_5 : decode cX8_init 5 = .ok (.sipush 2002, 3) := by decide +kernel
theorem dX8_init_8 : decode cX8_init 8 = .ok (.newarray .int, 2) := by decide +kernel
theorem dX8_init_10 : decode cX8_init 10 = .ok (.putfield 11, 3) := by decide +kernel
theorem dX8_init_13 : decode cX8_init 13 = .ok (.aload_n 0, 1) := by decide +kernel
theorem dX8_init_14 : decode cX8_init 14 = .ok (.sipush 2002, 3) := by decide +kernel
theorem dX8_init_17 : decode cX8_init 17 = .ok (.newarray .int, 2) := by decide +kernel
theorem dX8_init_19 : decode cX8_init 19 = .ok (.putfield 15, 3) := by decide +kernel
theorem dX8_init_22 : decode cX8_init 22 = .ok (.aload_n 0, 1) := by decide +kernel
theorem dX8_init_23 : decode cX8_init 23 = .ok (.sipush 2002, 3) := by decide +kernel
theorem dX8_init_26 : decode cX8_init 26 = .ok (.newarray .int, 2) := by decide +kernel
theorem dX8_init_28 : decode cX8_init 28 = .ok (.putfield 18, 3) := by decide +kernel
theorem dX8_init_31 : decode cX8_init 31 = .ok (.aload_n 0, 1) := by decide +kernel
theorem dX8_init_32 : decode cX8_init 32 = .ok (.iconst 0, 1) := by decide +kernel
theorem dX8_init_33 : decode cX8_init 33 = .ok (.putfield 21, 3) := by decide +kernel
theorem dX8_init_36 : decode cX8_init 36 = .ok (.aload_n 0, 1) := by decide +kernel
theorem dX8_init_37 : decode cX8_init 37 = .ok (.iconst 1, 1) := by decide +kernel
theorem dX8_init_38 : decode cX8_init 38 = .ok (.putfield 25, 3) := by decide +kernel
theorem dX8_init_41 : decode cX8_init 41 = .ok (.return_, 1) := by decide +kernel
theorem dX8_restart_0 : decode cX8_restart 0 = .ok (.aload_n 0, 1) := by decide +kernel
theorem dX8_restart_1 : decode cX8_restart 1 = .ok (.iconst 0, 1) := by decide +kernel
theorem dX8_restart_2 : decode cX8_restart 2 = .ok (.putfield 21, 3) := by decide +kernel
theorem dX8_restart_5 : decode cX8_restart 5 = .ok (.aload_n 0, 1) := by decide +kernel
theorem dX8_restart_6 : decode cX8_restart 6 = .ok (.iload_n 1, 1) := by decide +kernel
theorem dX8_restart_7 : decode cX8_restart 7 = .ok (.putfield 25, 3) := by decide +kernel
theorem dX8_restart_10 : decode cX8_restart 10 = .ok (.return_, 1) := by decide +kernel
theorem dX8_insert_0 : decode cX8_insert 0 = .ok (.aload_n 0, 1) := by decide +kernel
theorem dX8_insert_1 : decode cX8_insert 1 = .ok (.getfield 21, 3) := by decide +kernel
theorem dX8_insert_4 : decode cX8_insert 4 = .ok (.sipush 2002, 3) := by decide +kernel
theorem dX8_insert_7 : decode cX8_insert 7 = .ok (.if_icmp .lt 4, 3) := by decide +kernel
theorem dX8_insert_10 : decode cX8_insert 10 = .ok (.return_, 1) := by decide +kernel
theorem dX8_insert_11 : decode cX8_insert 11 = .ok (.aload_n 0, 1) := by decide +kernel
theorem dX8_insert_12 : decode cX8_insert 12 = .ok (.getfield 21, 3) := by decide +kernel
theorem dX8_insert_15 : decode cX8_insert 15 = .ok (.istore_n 2, 1) := by decide +kernel
theorem dX8_insert_16 : decode cX8_insert 16 = .ok (.iload_n 2, 1) := by decide +kernel
theorem dX8_insert_17 : decode cX8_insert 17 = .ok (.ifCond .le 35, 3) := by decide +kernel
theorem dX8_insert_20 : decode cX8_insert 20 = .ok (.aload_n 0, 1) := by decide +kernel
theorem dX8_insert_21 : decode cX8_insert 21 = .ok (.getfield 11, 3) := by decide +kernel
theorem dX8_insert_24 : decode cX8_insert 24 = .ok (.iload_n 2, 1) := by decide +kernel
theorem dX8_insert_25 : decode cX8_insert 25 = .ok (.iconst 1, 1) := by decide +kernel
theorem dX8_insert_26 : decode cX8_insert 26 = .ok (.isub, 1) := by decide +kernel
theorem dX8_insert_27 : decode cX8_insert 27 = .ok (.iaload, 1) := by decide +kernel
theorem dX8_insert_28 : decode cX8_insert 28 = .ok (.iload_n 1, 1) := by decide +kernel
theorem dX8_insert_29 : decode cX8_insert 29 = .ok (.if_icmp .le 23, 3) := by decide +kernel
theorem dX8_insert_32 : decode cX8_insert 32 = .ok (.aload_n 0, 1) := by decide +kernel
theorem dX8_insert_33 : decode cX8_insert 33 = .ok (.getfield 11, 3) := by decide +kernel
theorem dX8_insert_36 : decode cX8_insert 36 = .ok (.iload_n 2, 1) := by decide +kernel
theorem dX8_insert_37 : decode cX8_insert 37 = .ok (.aload_n 0, 1) := by decide +kernel
theorem dX8_insert_38 : decode cX8_insert 38 = .ok (.getfield 11, 3) := by decide +kernel
theorem dX8_insert_41 : decode cX8_insert 41 = .ok (.iload_n 2, 1) := by decide +kernel
theorem dX8_insert_42 : decode cX8_insert 42 = .ok (.iconst 1, 1) := by decide +kernel
theorem dX8_insert_43 : decode cX8_insert 43 = .ok (.isub, 1) := by decide +kernel
theorem dX8_insert_44 : decode cX8_insert 44 = .ok (.iaload, 1) := by decide +kernel
theorem dX8_insert_45 : decode cX8_insert 45 = .ok (.iastore, 1) := by decide +kernel
theorem dX8_insert_46 : decode cX8_insert 46 = .ok (.iinc 2 (-1), 3) := by decide +kernel
theorem dX8_insert_49 : decode cX8_insert 49 = .ok (.goto (-33), 3) := by decide +kernel
theorem dX8_insert_52 : decode cX8_insert 52 = .ok (.aload_n 0, 1) := by decide +kernel
theorem dX8_insert_53 : decode cX8_insert 53 = .ok (.getfield 11, 3) := by decide +kernel
theorem dX8_insert_56 : decode cX8_insert 56 = .ok (.iload_n 2, 1) := by decide +kernel
theorem dX8_insert_57 : decode cX8_insert 57 = .ok (.iload_n 1, 1) := by decide +kernel
theorem dX8_insert_58 : decode cX8_insert 58 = .ok (.iastore, 1) := by decide +kernel
theorem dX8_insert_59 : decode cX8_insert 59 = .ok (.aload_n 0, 1) := by decide +kernel
theorem dX8_insert_60 : decode cX8_insert 60 = .ok (.dup, 1) := by decide +kernel
theorem dX8_insert_61 : decode cX8_insert 61 = .ok (.getfield 21, 3) := by decide +kernel
theorem dX8_insert_64 : decode cX8_insert 64 = .ok (.iconst 1, 1) := by decide +kernel
theorem dX8_insert_65 : decode cX8_insert 65 = .ok (.iadd, 1) := by decide +kernel
theorem dX8_insert_66 : decode cX8_insert 66 = .ok (.putfield 21, 3) := by decide +kernel
theorem dX8_insert_69 : decode cX8_insert 69 = .ok (.return_, 1) := by decide +kernel
theorem dX8_addUpLines_0 : decode cX8_addUpLines 0 = .ok (.iconst 0, 1) := by decide +kernel
theorem dX8_addUpLines_1 : decode cX8_addUpLines 1 = .ok (.istore_n 2, 1) := by decide +kernel
theorem dX8_addUpLines_2 : decode cX8_addUpLines 2 = .ok (.iload_n 2, 1) := by decide +kernel
theorem dX8_addUpLines_3 : decode cX8_addUpLines 3 = .ok (.aload_n 0, 1) := by decide +kernel
theorem dX8_addUpLines_4 : decode cX8_addUpLines 4 = .ok (.getfield 21, 3) := by decide +kernel
theorem dX8_addUpLines_7 : decode cX8_addUpLines 7 = .ok (.if_icmp .ge 85, 3) := by decide +kernel
theorem dX8_addUpLines_10 : decode cX8_addUpLines 10 = .ok (.aload_n 0, 1) := by decide +kernel
theorem dX8_addUpLines_11 : decode cX8_addUpLines 11 = .ok (.getfield 15, 3) := by decide +kernel
theorem dX8_addUpLines_14 : decode cX8_addUpLines 14 = .ok (.iload_n 2, 1) := by decide +kernel
theorem dX8_addUpLines_15 : decode cX8_addUpLines 15 = .ok (.iconst 0, 1) := by decide +kernel
theorem dX8_addUpLines_16 : decode cX8_addUpLines 16 = .ok (.iastore, 1) := by decide +kernel
theorem dX8_addUpLines_17 : decode cX8_addUpLines 17 = .ok (.aload_n 0, 1) := by decide +kernel
theorem dX8_addUpLines_18 : decode cX8_addUpLines 18 = .ok (.getfield 18, 3) := by decide +kernel
theorem dX8_addUpLines_21 : decode cX8_addUpLines 21 = .ok (.iload_n 2, 1) := by decide +kernel
theorem dX8_addUpLines_22 : decode cX8_addUpLines 22 = .ok (.iconst 0, 1) := by decide +kernel
theorem dX8_addUpLines_23 : decode cX8_addUpLines 23 = .ok (.iastore, 1) := by decide +kernel
theorem dX8_addUpLines_24 : decode cX8_addUpLines 24 = .ok (.iconst 0, 1) := by decide +kernel
theorem dX8_addUpLines_25 : decode cX8_addUpLines 25 = .ok (.istore_n 3, 1) := by decide +kernel
theorem dX8_addUpLines_26 : decode cX8_addUpLines 26 = .ok (.iload_n 3, 1) := by decide +kernel
theorem dX8_addUpLines_27 : decode cX8_addUpLines 27 = .ok (.aload_n 1, 1) := by decide +kernel
theorem dX8_addUpLines_28 : decode cX8_addUpLines 28 = .ok (.getfield 28, 3) := by decide +kernel
theorem dX8_addUpLines_31 : decode cX8_addUpLines 31 = .ok (.if_icmp .ge 55, 3) := by decide +kernel
theorem dX8_addUpLines_34 : decode cX8_addUpLines 34 = .ok (.aload_n 0, 1) := by decide +kernel
theorem dX8_addUpLines_35 : decode cX8_addUpLines 35 = .ok (.getfield 11, 3) := by decide +kernel
theorem dX8_addUpLines_38 : decode cX8_addUpLines 38 = .ok (.iload_n 2, 1) := by decide +kernel
theorem dX8_addUpLines_39 : decode cX8_addUpLines 39 = .ok (.iaload, 1) := by decide +kernel
theorem dX8_addUpLines_40 : decode cX8_addUpLines 40 = .ok (.iload_n 3, 1) := by decide +kernel
theorem dX8_addUpLines_41 : decode cX8_addUpLines 41 = .ok (.invokestatic 31, 3) := by decide +kernel
theorem dX8_addUpLines_44 : decode cX8_addUpLines 44 = .ok (.ifCond .ne 6, 3) := by decide +kernel
theorem dX8_addUpLines_47 : decode cX8_addUpLines 47 = .ok (.goto 33, 3) := by decide +kernel
theorem dX8_addUpLines_50 : decode cX8_addUpLines 50 = .ok (.aload_n 0, 1) := by decide +kernel
theorem dX8_addUpLines_51 : decode cX8_addUpLines 51 = .ok (.getfield 15, 3) := by decide +kernel
theorem dX8_addUpLines_54 : decode cX8_addUpLines 54 = .ok (.iload_n 2, 1) := by decide +kernel
theorem dX8_addUpLines_55 : decode cX8_addUpLines 55 = .ok (.dup2, 1) := by decide +kernel
theorem dX8_addUpLines_56 : decode cX8_addUpLines 56 = .ok (.iaload, 1) := by decide +kernel
theorem dX8_addUpLines_57 : decode cX8_addUpLines 57 = .ok (.aload_n 1, 1) := by decide +kernel
theorem dX8_addUpLines_58 : decode cX8_addUpLines 58 = .ok (.getfield 35, 3) := by decide +kernel
theorem dX8_addUpLines_61 : decode cX8_addUpLines 61 = .ok (.iload_n 3, 1) := by decide +kernel
theorem dX8_addUpLines_62 : decode cX8_addUpLines 62 = .ok (.iaload, 1) := by decide +kernel
theorem dX8_addUpLines_63 : decode cX8_addUpLines 63 = .ok (.iadd, 1) := by decide +kernel
theorem dX8_addUpLines_64 : decode cX8_addUpLines 64 = .ok (.iastore, 1) := by decide +kernel
theorem dX8_addUpLines_65 : decode cX8_addUpLines 65 = .ok (.aload_n 0, 1) := by decide +kernel
theorem dX8_addUpLines_66 : decode cX8_addUpLines 66 = .ok (.getfield 18, 3) := by decide +kernel
theorem dX8_addUpLines_69 : decode cX8_addUpLines 69 = .ok (.iload_n 2, 1) := by decide +kernel
theorem dX8_addUpLines_70 : decode cX8_addUpLines 70 = .ok (.dup2, 1) := by decide +kernel
theorem dX8_addUpLines_71 : decode cX8_addUpLines 71 = .ok (.iaload, 1) := by decide +kernel
theorem dX8_addUpLines_72 : decode cX8_addUpLines 72 = .ok (.aload_n 1, 1) := by decide +kernel
theorem dX8_addUpLines_73 : decode cX8_addUpLines 73 = .ok (.getfield 36, 3) := by decide +kernel
theorem dX8_addUpLines_76 : decode cX8_addUpLines 76 = .ok (.iload_n 3, 1) := by decide +kernel
theorem dX8_addUpLines_77 : decode cX8_addUpLines 77 = .ok (.iaload, 1) := by decide +kernel
theorem dX8_addUpLines_78 : decode cX8_addUpLines 78 = .ok (.iadd, 1) := by decide +kernel
theorem dX8_addUpLines_79 : decode cX8_addUpLines 79 = .ok (.iastore, 1) := by decide +kernel
theorem dX8_addUpLines_80 : decode cX8_addUpLines 80 = .ok (.iinc 3 1, 3) := by decide +kernel
theorem dX8_addUpLines_83 : decode cX8_addUpLines 83 = .ok (.goto (-57), 3) := by decide +kernel
theorem dX8_addUpLines_86 : decode cX8_addUpLines 86 = .ok (.iinc 2 1, 3) := by decide +kernel
theorem dX8_addUpLines_89 : decode cX8_addUpLines 89 = .ok (.goto (-87), 3) := by decide +kernel
theorem dX8_addUpLines_92 : decode cX8_addUpLines 92 = .ok (.return_, 1) := by decide +kernel
theorem dX8_indexOf_0 : decode cX8_indexOf 0 = .ok (.iconst 0, 1) := by decide +kernel
theorem dX8_indexOf_1 : decode cX8_indexOf 1 = .ok (.istore_n 2, 1) := by decide +kernel
theorem dX8_indexOf_2 : decode cX8_indexOf 2 = .ok (.aload_n 0, 1) := by decide +kernel
theorem dX8_indexOf_3 : decode cX8_indexOf 3 = .ok (.getfield 21, 3) := by decide +kernel
theorem dX8_indexOf_6 : decode cX8_indexOf 6 = .ok (.iconst 1, 1) := by decide +kernel
theorem dX8_indexOf_7 : decode cX8_indexOf 7 = .ok (.isub, 1) := by decide +kernel
theorem dX8_indexOf_8 : decode cX8_indexOf 8 = .ok (.istore_n 3, 1) := by decide +kernel
theorem dX8_indexOf_9 : decode cX8_indexOf 9 = .ok (.iconst 0, 1) := by decide +kernel
theorem dX8_indexOf_10 : decode cX8_indexOf 10 = .ok (.istore 4, 2) := by decide +kernel
theorem dX8_indexOf_12 : decode cX8_indexOf 12 = .ok (.iload 4, 2) := by decide +kernel
theorem dX8_indexOf_14 : decode cX8_indexOf 14 = .ok (.sipush 2002, 3) := by decide +kernel
theorem dX8_indexOf_17 : decode cX8_indexOf 17 = .ok (.if_icmp .ge 59, 3) := by decide +kernel
theorem dX8_indexOf_20 : decode cX8_indexOf 20 = .ok (.iload_n 2, 1) := by decide +kernel
theorem dX8_indexOf_21 : decode cX8_indexOf 21 = .ok (.iload_n 3, 1) := by decide +kernel
theorem dX8_indexOf_22 : decode cX8_indexOf 22 = .ok (.if_icmp .gt 54, 3) := by decide +kernel
theorem dX8_indexOf_25 : decode cX8_indexOf 25 = .ok (.iload_n 2, 1) := by decide +kernel
theorem dX8_indexOf_26 : decode cX8_indexOf 26 = .ok (.iload_n 3, 1) := by decide +kernel
theorem dX8_indexOf_27 : decode cX8_indexOf 27 = .ok (.iadd, 1) := by decide +kernel
theorem dX8_indexOf_28 : decode cX8_indexOf 28 = .ok (.iconst 2, 1) := by decide +kernel
theorem dX8_indexOf_29 : decode cX8_indexOf 29 = .ok (.idiv, 1) := by decide +kernel
theorem dX8_indexOf_30 : decode cX8_indexOf 30 = .ok (.istore 5, 2) := by decide +kernel
theorem dX8_indexOf_32 : decode cX8_indexOf 32 = .ok (.aload_n 0, 1) := by decide +kernel
theorem dX8_indexOf_33 : decode cX8_indexOf 33 = .ok (.getfield 11, 3) := by decide +kernel
theorem dX8_indexOf_36 : decode cX8_indexOf 36 = .ok (.iload 5, 2) := by decide +kernel
theorem dX8_indexOf_38 : decode cX8_indexOf 38 = .ok (.iaload, 1) := by decide +kernel
theorem dX8_indexOf_39 : decode cX8_indexOf 39 = .ok (.iload_n 1, 1) := by decide +kernel
theorem dX8_indexOf_40 : decode cX8_indexOf 40 = .ok (.if_icmp .ne 6, 3) := by decide +kernel
theorem dX8_indexOf_43 : decode cX8_indexOf 43 = .ok (.iload 5, 2) := by decide +kernel
theorem dX8_indexOf_45 : decode cX8_indexOf 45 = .ok (.ireturn, 1) := by decide +kernel
theorem dX8_indexOf_46 : decode cX8_indexOf 46 = .ok (.aload_n 0, 1) := by decide +kernel
theorem dX8_indexOf_47 : decode cX8_indexOf 47 = .ok (.getfield 11, 3) := by decide +kernel
theorem dX8_indexOf_50 : decode cX8_indexOf 50 = .ok (.iload 5, 2) := by decide +kernel
theorem dX8_indexOf_52 : decode cX8_indexOf 52 = .ok (.iaload, 1) := by decide +kernel
theorem dX8_indexOf_53 : decode cX8_indexOf 53 = .ok (.iload_n 1, 1) := by decide +kernel
theorem dX8_indexOf_54 : decode cX8_indexOf 54 = .ok (.if_icmp .ge 11, 3) := by decide +kernel
theorem dX8_indexOf_57 : decode cX8_indexOf 57 = .ok (.iload 5, 2) := by decide +kernel
theorem dX8_indexOf_59 : decode cX8_indexOf 59 = .ok (.iconst 1, 1) := by decide +kernel
theorem dX8_indexOf_60 : decode cX8_indexOf 60 = .ok (.iadd, 1) := by decide +kernel
theorem dX8_indexOf_61 : decode cX8_indexOf 61 = .ok (.istore_n 2, 1) := by decide +kernel
theorem dX8_indexOf_62 : decode cX8_indexOf 62 = .ok (.goto 8, 3) := by decide +kernel
theorem dX8_indexOf_65 : decode cX8_indexOf 65 = .ok (.iload 5, 2) := by decide +kernel
theorem dX8_indexOf_67 : decode cX8_indexOf 67 = .ok (.iconst 1, 1) := by decide +kernel
theorem dX8_indexOf_68 : decode cX8_indexOf 68 = .ok (.isub, 1) := by decide +kernel
theorem dX8_indexOf_69 : decode cX8_indexOf 69 = .ok (.istore_n 3, 1) := by decide +kernel
theorem dX8_indexOf_70 : decode cX8_indexOf 70 = .ok (.iinc 4 1, 3) := by decide +kernel
theorem dX8_indexOf_73 : decode cX8_indexOf 73 = .ok (.goto (-61), 3) := by decide +kernel
theorem dX8_indexOf_76 : decode cX8_indexOf 76 = .ok (.iconst (-1), 1) := by decide +kernel
theorem dX8_indexOf_77 : decode cX8_indexOf 77 = .ok (.ireturn, 1) := by decide +kernel
theorem dX8_sumAt_0 : decode cX8_sumAt 0 = .ok (.aload_n 0, 1) := by decide +kernel
theorem dX8_sumAt_1 : decode cX8_sumAt 1 = .ok (.getfield 15, 3) := by decide +kernel
theorem dX8_sumAt_4 : decode cX8_sumAt 4 = .ok (.iload_n 1, 1) := by decide +kernel
theorem dX8_sumAt_5 : decode cX8_sumAt 5 = .ok (.iaload, 1) := by decide +kernel
theorem dX8_sumAt_6 : decode cX8_sumAt 6 = .ok (.i2l, 1) := by decide +kernel
theorem dX8_sumAt_7 : decode cX8_sumAt 7 = .ok (.lload 4, 2) := by decide +kernel
theorem dX8_sumAt_9 : decode cX8_sumAt 9 = .ok (.lmul, 1) := by decide +kernel
theorem dX8_sumAt_10 : decode cX8_sumAt 10 = .ok (.aload_n 0, 1) := by decide +kernel
theorem dX8_sumAt_11 : decode cX8_sumAt 11 = .ok (.getfield 18, 3) := by decide +kernel
theorem dX8_sumAt_14 : decode cX8_sumAt 14 = .ok (.iload_n 1, 1) := by decide +kernel
theorem dX8_sumAt_15 : decode cX8_sumAt 15 = .ok (.iaload, 1) := by decide +kernel
theorem dX8_sumAt_16 : decode cX8_sumAt 16 = .ok (.i2l, 1) := by decide +kernel
theorem dX8_sumAt_17 : decode cX8_sumAt 17 = .ok (.lload_n 2, 1) := by decide +kernel
theorem dX8_sumAt_18 : decode cX8_sumAt 18 = .ok (.lmul, 1) := by decide +kernel
theorem dX8_sumAt_19 : decode cX8_sumAt 19 = .ok (.ladd, 1) := by decide +kernel
theorem dX8_sumAt_20 : decode cX8_sumAt 20 = .ok (.lreturn, 1) := by decide +kernel
theorem dX8_costAt_0 : decode cX8_costAt 0 = .ok (.aload_n 0, 1) := by decide +kernel
theorem dX8_costAt_1 : decode cX8_costAt 1 = .ok (.getfield 25, 3) := by decide +kernel
theorem dX8_costAt_4 : decode cX8_costAt 4 = .ok (.i2l, 1) := by decide +kernel
theorem dX8_costAt_5 : decode cX8_costAt 5 = .ok (.aload_n 0, 1) := by decide +kernel
theorem dX8_costAt_6 : decode cX8_costAt 6 = .ok (.iload_n 1, 1) := by decide +kernel
theorem dX8_costAt_7 : decode cX8_costAt 7 = .ok (.lload_n 2, 1) := by decide +kernel
theorem dX8_costAt_8 : decode cX8_costAt 8 = .ok (.lload 4, 2) := by decide +kernel
theorem dX8_costAt_10 : decode cX8_costAt 10 = .ok (.invokevirtual 37, 3) := by decide +kernel
theorem dX8_costAt_13 : decode cX8_costAt 13 = .ok (.lmul, 1) := by decide +kernel
theorem dX8_costAt_14 : decode cX8_costAt 14 = .ok (.lreturn, 1) := by decide +kernel
theorem dX8_cheapestAt_0 : decode cX8_cheapestAt 0 = .ok (.iconst 0, 1) := by decide +kernel
theorem dX8_cheapestAt_1 : decode cX8_cheapestAt 1 = .ok (.istore 5, 2) := by decide +kernel
theorem dX8_cheapestAt_3 : decode cX8_cheapestAt 3 = .ok (.aload_n 0, 1) := by decide +kernel
theorem dX8_cheapestAt_4 : decode cX8_cheapestAt 4 = .ok (.iconst 0, 1) := by decide +kernel
theorem dX8_cheapestAt_5 : decode cX8_cheapestAt 5 = .ok (.lload_n 1, 1) := by decide +kernel
theorem dX8_cheapestAt_6 : decode cX8_cheapestAt 6 = .ok (.lload_n 3, 1) := by decide +kernel
theorem dX8_cheapestAt_7 : decode cX8_cheapestAt 7 = .ok (.invokevirtual 41, 3) := by decide +kernel
theorem dX8_cheapestAt_10 : decode cX8_cheapestAt 10 = .ok (.lstore 6, 2) := by decide +kernel
theorem dX8_cheapestAt_12 : decode cX8_cheapestAt 12 = .ok (.iconst 1, 1) := by decide +kernel
theorem dX8_cheapestAt_13 : decode cX8_cheapestAt 13 = .ok (.istore 8, 2) := by decide +kernel
theorem dX8_cheapestAt_15 : decode cX8_cheapestAt 15 = .ok (.iload 8, 2) := by decide +kernel
theorem dX8_cheapestAt_17 : decode cX8_cheapestAt 17 = .ok (.aload_n 0, 1) := by decide +kernel
theorem dX8_cheapestAt_18 : decode cX8_cheapestAt 18 = .ok (.getfield 21, 3) := by decide +kernel
theorem dX8_cheapestAt_21 : decode cX8_cheapestAt 21 = .ok (.if_icmp .ge 38, 3) := by decide +kernel
theorem dX8_cheapestAt_24 : decode cX8_cheapestAt 24 = .ok (.aload_n 0, 1) := by decide +kernel
theorem dX8_cheapestAt_25 : decode cX8_cheapestAt 25 = .ok (.iload 8, 2) := by decide +kernel
theorem dX8_cheapestAt_27 : decode cX8_cheapestAt 27 = .ok (.lload_n 1, 1) := by decide +kernel
theorem dX8_cheapestAt_28 : decode cX8_cheapestAt 28 = .ok (.lload_n 3, 1) := by decide +kernel
theorem dX8_cheapestAt_29 : decode cX8_cheapestAt 29 = .ok (.invokevirtual 41, 3) := by decide +kernel
theorem dX8_cheapestAt_32 : decode cX8_cheapestAt 32 = .ok (.lstore 9, 2) := by decide +kernel
theorem dX8_cheapestAt_34 : decode cX8_cheapestAt 34 = .ok (.lload 9, 2) := by decide +kernel
theorem dX8_cheapestAt_36 : decode cX8_cheapestAt 36 = .ok (.lload 6, 2) := by decide +kernel
theorem dX8_cheapestAt_38 : decode cX8_cheapestAt 38 = .ok (.lcmp, 1) := by decide +kernel
theorem dX8_cheapestAt_39 : decode cX8_cheapestAt 39 = .ok (.ifCond .lt 6, 3) := by decide +kernel
theorem dX8_cheapestAt_42 : decode cX8_cheapestAt 42 = .ok (.goto 11, 3) := by decide +kernel
theorem dX8_cheapestAt_45 : decode cX8_cheapestAt 45 = .ok (.iload 8, 2) := by decide +kernel
theorem dX8_cheapestAt_47 : decode cX8_cheapestAt 47 = .ok (.istore 5, 2) := by decide +kernel
theorem dX8_cheapestAt_49 : decode cX8_cheapestAt 49 = .ok (.lload 9, 2) := by decide +kernel
theorem dX8_cheapestAt_51 : decode cX8_cheapestAt 51 = .ok (.lstore 6, 2) := by decide +kernel
theorem dX8_cheapestAt_53 : decode cX8_cheapestAt 53 = .ok (.iinc 8 1, 3) := by decide +kernel
theorem dX8_cheapestAt_56 : decode cX8_cheapestAt 56 = .ok (.goto (-41), 3) := by decide +kernel
theorem dX8_cheapestAt_59 : decode cX8_cheapestAt 59 = .ok (.iload 5, 2) := by decide +kernel
theorem dX8_cheapestAt_61 : decode cX8_cheapestAt 61 = .ok (.ireturn, 1) := by decide +kernel
theorem dX8_slackOf_0 : decode cX8_slackOf 0 = .ok (.aload_n 0, 1) := by decide +kernel
theorem dX8_slackOf_1 : decode cX8_slackOf 1 = .ok (.iload_n 2, 1) := by decide +kernel
theorem dX8_slackOf_2 : decode cX8_slackOf 2 = .ok (.i2l, 1) := by decide +kernel
theorem dX8_slackOf_3 : decode cX8_slackOf 3 = .ok (.lconst 1, 1) := by decide +kernel
theorem dX8_slackOf_4 : decode cX8_slackOf 4 = .ok (.invokevirtual 44, 3) := by decide +kernel
theorem dX8_slackOf_7 : decode cX8_slackOf 7 = .ok (.istore 4, 2) := by decide +kernel
theorem dX8_slackOf_9 : decode cX8_slackOf 9 = .ok (.aload_n 0, 1) := by decide +kernel
theorem dX8_slackOf_10 : decode cX8_slackOf 10 = .ok (.getfield 11, 3) := by decide +kernel
theorem dX8_slackOf_13 : decode cX8_slackOf 13 = .ok (.iload 4, 2) := by decide +kernel
theorem dX8_slackOf_15 : decode cX8_slackOf 15 = .ok (.iaload, 1) := by decide +kernel
theorem dX8_slackOf_16 : decode cX8_slackOf 16 = .ok (.iload_n 1, 1) := by decide +kernel
theorem dX8_slackOf_17 : decode cX8_slackOf 17 = .ok (.invokestatic 31, 3) := by decide +kernel
theorem dX8_slackOf_20 : decode cX8_slackOf 20 = .ok (.istore 5, 2) := by decide +kernel
theorem dX8_slackOf_22 : decode cX8_slackOf 22 = .ok (.iload_n 3, 1) := by decide +kernel
theorem dX8_slackOf_23 : decode cX8_slackOf 23 = .ok (.aload_n 0, 1) := by decide +kernel
theorem dX8_slackOf_24 : decode cX8_slackOf 24 = .ok (.getfield 25, 3) := by decide +kernel
theorem dX8_slackOf_27 : decode cX8_slackOf 27 = .ok (.iconst 1, 1) := by decide +kernel
theorem dX8_slackOf_28 : decode cX8_slackOf 28 = .ok (.if_icmp .ne 7, 3) := by decide +kernel
theorem dX8_slackOf_31 : decode cX8_slackOf 31 = .ok (.iconst 1, 1) := by decide +kernel
theorem dX8_slackOf_32 : decode cX8_slackOf 32 = .ok (.goto 4, 3) := by decide +kernel
theorem dX8_slackOf_35 : decode cX8_slackOf 35 = .ok (.iconst 0, 1) := by decide +kernel
theorem dX8_slackOf_36 : decode cX8_slackOf 36 = .ok (.if_icmp .ne 7, 3) := by decide +kernel
theorem dX8_slackOf_39 : decode cX8_slackOf 39 = .ok (.iconst 1, 1) := by decide +kernel
theorem dX8_slackOf_40 : decode cX8_slackOf 40 = .ok (.goto 4, 3) := by decide +kernel
theorem dX8_slackOf_43 : decode cX8_slackOf 43 = .ok (.iconst 0, 1) := by decide +kernel
theorem dX8_slackOf_44 : decode cX8_slackOf 44 = .ok (.istore 6, 2) := by decide +kernel
theorem dX8_slackOf_46 : decode cX8_slackOf 46 = .ok (.iload 5, 2) := by decide +kernel
theorem dX8_slackOf_48 : decode cX8_slackOf 48 = .ok (.iload 6, 2) := by decide +kernel
theorem dX8_slackOf_50 : decode cX8_slackOf 50 = .ok (.if_icmp .eq 7, 3) := by decide +kernel
theorem dX8_slackOf_53 : decode cX8_slackOf 53 = .ok (.ldc2_w 48, 3) := by decide +kernel
theorem dX8_slackOf_56 : decode cX8_slackOf 56 = .ok (.lreturn, 1) := by decide +kernel
theorem dX8_slackOf_57 : decode cX8_slackOf 57 = .ok (.ldc2_w 48, 3) := by decide +kernel
theorem dX8_slackOf_60 : decode cX8_slackOf 60 = .ok (.lstore 7, 2) := by decide +kernel
theorem dX8_slackOf_62 : decode cX8_slackOf 62 = .ok (.iconst 0, 1) := by decide +kernel
theorem dX8_slackOf_63 : decode cX8_slackOf 63 = .ok (.istore 9, 2) := by decide +kernel
theorem dX8_slackOf_65 : decode cX8_slackOf 65 = .ok (.iload 9, 2) := by decide +kernel
theorem dX8_slackOf_67 : decode cX8_slackOf 67 = .ok (.aload_n 0, 1) := by decide +kernel
theorem dX8_slackOf_68 : decode cX8_slackOf 68 = .ok (.getfield 21, 3) := by decide +kernel
theorem dX8_slackOf_71 : decode cX8_slackOf 71 = .ok (.if_icmp .ge 70, 3) := by decide +kernel
theorem dX8_slackOf_74 : decode cX8_slackOf 74 = .ok (.aload_n 0, 1) := by decide +kernel
theorem dX8_slackOf_75 : decode cX8_slackOf 75 = .ok (.getfield 11, 3) := by decide +kernel
theorem dX8_slackOf_78 : decode cX8_slackOf 78 = .ok (.iload 9, 2) := by decide +kernel
theorem dX8_slackOf_80 : decode cX8_slackOf 80 = .ok (.iaload, 1) := by decide +kernel
theorem dX8_slackOf_81 : decode cX8_slackOf 81 = .ok (.iload_n 1, 1) := by decide +kernel
theorem dX8_slackOf_82 : decode cX8_slackOf 82 = .ok (.invokestatic 31, 3) := by decide +kernel
theorem dX8_slackOf_85 : decode cX8_slackOf 85 = .ok (.iload 5, 2) := by decide +kernel
theorem dX8_slackOf_87 : decode cX8_slackOf 87 = .ok (.if_icmp .ne 6, 3) := by decide +kernel
theorem dX8_slackOf_90 : decode cX8_slackOf 90 = .ok (.goto 45, 3) := by decide +kernel
theorem dX8_slackOf_93 : decode cX8_slackOf 93 = .ok (.aload_n 0, 1) := by decide +kernel
theorem dX8_slackOf_94 : decode cX8_slackOf 94 = .ok (.iload 9, 2) := by decide +kernel
theorem dX8_slackOf_96 : decode cX8_slackOf 96 = .ok (.iload_n 2, 1) := by decide +kernel
theorem dX8_slackOf_97 : decode cX8_slackOf 97 = .ok (.i2l, 1) := by decide +kernel
theorem dX8_slackOf_98 : decode cX8_slackOf 98 = .ok (.lconst 1, 1) := by decide +kernel
theorem dX8_slackOf_99 : decode cX8_slackOf 99 = .ok (.invokevirtual 41, 3) := by decide +kernel
theorem dX8_slackOf_102 : decode cX8_slackOf 102 = .ok (.aload_n 0, 1) := by decide +kernel
theorem dX8_slackOf_103 : decode cX8_slackOf 103 = .ok (.iload 4, 2) := by decide +kernel
theorem dX8_slackOf_105 : decode cX8_slackOf 105 = .ok (.iload_n 2, 1) := by decide +kernel
theorem dX8_slackOf_106 : decode cX8_slackOf 106 = .ok (.i2l, 1) := by decide +kernel
theorem dX8_slackOf_107 : decode cX8_slackOf 107 = .ok (.lconst 1, 1) := by decide +kernel
theorem dX8_slackOf_108 : decode cX8_slackOf 108 = .ok (.invokevirtual 41, 3) := by decide +kernel
theorem dX8_slackOf_111 : decode cX8_slackOf 111 = .ok (.lsub, 1) := by decide +kernel
theorem dX8_slackOf_112 : decode cX8_slackOf 112 = .ok (.lstore 10, 2) := by decide +kernel
theorem dX8_slackOf_114 : decode cX8_slackOf 114 = .ok (.lload 7, 2) := by decide +kernel
theorem dX8_slackOf_116 : decode cX8_slackOf 116 = .ok (.ldc2_w 48, 3) := by decide +kernel
theorem dX8_slackOf_119 : decode cX8_slackOf 119 = .ok (.lcmp, 1) := by decide +kernel
theorem dX8_slackOf_120 : decode cX8_slackOf 120 = .ok (.ifCond .eq 11, 3) := by decide +kernel
theorem dX8_slackOf_123 : decode cX8_slackOf 123 = .ok (.lload 10, 2) := by decide +kernel
theorem dX8_slackOf_125 : decode cX8_slackOf 125 = .ok (.lload 7, 2) := by decide +kernel
theorem dX8_slackOf_127 : decode cX8_slackOf 127 = .ok (.lcmp, 1) := by decide +kernel
theorem dX8_slackOf_128 : decode cX8_slackOf 128 = .ok (.ifCond .ge 7, 3) := by decide +kernel
theorem dX8_slackOf_131 : decode cX8_slackOf 131 = .ok (.lload 10, 2) := by decide +kernel
theorem dX8_slackOf_133 : decode cX8_slackOf 133 = .ok (.lstore 7, 2) := by decide +kernel
theorem dX8_slackOf_135 : decode cX8_slackOf 135 = .ok (.iinc 9 1, 3) := by decide +kernel
theorem dX8_slackOf_138 : decode cX8_slackOf 138 = .ok (.goto (-73), 3) := by decide +kernel
theorem dX8_slackOf_141 : decode cX8_slackOf 141 = .ok (.lload 7, 2) := by decide +kernel
theorem dX8_slackOf_143 : decode cX8_slackOf 143 = .ok (.lreturn, 1) := by decide +kernel
theorem dX8_allRise_0 : decode cX8_allRise 0 = .ok (.iconst 0, 1) := by decide +kernel
theorem dX8_allRise_1 : decode cX8_allRise 1 = .ok (.istore_n 1, 1) := by decide +kernel
theorem dX8_allRise_2 : decode cX8_allRise 2 = .ok (.iload_n 1, 1) := by decide +kernel
theorem dX8_allRise_3 : decode cX8_allRise 3 = .ok (.aload_n 0, 1) := by decide +kernel
theorem dX8_allRise_4 : decode cX8_allRise 4 = .ok (.getfield 21, 3) := by decide +kernel
theorem dX8_allRise_7 : decode cX8_allRise 7 = .ok (.if_icmp .ge 20, 3) := by decide +kernel
theorem dX8_allRise_10 : decode cX8_allRise 10 = .ok (.aload_n 0, 1) := by decide +kernel
theorem dX8_allRise_11 : decode cX8_allRise 11 = .ok (.getfield 18, 3) := by decide +kernel
theorem dX8_allRise_14 : decode cX8_allRise 14 = .ok (.iload_n 1, 1) := by decide +kernel
theorem dX8_allRise_15 : decode cX8_allRise 15 = .ok (.iaload, 1) := by decide +kernel
theorem dX8_allRise_16 : decode cX8_allRise 16 = .ok (.ifCond .gt 5, 3) := by decide +kernel
theorem dX8_allRise_19 : decode cX8_allRise 19 = .ok (.iconst 0, 1) := by decide +kernel
theorem dX8_allRise_20 : decode cX8_allRise 20 = .ok (.ireturn, 1) := by decide +kernel
theorem dX8_allRise_21 : decode cX8_allRise 21 = .ok (.iinc 1 1, 3) := by decide +kernel
theorem dX8_allRise_24 : decode cX8_allRise 24 = .ok (.goto (-22), 3) := by decide +kernel
theorem dX8_allRise_27 : decode cX8_allRise 27 = .ok (.iconst 1, 1) := by decide +kernel
theorem dX8_allRise_28 : decode cX8_allRise 28 = .ok (.ireturn, 1) := by decide +kernel
theorem dX8_leastRatio_0 : decode cX8_leastRatio 0 = .ok (.iconst 0, 1) := by decide +kernel
theorem dX8_leastRatio_1 : decode cX8_leastRatio 1 = .ok (.istore_n 1, 1) := by decide +kernel
theorem dX8_leastRatio_2 : decode cX8_leastRatio 2 = .ok (.iconst 1, 1) := by decide +kernel
theorem dX8_leastRatio_3 : decode cX8_leastRatio 3 = .ok (.istore_n 2, 1) := by decide +kernel
theorem dX8_leastRatio_4 : decode cX8_leastRatio 4 = .ok (.iload_n 2, 1) := by decide +kernel
theorem dX8_leastRatio_5 : decode cX8_leastRatio 5 = .ok (.aload_n 0, 1) := by decide +kernel
theorem dX8_leastRatio_6 : decode cX8_leastRatio 6 = .ok (.getfield 21, 3) := by decide +kernel
theorem dX8_leastRatio_9 : decode cX8_leastRatio 9 = .ok (.if_icmp .ge 40, 3) := by decide +kernel
theorem dX8_leastRatio_12 : decode cX8_leastRatio 12 = .ok (.aload_n 0, 1) := by decide +kernel
theorem dX8_leastRatio_13 : decode cX8_leastRatio 13 = .ok (.getfield 15, 3) := by decide +kernel
theorem dX8_leastRatio_16 : decode cX8_leastRatio 16 = .ok (.iload_n 2, 1) := by decide +kernel
theorem dX8_leastRatio_17 : decode cX8_leastRatio 17 = .ok (.iaload, 1) := by decide +kernel
theorem dX8_leastRatio_18 : decode cX8_leastRatio 18 = .ok (.aload_n 0, 1) := by decide +kernel
theorem dX8_leastRatio_19 : decode cX8_leastRatio 19 = .ok (.getfield 18, 3) := by decide +kernel
theorem dX8_leastRatio_22 : decode cX8_leastRatio 22 = .ok (.iload_n 1, 1) := by decide +kernel
theorem dX8_leastRatio_23 : decode cX8_leastRatio 23 = .ok (.iaload, 1) := by decide +kernel
theorem dX8_leastRatio_24 : decode cX8_leastRatio 24 = .ok (.imul, 1) := by decide +kernel
theorem dX8_leastRatio_25 : decode cX8_leastRatio 25 = .ok (.aload_n 0, 1) := by decide +kernel
theorem dX8_leastRatio_26 : decode cX8_leastRatio 26 = .ok (.getfield 15, 3) := by decide +kernel
theorem dX8_leastRatio_29 : decode cX8_leastRatio 29 = .ok (.iload_n 1, 1) := by decide +kernel
theorem dX8_leastRatio_30 : decode cX8_leastRatio 30 = .ok (.iaload, 1) := by decide +kernel
theorem dX8_leastRatio_31 : decode cX8_leastRatio 31 = .ok (.aload_n 0, 1) := by decide +kernel
theorem dX8_leastRatio_32 : decode cX8_leastRatio 32 = .ok (.getfield 18, 3) := by decide +kernel
theorem dX8_leastRatio_35 : decode cX8_leastRatio 35 = .ok (.iload_n 2, 1) := by decide +kernel
theorem dX8_leastRatio_36 : decode cX8_leastRatio 36 = .ok (.iaload, 1) := by decide +kernel
theorem dX8_leastRatio_37 : decode cX8_leastRatio 37 = .ok (.imul, 1) := by decide +kernel
theorem dX8_leastRatio_38 : decode cX8_leastRatio 38 = .ok (.if_icmp .ge 5, 3) := by decide +kernel
theorem dX8_leastRatio_41 : decode cX8_leastRatio 41 = .ok (.iload_n 2, 1) := by decide +kernel
theorem dX8_leastRatio_42 : decode cX8_leastRatio 42 = .ok (.istore_n 1, 1) := by decide +kernel
theorem dX8_leastRatio_43 : decode cX8_leastRatio 43 = .ok (.iinc 2 1, 3) := by decide +kernel
theorem dX8_leastRatio_46 : decode cX8_leastRatio 46 = .ok (.goto (-42), 3) := by decide +kernel
theorem dX8_leastRatio_49 : decode cX8_leastRatio 49 = .ok (.iload_n 1, 1) := by decide +kernel
theorem dX8_leastRatio_50 : decode cX8_leastRatio 50 = .ok (.ireturn, 1) := by decide +kernel
theorem dX8_leastRued_0 : decode cX8_leastRued 0 = .ok (.iconst 0, 1) := by decide +kernel
theorem dX8_leastRued_1 : decode cX8_leastRued 1 = .ok (.istore 4, 2) := by decide +kernel
theorem dX8_leastRued_3 : decode cX8_leastRued 3 = .ok (.aload_n 0, 1) := by decide +kernel
theorem dX8_leastRued_4 : decode cX8_leastRued 4 = .ok (.iconst 0, 1) := by decide +kernel
theorem dX8_leastRued_5 : decode cX8_leastRued 5 = .ok (.iload_n 1, 1) := by decide +kernel
theorem dX8_leastRued_6 : decode cX8_leastRued 6 = .ok (.iload_n 2, 1) := by decide +kernel
theorem dX8_leastRued_7 : decode cX8_leastRued 7 = .ok (.iload_n 3, 1) := by decide +kernel
theorem dX8_leastRued_8 : decode cX8_leastRued 8 = .ok (.invokevirtual 50, 3) := by decide +kernel
theorem dX8_leastRued_11 : decode cX8_leastRued 11 = .ok (.lstore 5, 2) := by decide +kernel
theorem dX8_leastRued_13 : decode cX8_leastRued 13 = .ok (.iconst 1, 1) := by decide +kernel
theorem dX8_leastRued_14 : decode cX8_leastRued 14 = .ok (.istore 7, 2) := by decide +kernel
theorem dX8_leastRued_16 : decode cX8_leastRued 16 = .ok (.iload 7, 2) := by decide +kernel
theorem dX8_leastRued_18 : decode cX8_leastRued 18 = .ok (.aload_n 0, 1) := by decide +kernel
theorem dX8_leastRued_19 : decode cX8_leastRued 19 = .ok (.getfield 21, 3) := by decide +kernel
theorem dX8_leastRued_22 : decode cX8_leastRued 22 = .ok (.if_icmp .ge 39, 3) := by decide +kernel
theorem dX8_leastRued_25 : decode cX8_leastRued 25 = .ok (.aload_n 0, 1) := by decide +kernel
theorem dX8_leastRued_26 : decode cX8_leastRued 26 = .ok (.iload 7, 2) := by decide +kernel
theorem dX8_leastRued_28 : decode cX8_leastRued 28 = .ok (.iload_n 1, 1) := by decide +kernel
theorem dX8_leastRued_29 : decode cX8_leastRued 29 = .ok (.iload_n 2, 1) := by decide +kernel
theorem dX8_leastRued_30 : decode cX8_leastRued 30 = .ok (.iload_n 3, 1) := by decide +kernel
theorem dX8_leastRued_31 : decode cX8_leastRued 31 = .ok (.invokevirtual 50, 3) := by decide +kernel
theorem dX8_leastRued_34 : decode cX8_leastRued 34 = .ok (.lstore 8, 2) := by decide +kernel
theorem dX8_leastRued_36 : decode cX8_leastRued 36 = .ok (.lload 8, 2) := by decide +kernel
theorem dX8_leastRued_38 : decode cX8_leastRued 38 = .ok (.lload 5, 2) := by decide +kernel
theorem dX8_leastRued_40 : decode cX8_leastRued 40 = .ok (.lcmp, 1) := by decide +kernel
theorem dX8_leastRued_41 : decode cX8_leastRued 41 = .ok (.ifCond .lt 6, 3) := by decide +kernel
theorem dX8_leastRued_44 : decode cX8_leastRued 44 = .ok (.goto 11, 3) := by decide +kernel
theorem dX8_leastRued_47 : decode cX8_leastRued 47 = .ok (.iload 7, 2) := by decide +kernel
theorem dX8_leastRued_49 : decode cX8_leastRued 49 = .ok (.istore 4, 2) := by decide +kernel
theorem dX8_leastRued_51 : decode cX8_leastRued 51 = .ok (.lload 8, 2) := by decide +kernel
theorem dX8_leastRued_53 : decode cX8_leastRued 53 = .ok (.lstore 5, 2) := by decide +kernel
theorem dX8_leastRued_55 : decode cX8_leastRued 55 = .ok (.iinc 7 1, 3) := by decide +kernel
theorem dX8_leastRued_58 : decode cX8_leastRued 58 = .ok (.goto (-42), 3) := by decide +kernel
theorem dX8_leastRued_61 : decode cX8_leastRued 61 = .ok (.iload 4, 2) := by decide +kernel
theorem dX8_leastRued_63 : decode cX8_leastRued 63 = .ok (.ireturn, 1) := by decide +kernel
theorem dX8_greatestLoss_0 : decode cX8_greatestLoss 0 = .ok (.aload_n 0, 1) := by decide +kernel
theorem dX8_greatestLoss_1 : decode cX8_greatestLoss 1 = .ok (.iload_n 2, 1) := by decide +kernel
theorem dX8_greatestLoss_2 : decode cX8_greatestLoss 2 = .ok (.iload_n 1, 1) := by decide +kernel
theorem dX8_greatestLoss_3 : decode cX8_greatestLoss 3 = .ok (.iconst 0, 1) := by decide +kernel
theorem dX8_greatestLoss_4 : decode cX8_greatestLoss 4 = .ok (.invokevirtual 54, 3) := by decide +kernel
theorem dX8_greatestLoss_7 : decode cX8_greatestLoss 7 = .ok (.aload_n 0, 1) := by decide +kernel
theorem dX8_greatestLoss_8 : decode cX8_greatestLoss 8 = .ok (.iload_n 3, 1) := by decide +kernel
theorem dX8_greatestLoss_9 : decode cX8_greatestLoss 9 = .ok (.iload_n 1, 1) := by decide +kernel
theorem dX8_greatestLoss_10 : decode cX8_greatestLoss 10 = .ok (.iload 4, 2) := by decide +kernel
theorem dX8_greatestLoss_12 : decode cX8_greatestLoss 12 = .ok (.invokevirtual 54, 3) := by decide +kernel
theorem dX8_greatestLoss_15 : decode cX8_greatestLoss 15 = .ok (.invokestatic 58, 3) := by decide +kernel
theorem dX8_greatestLoss_18 : decode cX8_greatestLoss 18 = .ok (.lreturn, 1) := by decide +kernel
theorem dX8_lossAgainst_0 : decode cX8_lossAgainst 0 = .ok (.aload_n 0, 1) := by decide +kernel
theorem dX8_lossAgainst_1 : decode cX8_lossAgainst 1 = .ok (.iload_n 2, 1) := by decide +kernel
theorem dX8_lossAgainst_2 : decode cX8_lossAgainst 2 = .ok (.iload_n 3, 1) := by decide +kernel
theorem dX8_lossAgainst_3 : decode cX8_lossAgainst 3 = .ok (.i2l, 1) := by decide +kernel
theorem dX8_lossAgainst_4 : decode cX8_lossAgainst 4 = .ok (.lconst 1, 1) := by decide +kernel
theorem dX8_lossAgainst_5 : decode cX8_lossAgainst 5 = .ok (.invokevirtual 41, 3) := by decide +kernel
theorem dX8_lossAgainst_8 : decode cX8_lossAgainst 8 = .ok (.aload_n 0, 1) := by decide +kernel
theorem dX8_lossAgainst_9 : decode cX8_lossAgainst 9 = .ok (.iload_n 1, 1) := by decide +kernel
theorem dX8_lossAgainst_10 : decode cX8_lossAgainst 10 = .ok (.iload_n 3, 1) := by decide +kernel
theorem dX8_lossAgainst_11 : decode cX8_lossAgainst 11 = .ok (.i2l, 1) := by decide +kernel
theorem dX8_lossAgainst_12 : decode cX8_lossAgainst 12 = .ok (.lconst 1, 1) := by decide +kernel
theorem dX8_lossAgainst_13 : decode cX8_lossAgainst 13 = .ok (.invokevirtual 41, 3) := by decide +kernel
theorem dX8_lossAgainst_16 : decode cX8_lossAgainst 16 = .ok (.lsub, 1) := by decide +kernel
theorem dX8_lossAgainst_17 : decode cX8_lossAgainst 17 = .ok (.lreturn, 1) := by decide +kernel
theorem dX9_init_0 : decode cX9_init 0 = .ok (.aload_n 0, 1) := by decide +kernel
theorem dX9_init_1 : decode cX9_init 1 = .ok (.aload_n 1, 1) := by decide +kernel
theorem dX9_init_2 : decode cX9_init 2 = .ok (.iconst 1, 1) := by decide +kernel
theorem dX9_init_3 : decode cX9_init 3 = .ok (.invokespecial 3, 3) := by decide +kernel
theorem dX9_init_6 : decode cX9_init 6 = .ok (.aload_n 0, 1) := by decide +kernel
theorem dX9_init_7 : decode cX9_init 7 = .ok (.aload_n 1, 1) := by decide +kernel
theorem dX9_init_8 : decode cX9_init 8 = .ok (.putfield 9, 3) := by decide +kernel
theorem dX9_init_11 : decode cX9_init 11 = .ok (.return_, 1) := by decide +kernel
theorem dX9_listPlans_0 : decode cX9_listPlans 0 = .ok (.aload_n 0, 1) := by decide +kernel
theorem dX9_listPlans_1 : decode cX9_listPlans 1 = .ok (.aload_n 0, 1) := by decide +kernel
theorem dX9_listPlans_2 : decode cX9_listPlans 2 = .ok (.getfield 9, 3) := by decide +kernel
theorem dX9_listPlans_5 : decode cX9_listPlans 5 = .ok (.getfield 15, 3) := by decide +kernel
theorem dX9_listPlans_8 : decode cX9_listPlans 8 = .ok (.iconst 1, 1) := by decide +kernel
theorem dX9_listPlans_9 : decode cX9_listPlans 9 = .ok (.isub, 1) := by decide +kernel
theorem dX9_listPlans_10 : decode cX9_listPlans 10 = .ok (.iconst 0, 1) := by decide +kernel
theorem dX9_listPlans_11 : decode cX9_listPlans 11 = .ok (.ldc 21, 2) := by decide +kernel
theorem dX9_listPlans_13 : decode cX9_listPlans 13 = .ok (.aload_n 1, 1) := by decide +kernel
theorem dX9_listPlans_14 : decode cX9_listPlans 14 = .ok (.invokevirtual 22, 3) := by decide +kernel
theorem dX9_listPlans_17 : decode cX9_listPlans 17 = .ok (.return_, 1) := by decide +kernel
theorem dX9_hang_0 : decode cX9_hang 0 = .ok (.iconst 5, 1) := by decide +kernel
theorem dX9_hang_1 : decode cX9_hang 1 = .ok (.iload_n 2, 1) := by decide +kernel
theorem dX9_hang_2 : decode cX9_hang 2 = .ok (.invokestatic 26, 3) := by decide +kernel
theorem dX9_hang_5 : decode cX9_hang 5 = .ok (.isub, 1) := by decide +kernel
theorem dX9_hang_6 : decode cX9_hang 6 = .ok (.istore 5, 2) := by decide +kernel
theorem dX9_hang_8 : decode cX9_hang 8 = .ok (.iload 5, 2) := by decide +kernel
theorem dX9_hang_10 : decode cX9_hang 10 = .ok (.ifCond .ne 10, 3) := by decide +kernel
theorem dX9_hang_13 : decode cX9_hang 13 = .ok (.aload 4, 2) := by decide +kernel
theorem dX9_hang_15 : decode cX9_hang 15 = .ok (.iload_n 2, 1) := by decide +kernel
theorem dX9_hang_16 : decode cX9_hang 16 = .ok (.invokevirtual 32, 3) := by decide +kernel
theorem dX9_hang_19 : decode cX9_hang 19 = .ok (.return_, 1) := by decide +kernel
theorem dX9_hang_20 : decode cX9_hang 20 = .ok (.iload_n 1, 1) := by decide +kernel
theorem dX9_hang_21 : decode cX9_hang 21 = .ok (.ifCond .lt 22, 3) := by decide +kernel
theorem dX9_hang_24 : decode cX9_hang 24 = .ok (.iload_n 1, 1) := by decide +kernel
theorem dX9_hang_25 : decode cX9_hang 25 = .ok (.aload_n 0, 1) := by decide +kernel
theorem dX9_hang_26 : decode cX9_hang 26 = .ok (.getfield 9, 3) := by decide +kernel
theorem dX9_hang_29 : decode cX9_hang 29 = .ok (.getfield 15, 3) := by decide +kernel
theorem dX9_hang_32 : decode cX9_hang 32 = .ok (.if_icmp .ge 11, 3) := by decide +kernel
theorem dX9_hang_35 : decode cX9_hang 35 = .ok (.iload_n 1, 1) := by decide +kernel
theorem dX9_hang_36 : decode cX9_hang 36 = .ok (.iconst 1, 1) := by decide +kernel
theorem dX9_hang_37 : decode cX9_hang 37 = .ok (.iadd, 1) := by decide +kernel
theorem dX9_hang_38 : decode cX9_hang 38 = .ok (.iload 5, 2) := by decide +kernel
theorem dX9_hang_40 : decode cX9_hang 40 = .ok (.if_icmp .ge 4, 3) := by decide +kernel
theorem dX9_hang_43 : decode cX9_hang 43 = .ok (.return_, 1) := by decide +kernel
theorem dX9_hang_44 : decode cX9_hang 44 = .ok (.aload_n 0, 1) := by decide +kernel
theorem dX9_hang_45 : decode cX9_hang 45 = .ok (.iload_n 1, 1) := by decide +kernel
theorem dX9_hang_46 : decode cX9_hang 46 = .ok (.iconst 1, 1) := by decide +kernel
theorem dX9_hang_47 : decode cX9_hang 47 = .ok (.isub, 1) := by decide +kernel
theorem dX9_hang_48 : decode cX9_hang 48 = .ok (.iload_n 2, 1) := by decide +kernel
theorem dX9_hang_49 : decode cX9_hang 49 = .ok (.iload_n 3, 1) := by decide +kernel
theorem dX9_hang_50 : decode cX9_hang 50 = .ok (.aload 4, 2) := by decide +kernel
theorem dX9_hang_52 : decode cX9_hang 52 = .ok (.invokevirtual 22, 3) := by decide +kernel
theorem dX9_hang_55 : decode cX9_hang 55 = .ok (.iload_n 3, 1) := by decide +kernel
theorem dX9_hang_56 : decode cX9_hang 56 = .ok (.aload_n 0, 1) := by decide +kernel
theorem dX9_hang_57 : decode cX9_hang 57 = .ok (.getfield 9, 3) := by decide +kernel
theorem dX9_hang_60 : decode cX9_hang 60 = .ok (.getfield 38, 3) := by decide +kernel
theorem dX9_hang_63 : decode cX9_hang 63 = .ok (.iload_n 1, 1) := by decide +kernel
theorem dX9_hang_64 : decode cX9_hang 64 = .ok (.iaload, 1) := by decide +kernel
theorem dX9_hang_65 : decode cX9_hang 65 = .ok (.invokestatic 42, 3) := by decide +kernel
theorem dX9_hang_68 : decode cX9_hang 68 = .ok (.istore 6, 2) := by decide +kernel
theorem dX9_hang_70 : decode cX9_hang 70 = .ok (.iload_n 3, 1) := by decide +kernel
theorem dX9_hang_71 : decode cX9_hang 71 = .ok (.aload_n 0, 1) := by decide +kernel
theorem dX9_hang_72 : decode cX9_hang 72 = .ok (.getfield 9, 3) := by decide +kernel
theorem dX9_hang_75 : decode cX9_hang 75 = .ok (.getfield 46, 3) := by decide +kernel
theorem dX9_hang_78 : decode cX9_hang 78 = .ok (.iload_n 1, 1) := by decide +kernel
theorem dX9_hang_79 : decode cX9_hang 79 = .ok (.iaload, 1) := by decide +kernel
theorem dX9_hang_80 : decode cX9_hang 80 = .ok (.invokestatic 42, 3) := by decide +kernel
theorem dX9_hang_83 : decode cX9_hang 83 = .ok (.istore 7, 2) := by decide +kernel
theorem dX9_hang_85 : decode cX9_hang 85 = .ok (.iload 6, 2) := by decide +kernel
theorem dX9_hang_87 : decode cX9_hang 87 = .ok (.iload 7, 2) := by decide +kernel
theorem dX9_hang_89 : decode cX9_hang 89 = .ok (.if_icmp .eq 25, 3) := by decide +kernel
theorem dX9_hang_92 : decode cX9_hang 92 = .ok (.aload_n 0, 1) := by decide +kernel
theorem dX9_hang_93 : decode cX9_hang 93 = .ok (.iload_n 1, 1) := by decide +kernel
theorem dX9_hang_94 : decode cX9_hang 94 = .ok (.iconst 1, 1) := by decide +kernel
theorem dX9_hang_95 : decode cX9_hang 95 = .ok (.isub, 1) := by decide +kernel
theorem dX9_hang_96 : decode cX9_hang 96 = .ok (.iload_n 2, 1) := by decide +kernel
theorem dX9_hang_97 : decode cX9_hang 97 = .ok (.iconst 1, 1) := by decide +kernel
theorem dX9_hang_98 : decode cX9_hang 98 = .ok (.iload_n 1, 1) := by decide +kernel
theorem dX9_hang_99 : decode cX9_hang 99 = .ok (.ishl, 1) := by decide +kernel
theorem dX9_hang_100 : decode cX9_hang 100 = .ok (.ior, 1) := by decide +kernel
theorem dX9_hang_101 : decode cX9_hang 101 = .ok (.iload_n 3, 1) := by decide +kernel
theorem dX9_hang_102 : decode cX9_hang 102 = .ok (.iload 6, 2) := by decide +kernel
theorem dX9_hang_104 : decode cX9_hang 104 = .ok (.iload 7, 2) := by decide +kernel
theorem dX9_hang_106 : decode cX9_hang 106 = .ok (.invokestatic 49, 3) := by decide +kernel
theorem dX9_hang_109 : decode cX9_hang 109 = .ok (.aload 4, 2) := by decide +kernel
theorem dX9_hang_111 : decode cX9_hang 111 = .ok (.invokevirtual 22, 3) := by decide +kernel
theorem dX9_hang_114 : decode cX9_hang 114 = .ok (.return_, 1) := by decide +kernel
theorem dX9_groupOf_0 : decode cX9_groupOf 0 = .ok (.iload_n 0, 1) := by decide +kernel
theorem dX9_groupOf_1 : decode cX9_groupOf 1 = .ok (.iconst 3, 1) := by decide +kernel
theorem dX9_groupOf_2 : decode cX9_groupOf 2 = .ok (.iload_n 1, 1) := by decide +kernel
theorem dX9_groupOf_3 : decode cX9_groupOf 3 = .ok (.imul, 1) := by decide +kernel
theorem dX9_groupOf_4 : decode cX9_groupOf 4 = .ok (.ishr, 1) := by decide +kernel
theorem dX9_groupOf_5 : decode cX9_groupOf 5 = .ok (.bipush 7, 2) := by decide +kernel
theorem dX9_groupOf_7 : decode cX9_groupOf 7 = .ok (.iand, 1) := by decide +kernel
theorem dX9_groupOf_8 : decode cX9_groupOf 8 = .ok (.ireturn, 1) := by decide +kernel
theorem dX9_unite_0 : decode cX9_unite 0 = .ok (.iload_n 0, 1) := by decide +kernel
theorem dX9_unite_1 : decode cX9_unite 1 = .ok (.istore_n 3, 1) := by decide +kernel
theorem dX9_unite_2 : decode cX9_unite 2 = .ok (.iconst 0, 1) := by decide +kernel
theorem dX9_unite_3 : decode cX9_unite 3 = .ok (.istore 4, 2) := by decide +kernel
theorem dX9_unite_5 : decode cX9_unite 5 = .ok (.iload 4, 2) := by decide +kernel
theorem dX9_unite_7 : decode cX9_unite 7 = .ok (.bipush 6, 2) := by decide +kernel
theorem dX9_unite_9 : decode cX9_unite 9 = .ok (.if_icmp .ge 30, 3) := by decide +kernel
theorem dX9_unite_12 : decode cX9_unite 12 = .ok (.iload_n 0, 1) := by decide +kernel
theorem dX9_unite_13 : decode cX9_unite 13 = .ok (.iload 4, 2) := by decide +kernel
theorem dX9_unite_15 : decode cX9_unite 15 = .ok (.invokestatic 42, 3) := by decide +kernel
theorem dX9_unite_18 : decode cX9_unite 18 = .ok (.iload_n 2, 1) := by decide +kernel
theorem dX9_unite_19 : decode cX9_unite 19 = .ok (.if_icmp .ne 14, 3) := by decide +kernel
theorem dX9_unite_22 : decode cX9_unite 22 = .ok (.iload_n 3, 1) := by decide +kernel
theorem dX9_unite_23 : decode cX9_unite 23 = .ok (.iload_n 1, 1) := by decide +kernel
theorem dX9_unite_24 : decode cX9_unite 24 = .ok (.iload_n 2, 1) := by decide +kernel
theorem dX9_unite_25 : decode cX9_unite 25 = .ok (.ixor, 1) := by decide +kernel
theorem dX9_unite_26 : decode cX9_unite 26 = .ok (.iconst 3, 1) := by decide +kernel
theorem dX9_unite_27 : decode cX9_unite 27 = .ok (.iload 4, 2) := by decide +kernel
theorem dX9_unite_29 : decode cX9_unite 29 = .ok (.imul, 1) := by decide +kernel
theorem dX9_unite_30 : decode cX9_unite 30 = .ok (.ishl, 1) := by decide +kernel
theorem dX9_unite_31 : decode cX9_unite 31 = .ok (.ixor, 1) := by decide +kernel
theorem dX9_unite_32 : decode cX9_unite 32 = .ok (.istore_n 3, 1) := by decide +kernel
theorem dX9_unite_33 : decode cX9_unite 33 = .ok (.iinc 4 1, 3) := by decide +kernel
theorem dX9_unite_36 : decode cX9_unite 36 = .ok (.goto (-31), 3) := by decide +kernel
theorem dX9_unite_39 : decode cX9_unite 39 = .ok (.iload_n 3, 1) := by decide +kernel
theorem dX9_unite_40 : decode cX9_unite 40 = .ok (.ireturn, 1) := by decide +kernel
theorem dX10_init_0 : decode cX10_init 0 = .ok (.aload_n 0, 1) := by decide +kernel
theorem dX10_init_1 : decode cX10_init 1 = .ok (.aload_n 1, 1) := by decide +kernel
theorem dX10_init_2 : decode cX10_init 2 = .ok (.iconst 1, 1) := by decide +kernel
theorem dX10_init_3 : decode cX10_init 3 = .ok (.invokespecial 3, 3) := by decide +kernel
theorem dX10_init_6 : decode cX10_init 6 = .ok (.aload_n 0, 1) := by decide +kernel
theorem dX10_init_7 : decode cX10_init 7 = .ok (.aload_n 1, 1) := by decide +kernel
theorem dX10_init_8 : decode cX10_init 8 = .ok (.putfield 9, 3) := by decide +kernel
theorem dX10_init_11 : decode cX10_init 11 = .ok (.return_, 1) := by decide +kernel
theorem dX10_listPlans_0 : decode cX10_listPlans 0 = .ok (.aload_n 0, 1) := by decide +kernel
theorem dX10_listPlans_1 : decode cX10_listPlans 1 = .ok (.iconst 0, 1) := by decide +kernel
theorem dX10_listPlans_2 : decode cX10_listPlans 2 = .ok (.iconst 1, 1) := by decide +kernel
theorem dX10_listPlans_3 : decode cX10_listPlans 3 = .ok (.iconst 0, 1) := by decide +kernel
theorem dX10_listPlans_4 : decode cX10_listPlans 4 = .ok (.aload_n 1, 1) := by decide +kernel
theorem dX10_listPlans_5 : decode cX10_listPlans 5 = .ok (.invokevirtual 15, 3) := by decide +kernel
theorem dX10_listPlans_8 : decode cX10_listPlans 8 = .ok (.return_, 1) := by decide +kernel
theorem dX10_walk_0 : decode cX10_walk 0 = .ok (.iconst 0, 1) := by decide +kernel
theorem dX10_walk_1 : decode cX10_walk 1 = .ok (.istore 5, 2) := by decide +kernel
theorem dX10_walk_3 : decode cX10_walk 3 = .ok (.iload 5, 2) := by decide +kernel
theorem dX10_walk_5 : decode cX10_walk 5 = .ok (.aload_n 0, 1) := by decide +kernel
theorem dX10_walk_6 : decode cX10_walk 6 = .ok (.getfield 9, 3) := by decide +kernel
theorem dX10_walk_9 : decode cX10_walk 9 = .ok (.getfield 19, 3) := by decide +kernel
theorem dX10_walk_12 : decode cX10_walk 12 = .ok (.if_icmp .ge 87, 3) := by decide +kernel
theorem dX10_walk_15 : decode cX10_walk 15 = .ok (.aload_n 0, 1) := by decide +kernel
theorem dX10_walk_16 : decode cX10_walk 16 = .ok (.getfield 9, 3) := by decide +kernel
theorem dX10_walk_19 : decode cX10_walk 19 = .ok (.getfield 25, 3) := by decide +kernel
theorem dX10_walk_22 : decode cX10_walk 22 = .ok (.iload 5, 2) := by decide +kernel
theorem dX10_walk_24 : decode cX10_walk 24 = .ok (.iaload, 1) := by decide +kernel
theorem dX10_walk_25 : decode cX10_walk 25 = .ok (.istore 6, 2) := by decide +kernel
theorem dX10_walk_27 : decode cX10_walk 27 = .ok (.aload_n 0, 1) := by decide +kernel
theorem dX10_walk_28 : decode cX10_walk 28 = .ok (.getfield 9, 3) := by decide +kernel
theorem dX10_walk_31 : decode cX10_walk 31 = .ok (.getfield 29, 3) := by decide +kernel
theorem dX10_walk_34 : decode cX10_walk 34 = .ok (.iload 5, 2) := by decide +kernel
theorem dX10_walk_36 : decode cX10_walk 36 = .ok (.iaload, 1) := by decide +kernel
theorem dX10_walk_37 : decode cX10_walk 37 = .ok (.iload_n 1, 1) := by decide +kernel
theorem dX10_walk_38 : decode cX10_walk 38 = .ok (.if_icmp .ne 55, 3) := by decide +kernel
theorem dX10_walk_41 : decode cX10_walk 41 = .ok (.iload_n 2, 1) := by decide +kernel
theorem dX10_walk_42 : decode cX10_walk 42 = .ok (.iload 6, 2) := by decide +kernel
theorem dX10_walk_44 : decode cX10_walk 44 = .ok (.invokestatic 32, 3) := by decide +kernel
theorem dX10_walk_47 : decode cX10_walk 47 = .ok (.ifCond .eq 6, 3) := by decide +kernel
theorem dX10_walk_50 : decode cX10_walk 50 = .ok (.goto 43, 3) := by decide +kernel
theorem dX10_walk_53 : decode cX10_walk 53 = .ok (.iload_n 3, 1) := by decide +kernel
theorem dX10_walk_54 : decode cX10_walk 54 = .ok (.iconst 1, 1) := by decide +kernel
theorem dX10_walk_55 : decode cX10_walk 55 = .ok (.iload 5, 2) := by decide +kernel
theorem dX10_walk_57 : decode cX10_walk 57 = .ok (.ishl, 1) := by decide +kernel
theorem dX10_walk_58 : decode cX10_walk 58 = .ok (.ior, 1) := by decide +kernel
theorem dX10_walk_59 : decode cX10_walk 59 = .ok (.istore 7, 2) := by decide +kernel
theorem dX10_walk_61 : decode cX10_walk 61 = .ok (.iload 6, 2) := by decide +kernel
theorem dX10_walk_63 : decode cX10_walk 63 = .ok (.iconst 5, 1) := by decide +kernel
theorem dX10_walk_64 : decode cX10_walk 64 = .ok (.if_icmp .ne 13, 3) := by decide +kernel
theorem dX10_walk_67 : decode cX10_walk 67 = .ok (.aload 4, 2) := by decide +kernel
theorem dX10_walk_69 : decode cX10_walk 69 = .ok (.iload 7, 2) := by decide +kernel
theorem dX10_walk_71 : decode cX10_walk 71 = .ok (.invokevirtual 36, 3) := by decide +kernel
theorem dX10_walk_74 : decode cX10_walk 74 = .ok (.goto 19, 3) := by decide +kernel
theorem dX10_walk_77 : decode cX10_walk 77 = .ok (.aload_n 0, 1) := by decide +kernel
theorem dX10_walk_78 : decode cX10_walk 78 = .ok (.iload 6, 2) := by decide +kernel
theorem dX10_walk_80 : decode cX10_walk 80 = .ok (.iload_n 2, 1) := by decide +kernel
theorem dX10_walk_81 : decode cX10_walk 81 = .ok (.iconst 1, 1) := by decide +kernel
theorem dX10_walk_82 : decode cX10_walk 82 = .ok (.iload 6, 2) := by decide +kernel
theorem dX10_walk_84 : decode cX10_walk 84 = .ok (.ishl, 1) := by decide +kernel
theorem dX10_walk_85 : decode cX10_walk 85 = .ok (.ior, 1) := by decide +kernel
theorem dX10_walk_86 : decode cX10_walk 86 = .ok (.iload 7, 2) := by decide +kernel
theorem dX10_walk_88 : decode cX10_walk 88 = .ok (.aload 4, 2) := by decide +kernel
theorem dX10_walk_90 : decode cX10_walk 90 = .ok (.invokevirtual 15, 3) := by decide +kernel
theorem dX10_walk_93 : decode cX10_walk 93 = .ok (.iinc 5 1, 3) := by decide +kernel
theorem dX10_walk_96 : decode cX10_walk 96 = .ok (.goto (-93), 3) := by decide +kernel
theorem dX10_walk_99 : decode cX10_walk 99 = .ok (.return_, 1) := by decide +kernel
theorem dX11_init_0 : decode cX11_init 0 = .ok (.aload_n 0, 1) := by decide +kernel
theorem dX11_init_1 : decode cX11_init 1 = .ok (.invokespecial 3, 3) := by decide +kernel
theorem dX11_init_4 : decode cX11_init 4 = .ok (.aload_n 0, 1) := by decide +kernel
theorem dX11_init_5 : decode cX11_init 5 = .ok (.new 9, 3) := by decide +kernel
theorem dX11_init_8 : decode cX11_init 8 = .ok (.dup, 1) := by decide +kernel
theorem dX11_init_9 : decode cX11_init 9 = .ok (.invokespecial 11, 3) := by decide +kernel
theorem dX11_init_12 : decode cX11_init 12 = .ok (.putfield 12, 3) := by decide +kernel
theorem dX11_init_15 : decode cX11_init 15 = .ok (.aload_n 0, 1) := by decide +kernel
theorem dX11_init_16 : decode cX11_init 16 = .ok (.new 16, 3) := by decide +kernel
theorem dX11_init_19 : decode cX11_init 19 = .ok (.dup, 1) := by decide +kernel
theorem dX11_init_20 : decode cX11_init 20 = .ok (.bipush 16, 2) := by decide +kernel
theorem dX11_init_22 : decode cX11_init 22 = .ok (.invokespecial 18, 3) := by decide +kernel
theorem dX11_init_25 : decode cX11_init 25 = .ok (.putfield 21, 3) := by decide +kernel
theorem dX11_init_28 : decode cX11_init 28 = .ok (.aload_n 0, 1) := by decide +kernel
theorem dX11_init_29 : decode cX11_init 29 = .ok (.new 25, 3) := by decide +kernel
theorem dX11_init_32 : decode cX11_init 32 = .ok (.dup, 1) := by decide +kernel
theorem dX11_init_33 : decode cX11_init 33 = .ok (.invokespecial 27, 3) := by decide +kernel
theorem dX11_init_36 : decode cX11_init 36 = .ok (.putfield 28, 3) := by decide +kernel
theorem dX11_init_39 : decode cX11_init 39 = .ok (.aload_n 0, 1) := by decide +kernel
theorem dX11_init_40 : decode cX11_init 40 = .ok (.new 32, 3) := by decide +kernel
theorem dX11_init_43 : decode cX11_init 43 = .ok (.dup, 1) := by decide +kernel
theorem dX11_init_44 : decode cX11_init 44 = .ok (.invokespecial 34, 3) := by decide +kernel
theorem dX11_init_47 : decode cX11_init 47 = .ok (.putfield 35, 3) := by decide +kernel
theorem dX11_init_50 : decode cX11_init 50 = .ok (.aload_n 0, 1) := by decide +kernel
theorem dX11_init_51 : decode cX11_init 51 = .ok (.iconst 5, 1) := by decide +kernel
theorem dX11_init_52 : decode cX11_init 52 = .ok (.anewarray 39, 3) := by decide +kernel
theorem dX11_init_55 : decode cX11_init 55 = .ok (.dup, 1) := by decide +kernel
theorem dX11_init_56 : decode cX11_init 56 = .ok (.iconst 0, 1) := by decide +kernel
theorem dX11_init_57 : decode cX11_init 57 = .ok (.new 41, 3) := by decide +kernel
theorem dX11_init_60 : decode cX11_init 60 = .ok (.dup, 1) := by decide +kernel
theorem dX11_init_61 : decode cX11_init 61 = .ok (.aload_n 0, 1) := by decide +kernel
theorem dX11_init_62 : decode cX11_init 62 = .ok (.getfield 12, 3) := by decide +kernel
theorem dX11_init_65 : decode cX11_init 65 = .ok (.invokespecial 43, 3) := by decide +kernel
theorem dX11_init_68 : decode cX11_init 68 = .ok (.aastore, 1) := by decide +kernel
theorem dX11_init_69 : decode cX11_init 69 = .ok (.dup, 1) := by decide +kernel
theorem dX11_init_70 : decode cX11_init 70 = .ok (.iconst 1, 1) := by decide +kernel
theorem dX11_init_71 : decode cX11_init 71 = .ok (.new 46, 3) := by decide +kernel
theorem dX11_init_74 : decode cX11_init 74 = .ok (.dup, 1) := by decide +kernel
theorem dX11_init_75 : decode cX11_init 75 = .ok (.aload_n 0, 1) := by decide +kernel
theorem dX11_init_76 : decode cX11_init 76 = .ok (.getfield 12, 3) := by decide +kernel
theorem dX11_init_79 : decode cX11_init 79 = .ok (.invokespecial 48, 3) := by decide +kernel
theorem dX11_init_82 : decode cX11_init 82 = .ok (.aastore, 1) := by decide +kernel
theorem dX11_init_83 : decode cX11_init 83 = .ok (.dup, 1) := by decide +kernel
theorem dX11_init_84 : decode cX11_init 84 = .ok (.iconst 2, 1) := by decide +kernel
theorem dX11_init_85 : decode cX11_init 85 = .ok (.new 49, 3) := by decide +kernel
theorem dX11_init_88 : decode cX11_init 88 = .ok (.dup, 1) := by decide +kernel
theorem dX11_init_89 : decode cX11_init 89 = .ok (.aload_n 0, 1) := by decide +kernel
theorem dX11_init_90 : decode cX11_init 90 = .ok (.getfield 21, 3) := by decide +kernel
theorem dX11_init_93 : decode cX11_init 93 = .ok (.invokespecial 51, 3) := by decide +kernel
theorem dX11_init_96 : decode cX11_init 96 = .ok (.aastore, 1) := by decide +kernel
theorem dX11_init_97 : decode cX11_init 97 = .ok (.dup, 1) := by decide +kernel
theorem dX11_init_98 : decode cX11_init 98 = .ok (.iconst 3, 1) := by decide +kernel
theorem dX11_init_99 : decode cX11_init 99 = .ok (.aload_n 0, 1) := by decide +kernel
theorem dX11_init_100 : decode cX11_init 100 = .ok (.getfield 28, 3) := by decide +kernel
theorem dX11_init_103 : decode cX11_init 103 = .ok (.aastore, 1) := by decide +kernel
theorem dX11_init_104 : decode cX11_init 104 = .ok (.dup, 1) := by decide +kernel
theorem dX11_init_105 : decode cX11_init 105 = .ok (.iconst 4, 1) := by decide +kernel
theorem dX11_init_106 : decode cX11_init 106 = .ok (.aload_n 0, 1) := by decide +kernel
