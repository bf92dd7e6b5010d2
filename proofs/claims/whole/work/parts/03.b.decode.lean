theorem dX11_init_107 : decode cX11_init 107 = .ok (.getfield 35, 3) := by decide +kernel
theorem dX11_init_110 : decode cX11_init 110 = .ok (.aastore, 1) := by decide +kernel
theorem dX11_init_111 : decode cX11_init 111 = .ok (.putfield 54, 3) := by decide +kernel
theorem dX11_init_114 : decode cX11_init 114 = .ok (.aload_n 0, 1) := by decide +kernel
theorem dX11_init_115 : decode cX11_init 115 = .ok (.new 58, 3) := by decide +kernel
theorem dX11_init_118 : decode cX11_init 118 = .ok (.dup, 1) := by decide +kernel
theorem dX11_init_119 : decode cX11_init 119 = .ok (.invokespecial 60, 3) := by decide +kernel
theorem dX11_init_122 : decode cX11_init 122 = .ok (.putfield 61, 3) := by decide +kernel
theorem dX11_init_125 : decode cX11_init 125 = .ok (.aload_n 0, 1) := by decide +kernel
theorem dX11_init_126 : decode cX11_init 126 = .ok (.new 65, 3) := by decide +kernel
theorem dX11_init_129 : decode cX11_init 129 = .ok (.dup, 1) := by decide +kernel
theorem dX11_init_130 : decode cX11_init 130 = .ok (.invokespecial 67, 3) := by decide +kernel
theorem dX11_init_133 : decode cX11_init 133 = .ok (.putfield 68, 3) := by decide +kernel
theorem dX11_init_136 : decode cX11_init 136 = .ok (.aload_n 0, 1) := by decide +kernel
theorem dX11_init_137 : decode cX11_init 137 = .ok (.new 72, 3) := by decide +kernel
theorem dX11_init_140 : decode cX11_init 140 = .ok (.dup, 1) := by decide +kernel
theorem dX11_init_141 : decode cX11_init 141 = .ok (.invokespecial 74, 3) := by decide +kernel
theorem dX11_init_144 : decode cX11_init 144 = .ok (.putfield 75, 3) := by decide +kernel
theorem dX11_init_147 : decode cX11_init 147 = .ok (.aload_n 0, 1) := by decide +kernel
theorem dX11_init_148 : decode cX11_init 148 = .ok (.bipush 100, 2) := by decide +kernel
theorem dX11_init_150 : decode cX11_init 150 = .ok (.putfield 79, 3) := by decide +kernel
theorem dX11_init_153 : decode cX11_init 153 = .ok (.aload_n 0, 1) := by decide +kernel
theorem dX11_init_154 : decode cX11_init 154 = .ok (.iconst 0, 1) := by decide +kernel
theorem dX11_init_155 : decode cX11_init 155 = .ok (.putfield 83, 3) := by decide +kernel
theorem dX11_init_158 : decode cX11_init 158 = .ok (.aload_n 0, 1) := by decide +kernel
theorem dX11_init_159 : decode cX11_init 159 = .ok (.iconst 0, 1) := by decide +kernel
theorem dX11_init_160 : decode cX11_init 160 = .ok (.putfield 86, 3) := by decide +kernel
theorem dX11_init_163 : decode cX11_init 163 = .ok (.aload_n 0, 1) := by decide +kernel
theorem dX11_init_164 : decode cX11_init 164 = .ok (.iconst 0, 1) := by decide +kernel
theorem dX11_init_165 : decode cX11_init 165 = .ok (.putfield 90, 3) := by decide +kernel
theorem dX11_init_168 : decode cX11_init 168 = .ok (.return_, 1) := by decide +kernel
theorem dX11_top_0 : decode cX11_top 0 = .ok (.iload_n 1, 1) := by decide +kernel
theorem dX11_top_1 : decode cX11_top 1 = .ok (.iconst 1, 1) := by decide +kernel
theorem dX11_top_2 : decode cX11_top 2 = .ok (.if_icmp .lt 9, 3) := by decide +kernel
theorem dX11_top_5 : decode cX11_top 5 = .ok (.iload_n 1, 1) := by decide +kernel
theorem dX11_top_6 : decode cX11_top 6 = .ok (.bipush 100, 2) := by decide +kernel
theorem dX11_top_8 : decode cX11_top 8 = .ok (.if_icmp .le 6, 3) := by decide +kernel
theorem dX11_top_11 : decode cX11_top 11 = .ok (.bipush (-2), 2) := by decide +kernel
theorem dX11_top_13 : decode cX11_top 13 = .ok (.ireturn, 1) := by decide +kernel
theorem dX11_top_14 : decode cX11_top 14 = .ok (.aload_n 0, 1) := by decide +kernel
theorem dX11_top_15 : decode cX11_top 15 = .ok (.getfield 79, 3) := by decide +kernel
theorem dX11_top_18 : decode cX11_top 18 = .ok (.istore_n 2, 1) := by decide +kernel
theorem dX11_top_19 : decode cX11_top 19 = .ok (.aload_n 0, 1) := by decide +kernel
theorem dX11_top_20 : decode cX11_top 20 = .ok (.iload_n 1, 1) := by decide +kernel
theorem dX11_top_21 : decode cX11_top 21 = .ok (.putfield 79, 3) := by decide +kernel
theorem dX11_top_24 : decode cX11_top 24 = .ok (.aload_n 0, 1) := by decide +kernel
theorem dX11_top_25 : decode cX11_top 25 = .ok (.iconst 0, 1) := by decide +kernel
theorem dX11_top_26 : decode cX11_top 26 = .ok (.putfield 90, 3) := by decide +kernel
theorem dX11_top_29 : decode cX11_top 29 = .ok (.iload_n 2, 1) := by decide +kernel
theorem dX11_top_30 : decode cX11_top 30 = .ok (.ireturn, 1) := by decide +kernel
theorem dX11_kind_0 : decode cX11_kind 0 = .ok (.iload_n 1, 1) := by decide +kernel
theorem dX11_kind_1 : decode cX11_kind 1 = .ok (.ifCond .lt 12, 3) := by decide +kernel
theorem dX11_kind_4 : decode cX11_kind 4 = .ok (.iload_n 1, 1) := by decide +kernel
theorem dX11_kind_5 : decode cX11_kind 5 = .ok (.aload_n 0, 1) := by decide +kernel
theorem dX11_kind_6 : decode cX11_kind 6 = .ok (.getfield 54, 3) := by decide +kernel
theorem dX11_kind_9 : decode cX11_kind 9 = .ok (.arraylength, 1) := by decide +kernel
theorem dX11_kind_10 : decode cX11_kind 10 = .ok (.if_icmp .lt 6, 3) := by decide +kernel
theorem dX11_kind_13 : decode cX11_kind 13 = .ok (.bipush (-2), 2) := by decide +kernel
theorem dX11_kind_15 : decode cX11_kind 15 = .ok (.ireturn, 1) := by decide +kernel
theorem dX11_kind_16 : decode cX11_kind 16 = .ok (.aload_n 0, 1) := by decide +kernel
theorem dX11_kind_17 : decode cX11_kind 17 = .ok (.getfield 83, 3) := by decide +kernel
theorem dX11_kind_20 : decode cX11_kind 20 = .ok (.istore_n 2, 1) := by decide +kernel
theorem dX11_kind_21 : decode cX11_kind 21 = .ok (.aload_n 0, 1) := by decide +kernel
theorem dX11_kind_22 : decode cX11_kind 22 = .ok (.iload_n 1, 1) := by decide +kernel
theorem dX11_kind_23 : decode cX11_kind 23 = .ok (.putfield 83, 3) := by decide +kernel
theorem dX11_kind_26 : decode cX11_kind 26 = .ok (.aload_n 0, 1) := by decide +kernel
theorem dX11_kind_27 : decode cX11_kind 27 = .ok (.invokevirtual 93, 3) := by decide +kernel
theorem dX11_kind_30 : decode cX11_kind 30 = .ok (.iload_n 2, 1) := by decide +kernel
theorem dX11_kind_31 : decode cX11_kind 31 = .ok (.ireturn, 1) := by decide +kernel
theorem dX11_link_0 : decode cX11_link 0 = .ok (.iload_n 1, 1) := by decide +kernel
theorem dX11_link_1 : decode cX11_link 1 = .ok (.bipush 6, 2) := by decide +kernel
theorem dX11_link_3 : decode cX11_link 3 = .ok (.invokestatic 96, 3) := by decide +kernel
theorem dX11_link_6 : decode cX11_link 6 = .ok (.ifCond .eq 26, 3) := by decide +kernel
theorem dX11_link_9 : decode cX11_link 9 = .ok (.iload_n 2, 1) := by decide +kernel
theorem dX11_link_10 : decode cX11_link 10 = .ok (.bipush 6, 2) := by decide +kernel
theorem dX11_link_12 : decode cX11_link 12 = .ok (.invokestatic 96, 3) := by decide +kernel
theorem dX11_link_15 : decode cX11_link 15 = .ok (.ifCond .eq 17, 3) := by decide +kernel
theorem dX11_link_18 : decode cX11_link 18 = .ok (.iload_n 1, 1) := by decide +kernel
theorem dX11_link_19 : decode cX11_link 19 = .ok (.iload_n 2, 1) := by decide +kernel
theorem dX11_link_20 : decode cX11_link 20 = .ok (.if_icmp .eq 12, 3) := by decide +kernel
theorem dX11_link_23 : decode cX11_link 23 = .ok (.iload_n 3, 1) := by decide +kernel
theorem dX11_link_24 : decode cX11_link 24 = .ok (.iload 4, 2) := by decide +kernel
theorem dX11_link_26 : decode cX11_link 26 = .ok (.invokestatic 100, 3) := by decide +kernel
theorem dX11_link_29 : decode cX11_link 29 = .ok (.ifCond .ne 6, 3) := by decide +kernel
theorem dX11_link_32 : decode cX11_link 32 = .ok (.bipush (-2), 2) := by decide +kernel
theorem dX11_link_34 : decode cX11_link 34 = .ok (.ireturn, 1) := by decide +kernel
theorem dX11_link_35 : decode cX11_link 35 = .ok (.aload_n 0, 1) := by decide +kernel
theorem dX11_link_36 : decode cX11_link 36 = .ok (.getfield 12, 3) := by decide +kernel
theorem dX11_link_39 : decode cX11_link 39 = .ok (.invokevirtual 103, 3) := by decide +kernel
theorem dX11_link_42 : decode cX11_link 42 = .ok (.ifCond .eq 6, 3) := by decide +kernel
theorem dX11_link_45 : decode cX11_link 45 = .ok (.bipush (-4), 2) := by decide +kernel
theorem dX11_link_47 : decode cX11_link 47 = .ok (.ireturn, 1) := by decide +kernel
theorem dX11_link_48 : decode cX11_link 48 = .ok (.aload_n 0, 1) := by decide +kernel
theorem dX11_link_49 : decode cX11_link 49 = .ok (.invokevirtual 93, 3) := by decide +kernel
theorem dX11_link_52 : decode cX11_link 52 = .ok (.aload_n 0, 1) := by decide +kernel
theorem dX11_link_53 : decode cX11_link 53 = .ok (.getfield 12, 3) := by decide +kernel
theorem dX11_link_56 : decode cX11_link 56 = .ok (.iload_n 1, 1) := by decide +kernel
theorem dX11_link_57 : decode cX11_link 57 = .ok (.iload_n 2, 1) := by decide +kernel
theorem dX11_link_58 : decode cX11_link 58 = .ok (.iload_n 3, 1) := by decide +kernel
theorem dX11_link_59 : decode cX11_link 59 = .ok (.iload 4, 2) := by decide +kernel
theorem dX11_link_61 : decode cX11_link 61 = .ok (.invokevirtual 107, 3) := by decide +kernel
theorem dX11_link_64 : decode cX11_link 64 = .ok (.ireturn, 1) := by decide +kernel
theorem dX11_pair_0 : decode cX11_pair 0 = .ok (.iload_n 1, 1) := by decide +kernel
theorem dX11_pair_1 : decode cX11_pair 1 = .ok (.iconst 4, 1) := by decide +kernel
theorem dX11_pair_2 : decode cX11_pair 2 = .ok (.invokestatic 96, 3) := by decide +kernel
theorem dX11_pair_5 : decode cX11_pair 5 = .ok (.ifCond .eq 20, 3) := by decide +kernel
theorem dX11_pair_8 : decode cX11_pair 8 = .ok (.iload_n 2, 1) := by decide +kernel
theorem dX11_pair_9 : decode cX11_pair 9 = .ok (.iconst 4, 1) := by decide +kernel
theorem dX11_pair_10 : decode cX11_pair 10 = .ok (.invokestatic 96, 3) := by decide +kernel
theorem dX11_pair_13 : decode cX11_pair 13 = .ok (.ifCond .eq 12, 3) := by decide +kernel
theorem dX11_pair_16 : decode cX11_pair 16 = .ok (.iload_n 3, 1) := by decide +kernel
theorem dX11_pair_17 : decode cX11_pair 17 = .ok (.iload 4, 2) := by decide +kernel
theorem dX11_pair_19 : decode cX11_pair 19 = .ok (.invokestatic 100, 3) := by decide +kernel
theorem dX11_pair_22 : decode cX11_pair 22 = .ok (.ifCond .ne 6, 3) := by decide +kernel
theorem dX11_pair_25 : decode cX11_pair 25 = .ok (.bipush (-2), 2) := by decide +kernel
theorem dX11_pair_27 : decode cX11_pair 27 = .ok (.ireturn, 1) := by decide +kernel
theorem dX11_pair_28 : decode cX11_pair 28 = .ok (.aload_n 0, 1) := by decide +kernel
theorem dX11_pair_29 : decode cX11_pair 29 = .ok (.getfield 21, 3) := by decide +kernel
theorem dX11_pair_32 : decode cX11_pair 32 = .ok (.iconst 4, 1) := by decide +kernel
theorem dX11_pair_33 : decode cX11_pair 33 = .ok (.iload_n 1, 1) := by decide +kernel
theorem dX11_pair_34 : decode cX11_pair 34 = .ok (.imul, 1) := by decide +kernel
theorem dX11_pair_35 : decode cX11_pair 35 = .ok (.iload_n 2, 1) := by decide +kernel
theorem dX11_pair_36 : decode cX11_pair 36 = .ok (.iadd, 1) := by decide +kernel
theorem dX11_pair_37 : decode cX11_pair 37 = .ok (.iload_n 3, 1) := by decide +kernel
theorem dX11_pair_38 : decode cX11_pair 38 = .ok (.iload 4, 2) := by decide +kernel
theorem dX11_pair_40 : decode cX11_pair 40 = .ok (.invokevirtual 111, 3) := by decide +kernel
theorem dX11_pair_43 : decode cX11_pair 43 = .ok (.aload_n 0, 1) := by decide +kernel
theorem dX11_pair_44 : decode cX11_pair 44 = .ok (.invokevirtual 93, 3) := by decide +kernel
theorem dX11_pair_47 : decode cX11_pair 47 = .ok (.iconst 1, 1) := by decide +kernel
theorem dX11_pair_48 : decode cX11_pair 48 = .ok (.ireturn, 1) := by decide +kernel
theorem dX11_thing_0 : decode cX11_thing 0 = .ok (.iload_n 1, 1) := by decide +kernel
theorem dX11_thing_1 : decode cX11_thing 1 = .ok (.iconst 1, 1) := by decide +kernel
theorem dX11_thing_2 : decode cX11_thing 2 = .ok (.if_icmp .lt 17, 3) := by decide +kernel
theorem dX11_thing_5 : decode cX11_thing 5 = .ok (.iload_n 1, 1) := by decide +kernel
theorem dX11_thing_6 : decode cX11_thing 6 = .ok (.bipush 50, 2) := by decide +kernel
theorem dX11_thing_8 : decode cX11_thing 8 = .ok (.if_icmp .gt 11, 3) := by decide +kernel
theorem dX11_thing_11 : decode cX11_thing 11 = .ok (.iload_n 2, 1) := by decide +kernel
theorem dX11_thing_12 : decode cX11_thing 12 = .ok (.iload_n 3, 1) := by decide +kernel
theorem dX11_thing_13 : decode cX11_thing 13 = .ok (.invokestatic 100, 3) := by decide +kernel
theorem dX11_thing_16 : decode cX11_thing 16 = .ok (.ifCond .ne 6, 3) := by decide +kernel
theorem dX11_thing_19 : decode cX11_thing 19 = .ok (.bipush (-2), 2) := by decide +kernel
theorem dX11_thing_21 : decode cX11_thing 21 = .ok (.ireturn, 1) := by decide +kernel
theorem dX11_thing_22 : decode cX11_thing 22 = .ok (.aload_n 0, 1) := by decide +kernel
theorem dX11_thing_23 : decode cX11_thing 23 = .ok (.getfield 28, 3) := by decide +kernel
theorem dX11_thing_26 : decode cX11_thing 26 = .ok (.getfield 115, 3) := by decide +kernel
theorem dX11_thing_29 : decode cX11_thing 29 = .ok (.invokevirtual 118, 3) := by decide +kernel
theorem dX11_thing_32 : decode cX11_thing 32 = .ok (.ifCond .eq 6, 3) := by decide +kernel
theorem dX11_thing_35 : decode cX11_thing 35 = .ok (.bipush (-4), 2) := by decide +kernel
theorem dX11_thing_37 : decode cX11_thing 37 = .ok (.ireturn, 1) := by decide +kernel
theorem dX11_thing_38 : decode cX11_thing 38 = .ok (.aload_n 0, 1) := by decide +kernel
theorem dX11_thing_39 : decode cX11_thing 39 = .ok (.invokevirtual 93, 3) := by decide +kernel
theorem dX11_thing_42 : decode cX11_thing 42 = .ok (.aload_n 0, 1) := by decide +kernel
theorem dX11_thing_43 : decode cX11_thing 43 = .ok (.getfield 28, 3) := by decide +kernel
theorem dX11_thing_46 : decode cX11_thing 46 = .ok (.iload_n 1, 1) := by decide +kernel
theorem dX11_thing_47 : decode cX11_thing 47 = .ok (.iload_n 2, 1) := by decide +kernel
theorem dX11_thing_48 : decode cX11_thing 48 = .ok (.iload_n 3, 1) := by decide +kernel
theorem dX11_thing_49 : decode cX11_thing 49 = .ok (.invokevirtual 119, 3) := by decide +kernel
theorem dX11_thing_52 : decode cX11_thing 52 = .ok (.ireturn, 1) := by decide +kernel
theorem dX11_room_0 : decode cX11_room 0 = .ok (.iload_n 1, 1) := by decide +kernel
theorem dX11_room_1 : decode cX11_room 1 = .ok (.ifCond .lt 10, 3) := by decide +kernel
theorem dX11_room_4 : decode cX11_room 4 = .ok (.iload_n 1, 1) := by decide +kernel
theorem dX11_room_5 : decode cX11_room 5 = .ok (.sipush 200, 3) := by decide +kernel
theorem dX11_room_8 : decode cX11_room 8 = .ok (.if_icmp .le 6, 3) := by decide +kernel
theorem dX11_room_11 : decode cX11_room 11 = .ok (.bipush (-2), 2) := by decide +kernel
theorem dX11_room_13 : decode cX11_room 13 = .ok (.ireturn, 1) := by decide +kernel
theorem dX11_room_14 : decode cX11_room 14 = .ok (.aload_n 0, 1) := by decide +kernel
theorem dX11_room_15 : decode cX11_room 15 = .ok (.getfield 28, 3) := by decide +kernel
theorem dX11_room_18 : decode cX11_room 18 = .ok (.getfield 123, 3) := by decide +kernel
theorem dX11_room_21 : decode cX11_room 21 = .ok (.istore_n 2, 1) := by decide +kernel
theorem dX11_room_22 : decode cX11_room 22 = .ok (.aload_n 0, 1) := by decide +kernel
theorem dX11_room_23 : decode cX11_room 23 = .ok (.getfield 28, 3) := by decide +kernel
theorem dX11_room_26 : decode cX11_room 26 = .ok (.iload_n 1, 1) := by decide +kernel
theorem dX11_room_27 : decode cX11_room 27 = .ok (.putfield 123, 3) := by decide +kernel
theorem dX11_room_30 : decode cX11_room 30 = .ok (.aload_n 0, 1) := by decide +kernel
theorem dX11_room_31 : decode cX11_room 31 = .ok (.invokevirtual 93, 3) := by decide +kernel
theorem dX11_room_34 : decode cX11_room 34 = .ok (.iload_n 2, 1) := by decide +kernel
theorem dX11_room_35 : decode cX11_room 35 = .ok (.ireturn, 1) := by decide +kernel
theorem dX11_block_0 : decode cX11_block 0 = .ok (.iload_n 1, 1) := by decide +kernel
theorem dX11_block_1 : decode cX11_block 1 = .ok (.iload_n 2, 1) := by decide +kernel
theorem dX11_block_2 : decode cX11_block 2 = .ok (.invokestatic 100, 3) := by decide +kernel
theorem dX11_block_5 : decode cX11_block 5 = .ok (.ifCond .ne 6, 3) := by decide +kernel
theorem dX11_block_8 : decode cX11_block 8 = .ok (.bipush (-2), 2) := by decide +kernel
theorem dX11_block_10 : decode cX11_block 10 = .ok (.ireturn, 1) := by decide +kernel
theorem dX11_block_11 : decode cX11_block 11 = .ok (.aload_n 0, 1) := by decide +kernel
theorem dX11_block_12 : decode cX11_block 12 = .ok (.getfield 35, 3) := by decide +kernel
theorem dX11_block_15 : decode cX11_block 15 = .ok (.getfield 126, 3) := by decide +kernel
theorem dX11_block_18 : decode cX11_block 18 = .ok (.invokevirtual 118, 3) := by decide +kernel
theorem dX11_block_21 : decode cX11_block 21 = .ok (.ifCond .eq 6, 3) := by decide +kernel
theorem dX11_block_24 : decode cX11_block 24 = .ok (.bipush (-4), 2) := by decide +kernel
theorem dX11_block_26 : decode cX11_block 26 = .ok (.ireturn, 1) := by decide +kernel
theorem dX11_block_27 : decode cX11_block 27 = .ok (.aload_n 0, 1) := by decide +kernel
theorem dX11_block_28 : decode cX11_block 28 = .ok (.invokevirtual 93, 3) := by decide +kernel
theorem dX11_block_31 : decode cX11_block 31 = .ok (.aload_n 0, 1) := by decide +kernel
theorem dX11_block_32 : decode cX11_block 32 = .ok (.getfield 35, 3) := by decide +kernel
theorem dX11_block_35 : decode cX11_block 35 = .ok (.iload_n 1, 1) := by decide +kernel
theorem dX11_block_36 : decode cX11_block 36 = .ok (.iload_n 2, 1) := by decide +kernel
theorem dX11_block_37 : decode cX11_block 37 = .ok (.invokevirtual 127, 3) := by decide +kernel
theorem dX11_block_40 : decode cX11_block 40 = .ok (.ireturn, 1) := by decide +kernel
theorem dX11_needs_0 : decode cX11_needs 0 = .ok (.aload_n 0, 1) := by decide +kernel
theorem dX11_needs_1 : decode cX11_needs 1 = .ok (.getfield 35, 3) := by decide +kernel
theorem dX11_needs_4 : decode cX11_needs 4 = .ok (.getfield 126, 3) := by decide +kernel
theorem dX11_needs_7 : decode cX11_needs 7 = .ok (.iload_n 1, 1) := by decide +kernel
theorem dX11_needs_8 : decode cX11_needs 8 = .ok (.invokevirtual 131, 3) := by decide +kernel
theorem dX11_needs_11 : decode cX11_needs 11 = .ok (.ifCond .eq 22, 3) := by decide +kernel
theorem dX11_needs_14 : decode cX11_needs 14 = .ok (.aload_n 0, 1) := by decide +kernel
theorem dX11_needs_15 : decode cX11_needs 15 = .ok (.getfield 35, 3) := by decide +kernel
theorem dX11_needs_18 : decode cX11_needs 18 = .ok (.getfield 126, 3) := by decide +kernel
theorem dX11_needs_21 : decode cX11_needs 21 = .ok (.iload_n 2, 1) := by decide +kernel
theorem dX11_needs_22 : decode cX11_needs 22 = .ok (.invokevirtual 131, 3) := by decide +kernel
theorem dX11_needs_25 : decode cX11_needs 25 = .ok (.ifCond .eq 8, 3) := by decide +kernel
theorem dX11_needs_28 : decode cX11_needs 28 = .ok (.iload_n 1, 1) := by decide +kernel
theorem dX11_needs_29 : decode cX11_needs 29 = .ok (.iload_n 2, 1) := by decide +kernel
theorem dX11_needs_30 : decode cX11_needs 30 = .ok (.if_icmp .ne 6, 3) := by decide +kernel
theorem dX11_needs_33 : decode cX11_needs 33 = .ok (.bipush (-2), 2) := by decide +kernel
theorem dX11_needs_35 : decode cX11_needs 35 = .ok (.ireturn, 1) := by decide +kernel
theorem dX11_needs_36 : decode cX11_needs 36 = .ok (.aload_n 0, 1) := by decide +kernel
theorem dX11_needs_37 : decode cX11_needs 37 = .ok (.getfield 35, 3) := by decide +kernel
theorem dX11_needs_40 : decode cX11_needs 40 = .ok (.iload_n 1, 1) := by decide +kernel
theorem dX11_needs_41 : decode cX11_needs 41 = .ok (.iload_n 2, 1) := by decide +kernel
theorem dX11_needs_42 : decode cX11_needs 42 = .ok (.invokevirtual 135, 3) := by decide +kernel
theorem dX11_needs_45 : decode cX11_needs 45 = .ok (.iload_n 3, 1) := by decide +kernel
theorem dX11_needs_46 : decode cX11_needs 46 = .ok (.if_icmp .ne 6, 3) := by decide +kernel
theorem dX11_needs_49 : decode cX11_needs 49 = .ok (.bipush (-3), 2) := by decide +kernel
theorem dX11_needs_51 : decode cX11_needs 51 = .ok (.ireturn, 1) := by decide +kernel
theorem dX11_needs_52 : decode cX11_needs 52 = .ok (.aload_n 0, 1) := by decide +kernel
theorem dX11_needs_53 : decode cX11_needs 53 = .ok (.getfield 35, 3) := by decide +kernel
theorem dX11_needs_56 : decode cX11_needs 56 = .ok (.iload_n 1, 1) := by decide +kernel
theorem dX11_needs_57 : decode cX11_needs 57 = .ok (.iload_n 2, 1) := by decide +kernel
theorem dX11_needs_58 : decode cX11_needs 58 = .ok (.invokevirtual 138, 3) := by decide +kernel
theorem dX11_needs_61 : decode cX11_needs 61 = .ok (.aload_n 0, 1) := by decide +kernel
theorem dX11_needs_62 : decode cX11_needs 62 = .ok (.invokevirtual 93, 3) := by decide +kernel
theorem dX11_needs_65 : decode cX11_needs 65 = .ok (.iconst 1, 1) := by decide +kernel
theorem dX11_needs_66 : decode cX11_needs 66 = .ok (.ireturn, 1) := by decide +kernel
theorem dX11_put_0 : decode cX11_put 0 = .ok (.aload_n 0, 1) := by decide +kernel
theorem dX11_put_1 : decode cX11_put 1 = .ok (.invokevirtual 142, 3) := by decide +kernel
theorem dX11_put_4 : decode cX11_put 4 = .ok (.iload_n 1, 1) := by decide +kernel
theorem dX11_put_5 : decode cX11_put 5 = .ok (.invokevirtual 131, 3) := by decide +kernel
theorem dX11_put_8 : decode cX11_put 8 = .ok (.ifCond .eq 11, 3) := by decide +kernel
theorem dX11_put_11 : decode cX11_put 11 = .ok (.iload_n 2, 1) := by decide +kernel
theorem dX11_put_12 : decode cX11_put 12 = .ok (.iload_n 3, 1) := by decide +kernel
theorem dX11_put_13 : decode cX11_put 13 = .ok (.invokestatic 100, 3) := by decide +kernel
theorem dX11_put_16 : decode cX11_put 16 = .ok (.ifCond .ne 6, 3) := by decide +kernel
theorem dX11_put_19 : decode cX11_put 19 = .ok (.bipush (-2), 2) := by decide +kernel
theorem dX11_put_21 : decode cX11_put 21 = .ok (.ireturn, 1) := by decide +kernel
theorem dX11_put_22 : decode cX11_put 22 = .ok (.aload_n 0, 1) := by decide +kernel
theorem dX11_put_23 : decode cX11_put 23 = .ok (.invokevirtual 142, 3) := by decide +kernel
theorem dX11_put_26 : decode cX11_put 26 = .ok (.iload_n 1, 1) := by decide +kernel
theorem dX11_put_27 : decode cX11_put 27 = .ok (.iload_n 2, 1) := by decide +kernel
theorem dX11_put_28 : decode cX11_put 28 = .ok (.iload_n 3, 1) := by decide +kernel
theorem dX11_put_29 : decode cX11_put 29 = .ok (.invokevirtual 111, 3) := by decide +kernel
theorem dX11_put_32 : decode cX11_put 32 = .ok (.aload_n 0, 1) := by decide +kernel
theorem dX11_put_33 : decode cX11_put 33 = .ok (.invokevirtual 93, 3) := by decide +kernel
theorem dX11_put_36 : decode cX11_put 36 = .ok (.iconst 1, 1) := by decide +kernel
theorem dX11_put_37 : decode cX11_put 37 = .ok (.ireturn, 1) := by decide +kernel
theorem dX11_clear_0 : decode cX11_clear 0 = .ok (.aload_n 0, 1) := by decide +kernel
theorem dX11_clear_1 : decode cX11_clear 1 = .ok (.invokevirtual 142, 3) := by decide +kernel
theorem dX11_clear_4 : decode cX11_clear 4 = .ok (.getfield 146, 3) := by decide +kernel
theorem dX11_clear_7 : decode cX11_clear 7 = .ok (.istore_n 1, 1) := by decide +kernel
theorem dX11_clear_8 : decode cX11_clear 8 = .ok (.aload_n 0, 1) := by decide +kernel
theorem dX11_clear_9 : decode cX11_clear 9 = .ok (.getfield 54, 3) := by decide +kernel
theorem dX11_clear_12 : decode cX11_clear 12 = .ok (.aload_n 0, 1) := by decide +kernel
theorem dX11_clear_13 : decode cX11_clear 13 = .ok (.getfield 83, 3) := by decide +kernel
theorem dX11_clear_16 : decode cX11_clear 16 = .ok (.aaload, 1) := by decide +kernel
theorem dX11_clear_17 : decode cX11_clear 17 = .ok (.invokevirtual 149, 3) := by decide +kernel
theorem dX11_clear_20 : decode cX11_clear 20 = .ok (.aload_n 0, 1) := by decide +kernel
theorem dX11_clear_21 : decode cX11_clear 21 = .ok (.invokevirtual 93, 3) := by decide +kernel
theorem dX11_clear_24 : decode cX11_clear 24 = .ok (.iload_n 1, 1) := by decide +kernel
theorem dX11_clear_25 : decode cX11_clear 25 = .ok (.ireturn, 1) := by decide +kernel
theorem dX11_plans_0 : decode cX11_plans 0 = .ok (.iload_n 1, 1) := by decide +kernel
theorem dX11_plans_1 : decode cX11_plans 1 = .ok (.iconst 2, 1) := by decide +kernel
theorem dX11_plans_2 : decode cX11_plans 2 = .ok (.invokestatic 96, 3) := by decide +kernel
theorem dX11_plans_5 : decode cX11_plans 5 = .ok (.ifCond .ne 6, 3) := by decide +kernel
theorem dX11_plans_8 : decode cX11_plans 8 = .ok (.bipush (-2), 2) := by decide +kernel
theorem dX11_plans_10 : decode cX11_plans 10 = .ok (.ireturn, 1) := by decide +kernel
theorem dX11_plans_11 : decode cX11_plans 11 = .ok (.aload_n 0, 1) := by decide +kernel
theorem dX11_plans_12 : decode cX11_plans 12 = .ok (.invokevirtual 152, 3) := by decide +kernel
theorem dX11_plans_15 : decode cX11_plans 15 = .ok (.iload_n 1, 1) := by decide +kernel
theorem dX11_plans_16 : decode cX11_plans 16 = .ok (.ifCond .ne 13, 3) := by decide +kernel
theorem dX11_plans_19 : decode cX11_plans 19 = .ok (.aload_n 0, 1) := by decide +kernel
theorem dX11_plans_20 : decode cX11_plans 20 = .ok (.getfield 61, 3) := by decide +kernel
theorem dX11_plans_23 : decode cX11_plans 23 = .ok (.getfield 155, 3) := by decide +kernel
theorem dX11_plans_26 : decode cX11_plans 26 = .ok (.goto 7, 3) := by decide +kernel
theorem dX11_plans_29 : decode cX11_plans 29 = .ok (.aload_n 0, 1) := by decide +kernel
theorem dX11_plans_30 : decode cX11_plans 30 = .ok (.invokevirtual 156, 3) := by decide +kernel
theorem dX11_plans_33 : decode cX11_plans 33 = .ok (.ireturn, 1) := by decide +kernel
theorem dX11_isPlan_0 : decode cX11_isPlan 0 = .ok (.iload_n 1, 1) := by decide +kernel
theorem dX11_isPlan_1 : decode cX11_isPlan 1 = .ok (.ifCond .lt 17, 3) := by decide +kernel
theorem dX11_isPlan_4 : decode cX11_isPlan 4 = .ok (.iload_n 1, 1) := by decide +kernel
theorem dX11_isPlan_5 : decode cX11_isPlan 5 = .ok (.aload_n 0, 1) := by decide +kernel
theorem dX11_isPlan_6 : decode cX11_isPlan 6 = .ok (.invokevirtual 142, 3) := by decide +kernel
theorem dX11_isPlan_9 : decode cX11_isPlan 9 = .ok (.invokevirtual 160, 3) := by decide +kernel
theorem dX11_isPlan_12 : decode cX11_isPlan 12 = .ok (.iconst (-1), 1) := by decide +kernel
theorem dX11_isPlan_13 : decode cX11_isPlan 13 = .ok (.ixor, 1) := by decide +kernel
theorem dX11_isPlan_14 : decode cX11_isPlan 14 = .ok (.iand, 1) := by decide +kernel
theorem dX11_isPlan_15 : decode cX11_isPlan 15 = .ok (.ifCond .eq 6, 3) := by decide +kernel
theorem dX11_isPlan_18 : decode cX11_isPlan 18 = .ok (.bipush (-2), 2) := by decide +kernel
theorem dX11_isPlan_20 : decode cX11_isPlan 20 = .ok (.ireturn, 1) := by decide +kernel
theorem dX11_isPlan_21 : decode cX11_isPlan 21 = .ok (.aload_n 0, 1) := by decide +kernel
theorem dX11_isPlan_22 : decode cX11_isPlan 22 = .ok (.invokevirtual 152, 3) := by decide +kernel
theorem dX11_isPlan_25 : decode cX11_isPlan 25 = .ok (.aload_n 0, 1) := by decide +kernel
theorem dX11_isPlan_26 : decode cX11_isPlan 26 = .ok (.getfield 61, 3) := by decide +kernel
theorem dX11_isPlan_29 : decode cX11_isPlan 29 = .ok (.iload_n 1, 1) := by decide +kernel
theorem dX11_isPlan_30 : decode cX11_isPlan 30 = .ok (.invokevirtual 163, 3) := by decide +kernel
theorem dX11_isPlan_33 : decode cX11_isPlan 33 = .ok (.iconst (-1), 1) := by decide +kernel
theorem dX11_isPlan_34 : decode cX11_isPlan 34 = .ok (.if_icmp .ne 7, 3) := by decide +kernel
theorem dX11_isPlan_37 : decode cX11_isPlan 37 = .ok (.iconst 0, 1) := by decide +kernel
theorem dX11_isPlan_38 : decode cX11_isPlan 38 = .ok (.goto 4, 3) := by decide +kernel
theorem dX11_isPlan_41 : decode cX11_isPlan 41 = .ok (.iconst 1, 1) := by decide +kernel
theorem dX11_isPlan_42 : decode cX11_isPlan 42 = .ok (.ireturn, 1) := by decide +kernel
theorem dX11_bestAt_0 : decode cX11_bestAt 0 = .ok (.iload_n 1, 1) := by decide +kernel
theorem dX11_bestAt_1 : decode cX11_bestAt 1 = .ok (.ifCond .lt 25, 3) := by decide +kernel
theorem dX11_bestAt_4 : decode cX11_bestAt 4 = .ok (.iload_n 2, 1) := by decide +kernel
theorem dX11_bestAt_5 : decode cX11_bestAt 5 = .ok (.iconst 1, 1) := by decide +kernel
theorem dX11_bestAt_6 : decode cX11_bestAt 6 = .ok (.if_icmp .lt 20, 3) := by decide +kernel
theorem dX11_bestAt_9 : decode cX11_bestAt 9 = .ok (.iload_n 2, 1) := by decide +kernel
theorem dX11_bestAt_10 : decode cX11_bestAt 10 = .ok (.sipush 1000, 3) := by decide +kernel
theorem dX11_bestAt_13 : decode cX11_bestAt 13 = .ok (.if_icmp .gt 13, 3) := by decide +kernel
theorem dX11_bestAt_16 : decode cX11_bestAt 16 = .ok (.iload_n 1, 1) := by decide +kernel
theorem dX11_bestAt_17 : decode cX11_bestAt 17 = .ok (.aload_n 0, 1) := by decide +kernel
theorem dX11_bestAt_18 : decode cX11_bestAt 18 = .ok (.getfield 79, 3) := by decide +kernel
theorem dX11_bestAt_21 : decode cX11_bestAt 21 = .ok (.iload_n 2, 1) := by decide +kernel
theorem dX11_bestAt_22 : decode cX11_bestAt 22 = .ok (.imul, 1) := by decide +kernel
theorem dX11_bestAt_23 : decode cX11_bestAt 23 = .ok (.if_icmp .le 6, 3) := by decide +kernel
theorem dX11_bestAt_26 : decode cX11_bestAt 26 = .ok (.bipush (-2), 2) := by decide +kernel
theorem dX11_bestAt_28 : decode cX11_bestAt 28 = .ok (.ireturn, 1) := by decide +kernel
theorem dX11_bestAt_29 : decode cX11_bestAt 29 = .ok (.aload_n 0, 1) := by decide +kernel
theorem dX11_bestAt_30 : decode cX11_bestAt 30 = .ok (.invokevirtual 152, 3) := by decide +kernel
theorem dX11_bestAt_33 : decode cX11_bestAt 33 = .ok (.aload_n 0, 1) := by decide +kernel
theorem dX11_bestAt_34 : decode cX11_bestAt 34 = .ok (.getfield 61, 3) := by decide +kernel
theorem dX11_bestAt_37 : decode cX11_bestAt 37 = .ok (.getfield 155, 3) := by decide +kernel
theorem dX11_bestAt_40 : decode cX11_bestAt 40 = .ok (.ifCond .ne 6, 3) := by decide +kernel
theorem dX11_bestAt_43 : decode cX11_bestAt 43 = .ok (.bipush (-3), 2) := by decide +kernel
theorem dX11_bestAt_45 : decode cX11_bestAt 45 = .ok (.ireturn, 1) := by decide +kernel
theorem dX11_bestAt_46 : decode cX11_bestAt 46 = .ok (.aload_n 0, 1) := by decide +kernel
theorem dX11_bestAt_47 : decode cX11_bestAt 47 = .ok (.getfield 61, 3) := by decide +kernel
theorem dX11_bestAt_50 : decode cX11_bestAt 50 = .ok (.iload_n 1, 1) := by decide +kernel
theorem dX11_bestAt_51 : decode cX11_bestAt 51 = .ok (.i2l, 1) := by decide +kernel
theorem dX11_bestAt_52 : decode cX11_bestAt 52 = .ok (.iload_n 2, 1) := by decide +kernel
theorem dX11_bestAt_53 : decode cX11_bestAt 53 = .ok (.i2l, 1) := by decide +kernel
theorem dX11_bestAt_54 : decode cX11_bestAt 54 = .ok (.invokevirtual 167, 3) := by decide +kernel
theorem dX11_bestAt_57 : decode cX11_bestAt 57 = .ok (.istore_n 3, 1) := by decide +kernel
theorem dX11_bestAt_58 : decode cX11_bestAt 58 = .ok (.aload_n 0, 1) := by decide +kernel
theorem dX11_bestAt_59 : decode cX11_bestAt 59 = .ok (.getfield 75, 3) := by decide +kernel
theorem dX11_bestAt_62 : decode cX11_bestAt 62 = .ok (.aload_n 0, 1) := by decide +kernel
theorem dX11_bestAt_63 : decode cX11_bestAt 63 = .ok (.getfield 61, 3) := by decide +kernel
theorem dX11_bestAt_66 : decode cX11_bestAt 66 = .ok (.iload_n 3, 1) := by decide +kernel
theorem dX11_bestAt_67 : decode cX11_bestAt 67 = .ok (.iload_n 1, 1) := by decide +kernel
theorem dX11_bestAt_68 : decode cX11_bestAt 68 = .ok (.i2l, 1) := by decide +kernel
theorem dX11_bestAt_69 : decode cX11_bestAt 69 = .ok (.iload_n 2, 1) := by decide +kernel
theorem dX11_bestAt_70 : decode cX11_bestAt 70 = .ok (.i2l, 1) := by decide +kernel
theorem dX11_bestAt_71 : decode cX11_bestAt 71 = .ok (.invokevirtual 171, 3) := by decide +kernel
theorem dX11_bestAt_74 : decode cX11_bestAt 74 = .ok (.iload_n 2, 1) := by decide +kernel
theorem dX11_bestAt_75 : decode cX11_bestAt 75 = .ok (.i2l, 1) := by decide +kernel
theorem dX11_bestAt_76 : decode cX11_bestAt 76 = .ok (.invokevirtual 175, 3) := by decide +kernel
theorem dX11_bestAt_79 : decode cX11_bestAt 79 = .ok (.aload_n 0, 1) := by decide +kernel
theorem dX11_bestAt_80 : decode cX11_bestAt 80 = .ok (.getfield 61, 3) := by decide +kernel
theorem dX11_bestAt_83 : decode cX11_bestAt 83 = .ok (.getfield 179, 3) := by decide +kernel
theorem dX11_bestAt_86 : decode cX11_bestAt 86 = .ok (.iload_n 3, 1) := by decide +kernel
theorem dX11_bestAt_87 : decode cX11_bestAt 87 = .ok (.iaload, 1) := by decide +kernel
theorem dX11_bestAt_88 : decode cX11_bestAt 88 = .ok (.ireturn, 1) := by decide +kernel
theorem dX11_pieces_0 : decode cX11_pieces 0 = .ok (.aload_n 0, 1) := by decide +kernel
theorem dX11_pieces_1 : decode cX11_pieces 1 = .ok (.invokevirtual 183, 3) := by decide +kernel
theorem dX11_pieces_4 : decode cX11_pieces 4 = .ok (.aload_n 0, 1) := by decide +kernel
theorem dX11_pieces_5 : decode cX11_pieces 5 = .ok (.getfield 68, 3) := by decide +kernel
theorem dX11_pieces_8 : decode cX11_pieces 8 = .ok (.getfield 186, 3) := by decide +kernel
theorem dX11_pieces_11 : decode cX11_pieces 11 = .ok (.ifCond .ne 8, 3) := by decide +kernel
theorem dX11_pieces_14 : decode cX11_pieces 14 = .ok (.bipush (-3), 2) := by decide +kernel
theorem dX11_pieces_16 : decode cX11_pieces 16 = .ok (.goto 10, 3) := by decide +kernel
theorem dX11_pieces_19 : decode cX11_pieces 19 = .ok (.aload_n 0, 1) := by decide +kernel
theorem dX11_pieces_20 : decode cX11_pieces 20 = .ok (.getfield 68, 3) := by decide +kernel
theorem dX11_pieces_23 : decode cX11_pieces 23 = .ok (.getfield 186, 3) := by decide +kernel
theorem dX11_pieces_26 : decode cX11_pieces 26 = .ok (.ireturn, 1) := by decide +kernel
theorem dX11_piece_0 : decode cX11_piece 0 = .ok (.iload_n 1, 1) := by decide +kernel
theorem dX11_piece_1 : decode cX11_piece 1 = .ok (.ifCond .lt 11, 3) := by decide +kernel
theorem dX11_piece_4 : decode cX11_piece 4 = .ok (.iload_n 2, 1) := by decide +kernel
theorem dX11_piece_5 : decode cX11_piece 5 = .ok (.iconst 3, 1) := by decide +kernel
theorem dX11_piece_6 : decode cX11_piece 6 = .ok (.invokestatic 96, 3) := by decide +kernel
theorem dX11_piece_9 : decode cX11_piece 9 = .ok (.ifCond .ne 6, 3) := by decide +kernel
theorem dX11_piece_12 : decode cX11_piece 12 = .ok (.ldc 187, 2) := by decide +kernel
theorem dX11_piece_14 : decode cX11_piece 14 = .ok (.ireturn, 1) := by decide +kernel
theorem dX11_piece_15 : decode cX11_piece 15 = .ok (.aload_n 0, 1) := by decide +kernel
theorem dX11_piece_16 : decode cX11_piece 16 = .ok (.invokevirtual 183, 3) := by decide +kernel
theorem dX11_piece_19 : decode cX11_piece 19 = .ok (.aload_n 0, 1) := by decide +kernel
theorem dX11_piece_20 : decode cX11_piece 20 = .ok (.getfield 68, 3) := by decide +kernel
theorem dX11_piece_23 : decode cX11_piece 23 = .ok (.getfield 186, 3) := by decide +kernel
theorem dX11_piece_26 : decode cX11_piece 26 = .ok (.ifCond .ne 6, 3) := by decide +kernel
theorem dX11_piece_29 : decode cX11_piece 29 = .ok (.ldc 188, 2) := by decide +kernel
theorem dX11_piece_31 : decode cX11_piece 31 = .ok (.ireturn, 1) := by decide +kernel
theorem dX11_piece_32 : decode cX11_piece 32 = .ok (.iload_n 1, 1) := by decide +kernel
theorem dX11_piece_33 : decode cX11_piece 33 = .ok (.aload_n 0, 1) := by decide +kernel
theorem dX11_piece_34 : decode cX11_piece 34 = .ok (.getfield 68, 3) := by decide +kernel
theorem dX11_piece_37 : decode cX11_piece 37 = .ok (.getfield 186, 3) := by decide +kernel
theorem dX11_piece_40 : decode cX11_piece 40 = .ok (.if_icmp .lt 6, 3) := by decide +kernel
theorem dX11_piece_43 : decode cX11_piece 43 = .ok (.ldc 187, 2) := by decide +kernel
theorem dX11_piece_45 : decode cX11_piece 45 = .ok (.ireturn, 1) := by decide +kernel
theorem dX11_piece_46 : decode cX11_piece 46 = .ok (.aload_n 0, 1) := by decide +kernel
theorem dX11_piece_47 : decode cX11_piece 47 = .ok (.getfield 68, 3) := by decide +kernel
theorem dX11_piece_50 : decode cX11_piece 50 = .ok (.getfield 189, 3) := by decide +kernel
theorem dX11_piece_53 : decode cX11_piece 53 = .ok (.iload_n 1, 1) := by decide +kernel
theorem dX11_piece_54 : decode cX11_piece 54 = .ok (.iaload, 1) := by decide +kernel
theorem dX11_piece_55 : decode cX11_piece 55 = .ok (.istore_n 3, 1) := by decide +kernel
theorem dX11_piece_56 : decode cX11_piece 56 = .ok (.iload_n 2, 1) := by decide +kernel
theorem dX11_piece_57 : decode cX11_piece 57 = .ok (.ifCond .ne 13, 3) := by decide +kernel
theorem dX11_piece_60 : decode cX11_piece 60 = .ok (.aload_n 0, 1) := by decide +kernel
theorem dX11_piece_61 : decode cX11_piece 61 = .ok (.getfield 61, 3) := by decide +kernel
theorem dX11_piece_64 : decode cX11_piece 64 = .ok (.getfield 179, 3) := by decide +kernel
theorem dX11_piece_67 : decode cX11_piece 67 = .ok (.iload_n 3, 1) := by decide +kernel
theorem dX11_piece_68 : decode cX11_piece 68 = .ok (.iaload, 1) := by decide +kernel
theorem dX11_piece_69 : decode cX11_piece 69 = .ok (.ireturn, 1) := by decide +kernel
theorem dX11_piece_70 : decode cX11_piece 70 = .ok (.iload_n 2, 1) := by decide +kernel
theorem dX11_piece_71 : decode cX11_piece 71 = .ok (.iconst 1, 1) := by decide +kernel
theorem dX11_piece_72 : decode cX11_piece 72 = .ok (.if_icmp .ne 15, 3) := by decide +kernel
theorem dX11_piece_75 : decode cX11_piece 75 = .ok (.aload_n 0, 1) := by decide +kernel
theorem dX11_piece_76 : decode cX11_piece 76 = .ok (.getfield 61, 3) := by decide +kernel
theorem dX11_piece_79 : decode cX11_piece 79 = .ok (.getfield 192, 3) := by decide +kernel
theorem dX11_piece_82 : decode cX11_piece 82 = .ok (.iload_n 3, 1) := by decide +kernel
theorem dX11_piece_83 : decode cX11_piece 83 = .ok (.iaload, 1) := by decide +kernel
theorem dX11_piece_84 : decode cX11_piece 84 = .ok (.goto 12, 3) := by decide +kernel
theorem dX11_piece_87 : decode cX11_piece 87 = .ok (.aload_n 0, 1) := by decide +kernel
theorem dX11_piece_88 : decode cX11_piece 88 = .ok (.getfield 61, 3) := by decide +kernel
theorem dX11_piece_91 : decode cX11_piece 91 = .ok (.getfield 195, 3) := by decide +kernel
theorem dX11_piece_94 : decode cX11_piece 94 = .ok (.iload_n 3, 1) := by decide +kernel
theorem dX11_piece_95 : decode cX11_piece 95 = .ok (.iaload, 1) := by decide +kernel
theorem dX11_piece_96 : decode cX11_piece 96 = .ok (.ireturn, 1) := by decide +kernel
theorem dX11_change_0 : decode cX11_change 0 = .ok (.iload_n 1, 1) := by decide +kernel
theorem dX11_change_1 : decode cX11_change 1 = .ok (.ifCond .ge 6, 3) := by decide +kernel
theorem dX11_change_4 : decode cX11_change 4 = .ok (.bipush (-2), 2) := by decide +kernel
theorem dX11_change_6 : decode cX11_change 6 = .ok (.ireturn, 1) := by decide +kernel
theorem dX11_change_7 : decode cX11_change 7 = .ok (.aload_n 0, 1) := by decide +kernel
theorem dX11_change_8 : decode cX11_change 8 = .ok (.invokevirtual 183, 3) := by decide +kernel
theorem dX11_change_11 : decode cX11_change 11 = .ok (.aload_n 0, 1) := by decide +kernel
theorem dX11_change_12 : decode cX11_change 12 = .ok (.getfield 68, 3) := by decide +kernel
theorem dX11_change_15 : decode cX11_change 15 = .ok (.getfield 186, 3) := by decide +kernel
theorem dX11_change_18 : decode cX11_change 18 = .ok (.ifCond .ne 6, 3) := by decide +kernel
theorem dX11_change_21 : decode cX11_change 21 = .ok (.bipush (-3), 2) := by decide +kernel
theorem dX11_change_23 : decode cX11_change 23 = .ok (.ireturn, 1) := by decide +kernel
theorem dX11_change_24 : decode cX11_change 24 = .ok (.iload_n 1, 1) := by decide +kernel
theorem dX11_change_25 : decode cX11_change 25 = .ok (.aload_n 0, 1) := by decide +kernel
theorem dX11_change_26 : decode cX11_change 26 = .ok (.getfield 68, 3) := by decide +kernel
theorem dX11_change_29 : decode cX11_change 29 = .ok (.getfield 186, 3) := by decide +kernel
theorem dX11_change_32 : decode cX11_change 32 = .ok (.iconst 2, 1) := by decide +kernel
theorem dX11_change_33 : decode cX11_change 33 = .ok (.isub, 1) := by decide +kernel
theorem dX11_change_34 : decode cX11_change 34 = .ok (.if_icmp .le 6, 3) := by decide +kernel
theorem dX11_change_37 : decode cX11_change 37 = .ok (.bipush (-2), 2) := by decide +kernel
theorem dX11_change_39 : decode cX11_change 39 = .ok (.ireturn, 1) := by decide +kernel
theorem dX11_change_40 : decode cX11_change 40 = .ok (.aload_n 0, 1) := by decide +kernel
theorem dX11_change_41 : decode cX11_change 41 = .ok (.iload_n 1, 1) := by decide +kernel
theorem dX11_change_42 : decode cX11_change 42 = .ok (.iconst 1, 1) := by decide +kernel
theorem dX11_change_43 : decode cX11_change 43 = .ok (.iadd, 1) := by decide +kernel
theorem dX11_change_44 : decode cX11_change 44 = .ok (.invokevirtual 198, 3) := by decide +kernel
theorem dX11_change_47 : decode cX11_change 47 = .ok (.iconst 1, 1) := by decide +kernel
theorem dX11_change_48 : decode cX11_change 48 = .ok (.ireturn, 1) := by decide +kernel
theorem dX11_highest_0 : decode cX11_highest 0 = .ok (.iload_n 1, 1) := by decide +kernel
theorem dX11_highest_1 : decode cX11_highest 1 = .ok (.iconst 2, 1) := by decide +kernel
theorem dX11_highest_2 : decode cX11_highest 2 = .ok (.invokestatic 96, 3) := by decide +kernel
theorem dX11_highest_5 : decode cX11_highest 5 = .ok (.ifCond .ne 6, 3) := by decide +kernel
theorem dX11_highest_8 : decode cX11_highest 8 = .ok (.bipush (-2), 2) := by decide +kernel
theorem dX11_highest_10 : decode cX11_highest 10 = .ok (.ireturn, 1) := by decide +kernel
theorem dX11_highest_11 : decode cX11_highest 11 = .ok (.aload_n 0, 1) := by decide +kernel
theorem dX11_highest_12 : decode cX11_highest 12 = .ok (.invokevirtual 183, 3) := by decide +kernel
theorem dX11_highest_15 : decode cX11_highest 15 = .ok (.aload_n 0, 1) := by decide +kernel
theorem dX11_highest_16 : decode cX11_highest 16 = .ok (.getfield 68, 3) := by decide +kernel
theorem dX11_highest_19 : decode cX11_highest 19 = .ok (.getfield 186, 3) := by decide +kernel
theorem dX11_highest_22 : decode cX11_highest 22 = .ok (.ifCond .ne 6, 3) := by decide +kernel
theorem dX11_highest_25 : decode cX11_highest 25 = .ok (.bipush (-3), 2) := by decide +kernel
theorem dX11_highest_27 : decode cX11_highest 27 = .ok (.ireturn, 1) := by decide +kernel
theorem dX11_highest_28 : decode cX11_highest 28 = .ok (.aload_n 0, 1) := by decide +kernel
theorem dX11_highest_29 : decode cX11_highest 29 = .ok (.getfield 68, 3) := by decide +kernel
theorem dX11_highest_32 : decode cX11_highest 32 = .ok (.aload_n 0, 1) := by decide +kernel
theorem dX11_highest_33 : decode cX11_highest 33 = .ok (.getfield 61, 3) := by decide +kernel
theorem dX11_highest_36 : decode cX11_highest 36 = .ok (.invokevirtual 201, 3) := by decide +kernel
theorem dX11_highest_39 : decode cX11_highest 39 = .ok (.istore_n 2, 1) := by decide +kernel
theorem dX11_highest_40 : decode cX11_highest 40 = .ok (.iload_n 1, 1) := by decide +kernel
theorem dX11_highest_41 : decode cX11_highest 41 = .ok (.ifCond .ne 11, 3) := by decide +kernel
theorem dX11_highest_44 : decode cX11_highest 44 = .ok (.aload_n 0, 1) := by decide +kernel
theorem dX11_highest_45 : decode cX11_highest 45 = .ok (.iload_n 2, 1) := by decide +kernel
theorem dX11_highest_46 : decode cX11_highest 46 = .ok (.invokevirtual 198, 3) := by decide +kernel
theorem dX11_highest_49 : decode cX11_highest 49 = .ok (.goto 31, 3) := by decide +kernel
theorem dX11_highest_52 : decode cX11_highest 52 = .ok (.aload_n 0, 1) := by decide +kernel
theorem dX11_highest_53 : decode cX11_highest 53 = .ok (.getfield 75, 3) := by decide +kernel
theorem dX11_highest_56 : decode cX11_highest 56 = .ok (.aload_n 0, 1) := by decide +kernel
theorem dX11_highest_57 : decode cX11_highest 57 = .ok (.getfield 68, 3) := by decide +kernel
theorem dX11_highest_60 : decode cX11_highest 60 = .ok (.aload_n 0, 1) := by decide +kernel
theorem dX11_highest_61 : decode cX11_highest 61 = .ok (.getfield 61, 3) := by decide +kernel
theorem dX11_highest_64 : decode cX11_highest 64 = .ok (.iload_n 2, 1) := by decide +kernel
theorem dX11_highest_65 : decode cX11_highest 65 = .ok (.invokevirtual 205, 3) := by decide +kernel
theorem dX11_highest_68 : decode cX11_highest 68 = .ok (.aload_n 0, 1) := by decide +kernel
theorem dX11_highest_69 : decode cX11_highest 69 = .ok (.getfield 68, 3) := by decide +kernel
theorem dX11_highest_72 : decode cX11_highest 72 = .ok (.getfield 209, 3) := by decide +kernel
theorem dX11_highest_75 : decode cX11_highest 75 = .ok (.iload_n 2, 1) := by decide +kernel
theorem dX11_highest_76 : decode cX11_highest 76 = .ok (.laload, 1) := by decide +kernel
theorem dX11_highest_77 : decode cX11_highest 77 = .ok (.invokevirtual 175, 3) := by decide +kernel
theorem dX11_highest_80 : decode cX11_highest 80 = .ok (.iconst 1, 1) := by decide +kernel
theorem dX11_highest_81 : decode cX11_highest 81 = .ok (.ireturn, 1) := by decide +kernel
theorem dX11_span_0 : decode cX11_span 0 = .ok (.iload_n 2, 1) := by decide +kernel
theorem dX11_span_1 : decode cX11_span 1 = .ok (.iconst 2, 1) := by decide +kernel
theorem dX11_span_2 : decode cX11_span 2 = .ok (.invokestatic 96, 3) := by decide +kernel
theorem dX11_span_5 : decode cX11_span 5 = .ok (.ifCond .ne 6, 3) := by decide +kernel
theorem dX11_span_8 : decode cX11_span 8 = .ok (.bipush (-2), 2) := by decide +kernel
theorem dX11_span_10 : decode cX11_span 10 = .ok (.ireturn, 1) := by decide +kernel
theorem dX11_span_11 : decode cX11_span 11 = .ok (.aload_n 0, 1) := by decide +kernel
theorem dX11_span_12 : decode cX11_span 12 = .ok (.invokevirtual 183, 3) := by decide +kernel
theorem dX11_span_15 : decode cX11_span 15 = .ok (.aload_n 0, 1) := by decide +kernel
theorem dX11_span_16 : decode cX11_span 16 = .ok (.getfield 61, 3) := by decide +kernel
theorem dX11_span_19 : decode cX11_span 19 = .ok (.iload_n 1, 1) := by decide +kernel
theorem dX11_span_20 : decode cX11_span 20 = .ok (.invokevirtual 163, 3) := by decide +kernel
theorem dX11_span_23 : decode cX11_span 23 = .ok (.istore_n 3, 1) := by decide +kernel
theorem dX11_span_24 : decode cX11_span 24 = .ok (.iload_n 3, 1) := by decide +kernel
theorem dX11_span_25 : decode cX11_span 25 = .ok (.iconst (-1), 1) := by decide +kernel
theorem dX11_span_26 : decode cX11_span 26 = .ok (.if_icmp .ne 6, 3) := by decide +kernel
theorem dX11_span_29 : decode cX11_span 29 = .ok (.bipush (-2), 2) := by decide +kernel
theorem dX11_span_31 : decode cX11_span 31 = .ok (.ireturn, 1) := by decide +kernel
theorem dX11_span_32 : decode cX11_span 32 = .ok (.iload_n 2, 1) := by decide +kernel
theorem dX11_span_33 : decode cX11_span 33 = .ok (.ifCond .ne 18, 3) := by decide +kernel
theorem dX11_span_36 : decode cX11_span 36 = .ok (.aload_n 0, 1) := by decide +kernel
theorem dX11_span_37 : decode cX11_span 37 = .ok (.getfield 68, 3) := by decide +kernel
theorem dX11_span_40 : decode cX11_span 40 = .ok (.aload_n 0, 1) := by decide +kernel
theorem dX11_span_41 : decode cX11_span 41 = .ok (.getfield 61, 3) := by decide +kernel
theorem dX11_span_44 : decode cX11_span 44 = .ok (.iload_n 3, 1) := by decide +kernel
theorem dX11_span_45 : decode cX11_span 45 = .ok (.invokevirtual 213, 3) := by decide +kernel
theorem dX11_span_48 : decode cX11_span 48 = .ok (.goto 15, 3) := by decide +kernel
theorem dX11_span_51 : decode cX11_span 51 = .ok (.aload_n 0, 1) := by decide +kernel
theorem dX11_span_52 : decode cX11_span 52 = .ok (.getfield 68, 3) := by decide +kernel
theorem dX11_span_55 : decode cX11_span 55 = .ok (.aload_n 0, 1) := by decide +kernel
theorem dX11_span_56 : decode cX11_span 56 = .ok (.getfield 61, 3) := by decide +kernel
theorem dX11_span_59 : decode cX11_span 59 = .ok (.iload_n 3, 1) := by decide +kernel
theorem dX11_span_60 : decode cX11_span 60 = .ok (.invokevirtual 217, 3) := by decide +kernel
theorem dX11_span_63 : decode cX11_span 63 = .ok (.istore 4, 2) := by decide +kernel
theorem dX11_span_65 : decode cX11_span 65 = .ok (.iload 4, 2) := by decide +kernel
theorem dX11_span_67 : decode cX11_span 67 = .ok (.iconst (-1), 1) := by decide +kernel
theorem dX11_span_68 : decode cX11_span 68 = .ok (.if_icmp .ne 5, 3) := by decide +kernel
theorem dX11_span_71 : decode cX11_span 71 = .ok (.iconst 0, 1) := by decide +kernel
theorem dX11_span_72 : decode cX11_span 72 = .ok (.ireturn, 1) := by decide +kernel
theorem dX11_span_73 : decode cX11_span 73 = .ok (.aload_n 0, 1) := by decide +kernel
theorem dX11_span_74 : decode cX11_span 74 = .ok (.iload 4, 2) := by decide +kernel
theorem dX11_span_76 : decode cX11_span 76 = .ok (.invokevirtual 198, 3) := by decide +kernel
theorem dX11_span_79 : decode cX11_span 79 = .ok (.iconst 1, 1) := by decide +kernel
theorem dX11_span_80 : decode cX11_span 80 = .ok (.ireturn, 1) := by decide +kernel
theorem dX11_tolerance_0 : decode cX11_tolerance 0 = .ok (.aload_n 0, 1) := by decide +kernel
theorem dX11_tolerance_1 : decode cX11_tolerance 1 = .ok (.invokevirtual 142, 3) := by decide +kernel
theorem dX11_tolerance_4 : decode cX11_tolerance 4 = .ok (.iload_n 1, 1) := by decide +kernel
theorem dX11_tolerance_5 : decode cX11_tolerance 5 = .ok (.invokevirtual 131, 3) := by decide +kernel
theorem dX11_tolerance_8 : decode cX11_tolerance 8 = .ok (.ifCond .eq 23, 3) := by decide +kernel
theorem dX11_tolerance_11 : decode cX11_tolerance 11 = .ok (.iload_n 2, 1) := by decide +kernel
theorem dX11_tolerance_12 : decode cX11_tolerance 12 = .ok (.ifCond .lt 19, 3) := by decide +kernel
theorem dX11_tolerance_15 : decode cX11_tolerance 15 = .ok (.iload_n 2, 1) := by decide +kernel
theorem dX11_tolerance_16 : decode cX11_tolerance 16 = .ok (.aload_n 0, 1) := by decide +kernel
theorem dX11_tolerance_17 : decode cX11_tolerance 17 = .ok (.getfield 79, 3) := by decide +kernel
theorem dX11_tolerance_20 : decode cX11_tolerance 20 = .ok (.if_icmp .gt 11, 3) := by decide +kernel
theorem dX11_tolerance_23 : decode cX11_tolerance 23 = .ok (.iload_n 3, 1) := by decide +kernel
theorem dX11_tolerance_24 : decode cX11_tolerance 24 = .ok (.iconst 2, 1) := by decide +kernel
theorem dX11_tolerance_25 : decode cX11_tolerance 25 = .ok (.invokestatic 96, 3) := by decide +kernel
theorem dX11_tolerance_28 : decode cX11_tolerance 28 = .ok (.ifCond .ne 6, 3) := by decide +kernel
theorem dX11_tolerance_31 : decode cX11_tolerance 31 = .ok (.bipush (-2), 2) := by decide +kernel
theorem dX11_tolerance_33 : decode cX11_tolerance 33 = .ok (.ireturn, 1) := by decide +kernel
theorem dX11_tolerance_34 : decode cX11_tolerance 34 = .ok (.aload_n 0, 1) := by decide +kernel
theorem dX11_tolerance_35 : decode cX11_tolerance 35 = .ok (.invokevirtual 152, 3) := by decide +kernel
theorem dX11_tolerance_38 : decode cX11_tolerance 38 = .ok (.aload_n 0, 1) := by decide +kernel
theorem dX11_tolerance_39 : decode cX11_tolerance 39 = .ok (.getfield 61, 3) := by decide +kernel
theorem dX11_tolerance_42 : decode cX11_tolerance 42 = .ok (.getfield 155, 3) := by decide +kernel
theorem dX11_tolerance_45 : decode cX11_tolerance 45 = .ok (.ifCond .ne 6, 3) := by decide +kernel
theorem dX11_tolerance_48 : decode cX11_tolerance 48 = .ok (.bipush (-3), 2) := by decide +kernel
theorem dX11_tolerance_50 : decode cX11_tolerance 50 = .ok (.ireturn, 1) := by decide +kernel
theorem dX11_tolerance_51 : decode cX11_tolerance 51 = .ok (.aload_n 0, 1) := by decide +kernel
theorem dX11_tolerance_52 : decode cX11_tolerance 52 = .ok (.getfield 61, 3) := by decide +kernel
theorem dX11_tolerance_55 : decode cX11_tolerance 55 = .ok (.iload_n 1, 1) := by decide +kernel
theorem dX11_tolerance_56 : decode cX11_tolerance 56 = .ok (.iload_n 2, 1) := by decide +kernel
theorem dX11_tolerance_57 : decode cX11_tolerance 57 = .ok (.iload_n 3, 1) := by decide +kernel
theorem dX11_tolerance_58 : decode cX11_tolerance 58 = .ok (.iconst 1, 1) := by decide +kernel
theorem dX11_tolerance_59 : decode cX11_tolerance 59 = .ok (.if_icmp .ne 7, 3) := by decide +kernel
theorem dX11_tolerance_62 : decode cX11_tolerance 62 = .ok (.iconst 1, 1) := by decide +kernel
theorem dX11_tolerance_63 : decode cX11_tolerance 63 = .ok (.goto 4, 3) := by decide +kernel
theorem dX11_tolerance_66 : decode cX11_tolerance 66 = .ok (.iconst 0, 1) := by decide +kernel
theorem dX11_tolerance_67 : decode cX11_tolerance 67 = .ok (.invokevirtual 220, 3) := by decide +kernel
theorem dX11_tolerance_70 : decode cX11_tolerance 70 = .ok (.lstore 4, 2) := by decide +kernel
theorem dX11_tolerance_72 : decode cX11_tolerance 72 = .ok (.lload 4, 2) := by decide +kernel
theorem dX11_tolerance_74 : decode cX11_tolerance 74 = .ok (.ldc2_w 224, 3) := by decide +kernel
theorem dX11_tolerance_77 : decode cX11_tolerance 77 = .ok (.lcmp, 1) := by decide +kernel
theorem dX11_tolerance_78 : decode cX11_tolerance 78 = .ok (.ifCond .ne 5, 3) := by decide +kernel
theorem dX11_tolerance_81 : decode cX11_tolerance 81 = .ok (.iconst 0, 1) := by decide +kernel
theorem dX11_tolerance_82 : decode cX11_tolerance 82 = .ok (.ireturn, 1) := by decide +kernel
theorem dX11_tolerance_83 : decode cX11_tolerance 83 = .ok (.aload_n 0, 1) := by decide +kernel
theorem dX11_tolerance_84 : decode cX11_tolerance 84 = .ok (.getfield 75, 3) := by decide +kernel
theorem dX11_tolerance_87 : decode cX11_tolerance 87 = .ok (.lload 4, 2) := by decide +kernel
theorem dX11_tolerance_89 : decode cX11_tolerance 89 = .ok (.lconst 1, 1) := by decide +kernel
theorem dX11_tolerance_90 : decode cX11_tolerance 90 = .ok (.invokevirtual 175, 3) := by decide +kernel
theorem dX11_tolerance_93 : decode cX11_tolerance 93 = .ok (.iconst 1, 1) := by decide +kernel
theorem dX11_tolerance_94 : decode cX11_tolerance 94 = .ok (.ireturn, 1) := by decide +kernel
theorem dX11_ratio_0 : decode cX11_ratio 0 = .ok (.aload_n 0, 1) := by decide +kernel
theorem dX11_ratio_1 : decode cX11_ratio 1 = .ok (.invokevirtual 152, 3) := by decide +kernel
theorem dX11_ratio_4 : decode cX11_ratio 4 = .ok (.aload_n 0, 1) := by decide +kernel
theorem dX11_ratio_5 : decode cX11_ratio 5 = .ok (.getfield 61, 3) := by decide +kernel
theorem dX11_ratio_8 : decode cX11_ratio 8 = .ok (.getfield 226, 3) := by decide +kernel
theorem dX11_ratio_11 : decode cX11_ratio 11 = .ok (.iconst (-1), 1) := by decide +kernel
theorem dX11_ratio_12 : decode cX11_ratio 12 = .ok (.if_icmp .eq 23, 3) := by decide +kernel
theorem dX11_ratio_15 : decode cX11_ratio 15 = .ok (.aload_n 0, 1) := by decide +kernel
theorem dX11_ratio_16 : decode cX11_ratio 16 = .ok (.getfield 61, 3) := by decide +kernel
theorem dX11_ratio_19 : decode cX11_ratio 19 = .ok (.getfield 155, 3) := by decide +kernel
theorem dX11_ratio_22 : decode cX11_ratio 22 = .ok (.ifCond .eq 13, 3) := by decide +kernel
theorem dX11_ratio_25 : decode cX11_ratio 25 = .ok (.aload_n 0, 1) := by decide +kernel
theorem dX11_ratio_26 : decode cX11_ratio 26 = .ok (.getfield 61, 3) := by decide +kernel
theorem dX11_ratio_29 : decode cX11_ratio 29 = .ok (.invokevirtual 229, 3) := by decide +kernel
theorem dX11_ratio_32 : decode cX11_ratio 32 = .ok (.ifCond .ne 6, 3) := by decide +kernel
theorem dX11_ratio_35 : decode cX11_ratio 35 = .ok (.bipush (-3), 2) := by decide +kernel
theorem dX11_ratio_37 : decode cX11_ratio 37 = .ok (.ireturn, 1) := by decide +kernel
theorem dX11_ratio_38 : decode cX11_ratio 38 = .ok (.aload_n 0, 1) := by decide +kernel
theorem dX11_ratio_39 : decode cX11_ratio 39 = .ok (.getfield 61, 3) := by decide +kernel
theorem dX11_ratio_42 : decode cX11_ratio 42 = .ok (.invokevirtual 232, 3) := by decide +kernel
theorem dX11_ratio_45 : decode cX11_ratio 45 = .ok (.istore_n 1, 1) := by decide +kernel
theorem dX11_ratio_46 : decode cX11_ratio 46 = .ok (.aload_n 0, 1) := by decide +kernel
theorem dX11_ratio_47 : decode cX11_ratio 47 = .ok (.getfield 75, 3) := by decide +kernel
theorem dX11_ratio_50 : decode cX11_ratio 50 = .ok (.aload_n 0, 1) := by decide +kernel
theorem dX11_ratio_51 : decode cX11_ratio 51 = .ok (.getfield 61, 3) := by decide +kernel
theorem dX11_ratio_54 : decode cX11_ratio 54 = .ok (.getfield 192, 3) := by decide +kernel
theorem dX11_ratio_57 : decode cX11_ratio 57 = .ok (.iload_n 1, 1) := by decide +kernel
theorem dX11_ratio_58 : decode cX11_ratio 58 = .ok (.iaload, 1) := by decide +kernel
theorem dX11_ratio_59 : decode cX11_ratio 59 = .ok (.i2l, 1) := by decide +kernel
theorem dX11_ratio_60 : decode cX11_ratio 60 = .ok (.aload_n 0, 1) := by decide +kernel
theorem dX11_ratio_61 : decode cX11_ratio 61 = .ok (.getfield 61, 3) := by decide +kernel
theorem dX11_ratio_64 : decode cX11_ratio 64 = .ok (.getfield 195, 3) := by decide +kernel
theorem dX11_ratio_67 : decode cX11_ratio 67 = .ok (.iload_n 1, 1) := by decide +kernel
theorem dX11_ratio_68 : decode cX11_ratio 68 = .ok (.iaload, 1) := by decide +kernel
theorem dX11_ratio_69 : decode cX11_ratio 69 = .ok (.i2l, 1) := by decide +kernel
theorem dX11_ratio_70 : decode cX11_ratio 70 = .ok (.invokevirtual 175, 3) := by decide +kernel
theorem dX11_ratio_73 : decode cX11_ratio 73 = .ok (.aload_n 0, 1) := by decide +kernel
theorem dX11_ratio_74 : decode cX11_ratio 74 = .ok (.getfield 61, 3) := by decide +kernel
theorem dX11_ratio_77 : decode cX11_ratio 77 = .ok (.getfield 179, 3) := by decide +kernel
theorem dX11_ratio_80 : decode cX11_ratio 80 = .ok (.iload_n 1, 1) := by decide +kernel
theorem dX11_ratio_81 : decode cX11_ratio 81 = .ok (.iaload, 1) := by decide +kernel
theorem dX11_ratio_82 : decode cX11_ratio 82 = .ok (.ireturn, 1) := by decide +kernel
theorem dX11_rue_0 : decode cX11_rue 0 = .ok (.aload_n 0, 1) := by decide +kernel
theorem dX11_rue_1 : decode cX11_rue 1 = .ok (.invokevirtual 152, 3) := by decide +kernel
theorem dX11_rue_4 : decode cX11_rue 4 = .ok (.aload_n 0, 1) := by decide +kernel
theorem dX11_rue_5 : decode cX11_rue 5 = .ok (.getfield 61, 3) := by decide +kernel
theorem dX11_rue_8 : decode cX11_rue 8 = .ok (.getfield 155, 3) := by decide +kernel
theorem dX11_rue_11 : decode cX11_rue 11 = .ok (.ifCond .ne 6, 3) := by decide +kernel
theorem dX11_rue_14 : decode cX11_rue 14 = .ok (.bipush (-3), 2) := by decide +kernel
theorem dX11_rue_16 : decode cX11_rue 16 = .ok (.ireturn, 1) := by decide +kernel
theorem dX11_rue_17 : decode cX11_rue 17 = .ok (.aload_n 0, 1) := by decide +kernel
theorem dX11_rue_18 : decode cX11_rue 18 = .ok (.getfield 61, 3) := by decide +kernel
theorem dX11_rue_21 : decode cX11_rue 21 = .ok (.lconst 0, 1) := by decide +kernel
theorem dX11_rue_22 : decode cX11_rue 22 = .ok (.lconst 1, 1) := by decide +kernel
theorem dX11_rue_23 : decode cX11_rue 23 = .ok (.invokevirtual 167, 3) := by decide +kernel
theorem dX11_rue_26 : decode cX11_rue 26 = .ok (.istore_n 1, 1) := by decide +kernel
theorem dX11_rue_27 : decode cX11_rue 27 = .ok (.aload_n 0, 1) := by decide +kernel
theorem dX11_rue_28 : decode cX11_rue 28 = .ok (.getfield 61, 3) := by decide +kernel
theorem dX11_rue_31 : decode cX11_rue 31 = .ok (.aload_n 0, 1) := by decide +kernel
theorem dX11_rue_32 : decode cX11_rue 32 = .ok (.getfield 79, 3) := by decide +kernel
theorem dX11_rue_35 : decode cX11_rue 35 = .ok (.i2l, 1) := by decide +kernel
theorem dX11_rue_36 : decode cX11_rue 36 = .ok (.lconst 1, 1) := by decide +kernel
theorem dX11_rue_37 : decode cX11_rue 37 = .ok (.invokevirtual 167, 3) := by decide +kernel
theorem dX11_rue_40 : decode cX11_rue 40 = .ok (.istore_n 2, 1) := by decide +kernel
theorem dX11_rue_41 : decode cX11_rue 41 = .ok (.aload_n 0, 1) := by decide +kernel
theorem dX11_rue_42 : decode cX11_rue 42 = .ok (.getfield 61, 3) := by decide +kernel
theorem dX11_rue_45 : decode cX11_rue 45 = .ok (.iload_n 1, 1) := by decide +kernel
theorem dX11_rue_46 : decode cX11_rue 46 = .ok (.iload_n 2, 1) := by decide +kernel
theorem dX11_rue_47 : decode cX11_rue 47 = .ok (.aload_n 0, 1) := by decide +kernel
theorem dX11_rue_48 : decode cX11_rue 48 = .ok (.getfield 79, 3) := by decide +kernel
theorem dX11_rue_51 : decode cX11_rue 51 = .ok (.invokevirtual 235, 3) := by decide +kernel
theorem dX11_rue_54 : decode cX11_rue 54 = .ok (.istore_n 3, 1) := by decide +kernel
theorem dX11_rue_55 : decode cX11_rue 55 = .ok (.aload_n 0, 1) := by decide +kernel
theorem dX11_rue_56 : decode cX11_rue 56 = .ok (.getfield 75, 3) := by decide +kernel
theorem dX11_rue_59 : decode cX11_rue 59 = .ok (.aload_n 0, 1) := by decide +kernel
theorem dX11_rue_60 : decode cX11_rue 60 = .ok (.getfield 61, 3) := by decide +kernel
theorem dX11_rue_63 : decode cX11_rue 63 = .ok (.iload_n 3, 1) := by decide +kernel
theorem dX11_rue_64 : decode cX11_rue 64 = .ok (.iload_n 1, 1) := by decide +kernel
theorem dX11_rue_65 : decode cX11_rue 65 = .ok (.iload_n 2, 1) := by decide +kernel
theorem dX11_rue_66 : decode cX11_rue 66 = .ok (.aload_n 0, 1) := by decide +kernel
theorem dX11_rue_67 : decode cX11_rue 67 = .ok (.getfield 79, 3) := by decide +kernel
theorem dX11_rue_70 : decode cX11_rue 70 = .ok (.invokevirtual 238, 3) := by decide +kernel
theorem dX11_rue_73 : decode cX11_rue 73 = .ok (.lconst 1, 1) := by decide +kernel
theorem dX11_rue_74 : decode cX11_rue 74 = .ok (.invokevirtual 175, 3) := by decide +kernel
theorem dX11_rue_77 : decode cX11_rue 77 = .ok (.aload_n 0, 1) := by decide +kernel
theorem dX11_rue_78 : decode cX11_rue 78 = .ok (.getfield 61, 3) := by decide +kernel
theorem dX11_rue_81 : decode cX11_rue 81 = .ok (.getfield 179, 3) := by decide +kernel
theorem dX11_rue_84 : decode cX11_rue 84 = .ok (.iload_n 3, 1) := by decide +kernel
theorem dX11_rue_85 : decode cX11_rue 85 = .ok (.iaload, 1) := by decide +kernel
theorem dX11_rue_86 : decode cX11_rue 86 = .ok (.ireturn, 1) := by decide +kernel
theorem dX11_grown_0 : decode cX11_grown 0 = .ok (.aload_n 0, 1) := by decide +kernel
theorem dX11_grown_1 : decode cX11_grown 1 = .ok (.getfield 83, 3) := by decide +kernel
theorem dX11_grown_4 : decode cX11_grown 4 = .ok (.iconst 4, 1) := by decide +kernel
theorem dX11_grown_5 : decode cX11_grown 5 = .ok (.if_icmp .eq 6, 3) := by decide +kernel
theorem dX11_grown_8 : decode cX11_grown 8 = .ok (.bipush (-3), 2) := by decide +kernel
theorem dX11_grown_10 : decode cX11_grown 10 = .ok (.ireturn, 1) := by decide +kernel
theorem dX11_grown_11 : decode cX11_grown 11 = .ok (.aload_n 0, 1) := by decide +kernel
theorem dX11_grown_12 : decode cX11_grown 12 = .ok (.invokevirtual 183, 3) := by decide +kernel
theorem dX11_grown_15 : decode cX11_grown 15 = .ok (.iconst 1, 1) := by decide +kernel
theorem dX11_grown_16 : decode cX11_grown 16 = .ok (.istore_n 1, 1) := by decide +kernel
theorem dX11_grown_17 : decode cX11_grown 17 = .ok (.iload_n 1, 1) := by decide +kernel
theorem dX11_grown_18 : decode cX11_grown 18 = .ok (.aload_n 0, 1) := by decide +kernel
theorem dX11_grown_19 : decode cX11_grown 19 = .ok (.getfield 68, 3) := by decide +kernel
theorem dX11_grown_22 : decode cX11_grown 22 = .ok (.getfield 186, 3) := by decide +kernel
theorem dX11_grown_25 : decode cX11_grown 25 = .ok (.if_icmp .ge 55, 3) := by decide +kernel
theorem dX11_grown_28 : decode cX11_grown 28 = .ok (.aload_n 0, 1) := by decide +kernel
theorem dX11_grown_29 : decode cX11_grown 29 = .ok (.getfield 61, 3) := by decide +kernel
theorem dX11_grown_32 : decode cX11_grown 32 = .ok (.getfield 179, 3) := by decide +kernel
theorem dX11_grown_35 : decode cX11_grown 35 = .ok (.aload_n 0, 1) := by decide +kernel
theorem dX11_grown_36 : decode cX11_grown 36 = .ok (.getfield 68, 3) := by decide +kernel
theorem dX11_grown_39 : decode cX11_grown 39 = .ok (.getfield 189, 3) := by decide +kernel
theorem dX11_grown_42 : decode cX11_grown 42 = .ok (.iload_n 1, 1) := by decide +kernel
theorem dX11_grown_43 : decode cX11_grown 43 = .ok (.iconst 1, 1) := by decide +kernel
theorem dX11_grown_44 : decode cX11_grown 44 = .ok (.isub, 1) := by decide +kernel
theorem dX11_grown_45 : decode cX11_grown 45 = .ok (.iaload, 1) := by decide +kernel
theorem dX11_grown_46 : decode cX11_grown 46 = .ok (.iaload, 1) := by decide +kernel
theorem dX11_grown_47 : decode cX11_grown 47 = .ok (.istore_n 2, 1) := by decide +kernel
theorem dX11_grown_48 : decode cX11_grown 48 = .ok (.iload_n 2, 1) := by decide +kernel
theorem dX11_grown_49 : decode cX11_grown 49 = .ok (.aload_n 0, 1) := by decide +kernel
theorem dX11_grown_50 : decode cX11_grown 50 = .ok (.getfield 61, 3) := by decide +kernel
theorem dX11_grown_53 : decode cX11_grown 53 = .ok (.getfield 179, 3) := by decide +kernel
theorem dX11_grown_56 : decode cX11_grown 56 = .ok (.aload_n 0, 1) := by decide +kernel
theorem dX11_grown_57 : decode cX11_grown 57 = .ok (.getfield 68, 3) := by decide +kernel
theorem dX11_grown_60 : decode cX11_grown 60 = .ok (.getfield 189, 3) := by decide +kernel
theorem dX11_grown_63 : decode cX11_grown 63 = .ok (.iload_n 1, 1) := by decide +kernel
theorem dX11_grown_64 : decode cX11_grown 64 = .ok (.iaload, 1) := by decide +kernel
theorem dX11_grown_65 : decode cX11_grown 65 = .ok (.iaload, 1) := by decide +kernel
theorem dX11_grown_66 : decode cX11_grown 66 = .ok (.iconst (-1), 1) := by decide +kernel
theorem dX11_grown_67 : decode cX11_grown 67 = .ok (.ixor, 1) := by decide +kernel
theorem dX11_grown_68 : decode cX11_grown 68 = .ok (.iand, 1) := by decide +kernel
theorem dX11_grown_69 : decode cX11_grown 69 = .ok (.ifCond .eq 5, 3) := by decide +kernel
theorem dX11_grown_72 : decode cX11_grown 72 = .ok (.iconst 0, 1) := by decide +kernel
theorem dX11_grown_73 : decode cX11_grown 73 = .ok (.ireturn, 1) := by decide +kernel
theorem dX11_grown_74 : decode cX11_grown 74 = .ok (.iinc 1 1, 3) := by decide +kernel
theorem dX11_grown_77 : decode cX11_grown 77 = .ok (.goto (-60), 3) := by decide +kernel
theorem dX11_grown_80 : decode cX11_grown 80 = .ok (.iconst 1, 1) := by decide +kernel
theorem dX11_grown_81 : decode cX11_grown 81 = .ok (.ireturn, 1) := by decide +kernel
theorem dX11_pace_0 : decode cX11_pace 0 = .ok (.aload_n 0, 1) := by decide +kernel
theorem dX11_pace_1 : decode cX11_pace 1 = .ok (.invokevirtual 152, 3) := by decide +kernel
theorem dX11_pace_4 : decode cX11_pace 4 = .ok (.aload_n 0, 1) := by decide +kernel
theorem dX11_pace_5 : decode cX11_pace 5 = .ok (.getfield 61, 3) := by decide +kernel
theorem dX11_pace_8 : decode cX11_pace 8 = .ok (.getfield 155, 3) := by decide +kernel
theorem dX11_pace_11 : decode cX11_pace 11 = .ok (.ifCond .ne 6, 3) := by decide +kernel
theorem dX11_pace_14 : decode cX11_pace 14 = .ok (.bipush (-3), 2) := by decide +kernel
theorem dX11_pace_16 : decode cX11_pace 16 = .ok (.ireturn, 1) := by decide +kernel
theorem dX11_pace_17 : decode cX11_pace 17 = .ok (.iconst 0, 1) := by decide +kernel
theorem dX11_pace_18 : decode cX11_pace 18 = .ok (.istore_n 1, 1) := by decide +kernel
theorem dX11_pace_19 : decode cX11_pace 19 = .ok (.aload_n 0, 1) := by decide +kernel
theorem dX11_pace_20 : decode cX11_pace 20 = .ok (.getfield 61, 3) := by decide +kernel
theorem dX11_pace_23 : decode cX11_pace 23 = .ok (.lconst 0, 1) := by decide +kernel
theorem dX11_pace_24 : decode cX11_pace 24 = .ok (.lconst 1, 1) := by decide +kernel
theorem dX11_pace_25 : decode cX11_pace 25 = .ok (.invokevirtual 167, 3) := by decide +kernel
theorem dX11_pace_28 : decode cX11_pace 28 = .ok (.istore_n 2, 1) := by decide +kernel
theorem dX11_pace_29 : decode cX11_pace 29 = .ok (.iconst 1, 1) := by decide +kernel
theorem dX11_pace_30 : decode cX11_pace 30 = .ok (.istore_n 3, 1) := by decide +kernel
theorem dX11_pace_31 : decode cX11_pace 31 = .ok (.iload_n 3, 1) := by decide +kernel
theorem dX11_pace_32 : decode cX11_pace 32 = .ok (.aload_n 0, 1) := by decide +kernel
theorem dX11_pace_33 : decode cX11_pace 33 = .ok (.getfield 79, 3) := by decide +kernel
theorem dX11_pace_36 : decode cX11_pace 36 = .ok (.if_icmp .gt 33, 3) := by decide +kernel
theorem dX11_pace_39 : decode cX11_pace 39 = .ok (.aload_n 0, 1) := by decide +kernel
theorem dX11_pace_40 : decode cX11_pace 40 = .ok (.getfield 61, 3) := by decide +kernel
theorem dX11_pace_43 : decode cX11_pace 43 = .ok (.iload_n 3, 1) := by decide +kernel
theorem dX11_pace_44 : decode cX11_pace 44 = .ok (.i2l, 1) := by decide +kernel
theorem dX11_pace_45 : decode cX11_pace 45 = .ok (.lconst 1, 1) := by decide +kernel
theorem dX11_pace_46 : decode cX11_pace 46 = .ok (.invokevirtual 167, 3) := by decide +kernel
theorem dX11_pace_49 : decode cX11_pace 49 = .ok (.istore 4, 2) := by decide +kernel
theorem dX11_pace_51 : decode cX11_pace 51 = .ok (.iload 4, 2) := by decide +kernel
theorem dX11_pace_53 : decode cX11_pace 53 = .ok (.iload_n 2, 1) := by decide +kernel
theorem dX11_pace_54 : decode cX11_pace 54 = .ok (.if_icmp .eq 6, 3) := by decide +kernel
theorem dX11_pace_57 : decode cX11_pace 57 = .ok (.iinc 1 1, 3) := by decide +kernel
theorem dX11_pace_60 : decode cX11_pace 60 = .ok (.iload 4, 2) := by decide +kernel
theorem dX11_pace_62 : decode cX11_pace 62 = .ok (.istore_n 2, 1) := by decide +kernel
theorem dX11_pace_63 : decode cX11_pace 63 = .ok (.iinc 3 1, 3) := by decide +kernel
theorem dX11_pace_66 : decode cX11_pace 66 = .ok (.goto (-35), 3) := by decide +kernel
theorem dX11_pace_69 : decode cX11_pace 69 = .ok (.iload_n 1, 1) := by decide +kernel
theorem dX11_pace_70 : decode cX11_pace 70 = .ok (.ireturn, 1) := by decide +kernel
theorem dX11_part_0 : decode cX11_part 0 = .ok (.iload_n 1, 1) := by decide +kernel
theorem dX11_part_1 : decode cX11_part 1 = .ok (.iconst 2, 1) := by decide +kernel
theorem dX11_part_2 : decode cX11_part 2 = .ok (.invokestatic 96, 3) := by decide +kernel
theorem dX11_part_5 : decode cX11_part 5 = .ok (.ifCond .ne 7, 3) := by decide +kernel
theorem dX11_part_8 : decode cX11_part 8 = .ok (.ldc2_w 242, 3) := by decide +kernel
theorem dX11_part_11 : decode cX11_part 11 = .ok (.lreturn, 1) := by decide +kernel
theorem dX11_part_12 : decode cX11_part 12 = .ok (.iload_n 1, 1) := by decide +kernel
theorem dX11_part_13 : decode cX11_part 13 = .ok (.ifCond .ne 13, 3) := by decide +kernel
theorem dX11_part_16 : decode cX11_part 16 = .ok (.aload_n 0, 1) := by decide +kernel
theorem dX11_part_17 : decode cX11_part 17 = .ok (.getfield 75, 3) := by decide +kernel
theorem dX11_part_20 : decode cX11_part 20 = .ok (.getfield 244, 3) := by decide +kernel
theorem dX11_part_23 : decode cX11_part 23 = .ok (.goto 10, 3) := by decide +kernel
theorem dX11_part_26 : decode cX11_part 26 = .ok (.aload_n 0, 1) := by decide +kernel
theorem dX11_part_27 : decode cX11_part 27 = .ok (.getfield 75, 3) := by decide +kernel
theorem dX11_part_30 : decode cX11_part 30 = .ok (.getfield 248, 3) := by decide +kernel
theorem dX11_part_33 : decode cX11_part 33 = .ok (.lreturn, 1) := by decide +kernel
theorem dX11_count_0 : decode cX11_count 0 = .ok (.iload_n 1, 1) := by decide +kernel
theorem dX11_count_1 : decode cX11_count 1 = .ok (.ifCond .ne 11, 3) := by decide +kernel
theorem dX11_count_4 : decode cX11_count 4 = .ok (.aload_n 0, 1) := by decide +kernel
theorem dX11_count_5 : decode cX11_count 5 = .ok (.getfield 12, 3) := by decide +kernel
theorem dX11_count_8 : decode cX11_count 8 = .ok (.getfield 250, 3) := by decide +kernel
theorem dX11_count_11 : decode cX11_count 11 = .ok (.ireturn, 1) := by decide +kernel
theorem dX11_count_12 : decode cX11_count 12 = .ok (.iload_n 1, 1) := by decide +kernel
theorem dX11_count_13 : decode cX11_count 13 = .ok (.iconst 1, 1) := by decide +kernel
theorem dX11_count_14 : decode cX11_count 14 = .ok (.if_icmp .ne 14, 3) := by decide +kernel
theorem dX11_count_17 : decode cX11_count 17 = .ok (.aload_n 0, 1) := by decide +kernel
theorem dX11_count_18 : decode cX11_count 18 = .ok (.getfield 28, 3) := by decide +kernel
theorem dX11_count_21 : decode cX11_count 21 = .ok (.getfield 115, 3) := by decide +kernel
theorem dX11_count_24 : decode cX11_count 24 = .ok (.getfield 146, 3) := by decide +kernel
theorem dX11_count_27 : decode cX11_count 27 = .ok (.ireturn, 1) := by decide +kernel
theorem dX11_count_28 : decode cX11_count 28 = .ok (.iload_n 1, 1) := by decide +kernel
theorem dX11_count_29 : decode cX11_count 29 = .ok (.iconst 2, 1) := by decide +kernel
theorem dX11_count_30 : decode cX11_count 30 = .ok (.if_icmp .ne 14, 3) := by decide +kernel
theorem dX11_count_33 : decode cX11_count 33 = .ok (.aload_n 0, 1) := by decide +kernel
theorem dX11_count_34 : decode cX11_count 34 = .ok (.getfield 35, 3) := by decide +kernel
theorem dX11_count_37 : decode cX11_count 37 = .ok (.getfield 126, 3) := by decide +kernel
theorem dX11_count_40 : decode cX11_count 40 = .ok (.getfield 146, 3) := by decide +kernel
theorem dX11_count_43 : decode cX11_count 43 = .ok (.ireturn, 1) := by decide +kernel
theorem dX11_count_44 : decode cX11_count 44 = .ok (.iload_n 1, 1) := by decide +kernel
theorem dX11_count_45 : decode cX11_count 45 = .ok (.iconst 3, 1) := by decide +kernel
theorem dX11_count_46 : decode cX11_count 46 = .ok (.if_icmp .ne 13, 3) := by decide +kernel
theorem dX11_count_49 : decode cX11_count 49 = .ok (.aload_n 0, 1) := by decide +kernel
theorem dX11_count_50 : decode cX11_count 50 = .ok (.invokevirtual 142, 3) := by decide +kernel
theorem dX11_count_53 : decode cX11_count 53 = .ok (.getfield 146, 3) := by decide +kernel
theorem dX11_count_56 : decode cX11_count 56 = .ok (.goto 5, 3) := by decide +kernel
theorem dX11_count_59 : decode cX11_count 59 = .ok (.bipush (-2), 2) := by decide +kernel
theorem dX11_count_61 : decode cX11_count 61 = .ok (.ireturn, 1) := by decide +kernel
theorem dX11_digest_0 : decode cX11_digest 0 = .ok (.ldc2_w 251, 3) := by decide +kernel
theorem dX11_digest_3 : decode cX11_digest 3 = .ok (.lstore_n 1, 1) := by decide +kernel
theorem dX11_digest_4 : decode cX11_digest 4 = .ok (.lload_n 1, 1) := by decide +kernel
theorem dX11_digest_5 : decode cX11_digest 5 = .ok (.aload_n 0, 1) := by decide +kernel
theorem dX11_digest_6 : decode cX11_digest 6 = .ok (.getfield 79, 3) := by decide +kernel
theorem dX11_digest_9 : decode cX11_digest 9 = .ok (.i2l, 1) := by decide +kernel
theorem dX11_digest_10 : decode cX11_digest 10 = .ok (.invokestatic 253, 3) := by decide +kernel
theorem dX11_digest_13 : decode cX11_digest 13 = .ok (.lstore_n 1, 1) := by decide +kernel
theorem dX11_digest_14 : decode cX11_digest 14 = .ok (.lload_n 1, 1) := by decide +kernel
theorem dX11_digest_15 : decode cX11_digest 15 = .ok (.aload_n 0, 1) := by decide +kernel
theorem dX11_digest_16 : decode cX11_digest 16 = .ok (.getfield 83, 3) := by decide +kernel
theorem dX11_digest_19 : decode cX11_digest 19 = .ok (.i2l, 1) := by decide +kernel
theorem dX11_digest_20 : decode cX11_digest 20 = .ok (.invokestatic 253, 3) := by decide +kernel
theorem dX11_digest_23 : decode cX11_digest 23 = .ok (.lstore_n 1, 1) := by decide +kernel
theorem dX11_digest_24 : decode cX11_digest 24 = .ok (.lload_n 1, 1) := by decide +kernel
theorem dX11_digest_25 : decode cX11_digest 25 = .ok (.aload_n 0, 1) := by decide +kernel
theorem dX11_digest_26 : decode cX11_digest 26 = .ok (.getfield 12, 3) := by decide +kernel
theorem dX11_digest_29 : decode cX11_digest 29 = .ok (.getfield 250, 3) := by decide +kernel
theorem dX11_digest_32 : decode cX11_digest 32 = .ok (.i2l, 1) := by decide +kernel
theorem dX11_digest_33 : decode cX11_digest 33 = .ok (.invokestatic 253, 3) := by decide +kernel
theorem dX11_digest_36 : decode cX11_digest 36 = .ok (.lstore_n 1, 1) := by decide +kernel
theorem dX11_digest_37 : decode cX11_digest 37 = .ok (.lload_n 1, 1) := by decide +kernel
theorem dX11_digest_38 : decode cX11_digest 38 = .ok (.aload_n 0, 1) := by decide +kernel
theorem dX11_digest_39 : decode cX11_digest 39 = .ok (.getfield 28, 3) := by decide +kernel
theorem dX11_digest_42 : decode cX11_digest 42 = .ok (.getfield 115, 3) := by decide +kernel
theorem dX11_digest_45 : decode cX11_digest 45 = .ok (.getfield 146, 3) := by decide +kernel
theorem dX11_digest_48 : decode cX11_digest 48 = .ok (.i2l, 1) := by decide +kernel
theorem dX11_digest_49 : decode cX11_digest 49 = .ok (.invokestatic 253, 3) := by decide +kernel
theorem dX11_digest_52 : decode cX11_digest 52 = .ok (.lstore_n 1, 1) := by decide +kernel
theorem dX11_digest_53 : decode cX11_digest 53 = .ok (.lload_n 1, 1) := by decide +kernel
theorem dX11_digest_54 : decode cX11_digest 54 = .ok (.aload_n 0, 1) := by decide +kernel
theorem dX11_digest_55 : decode cX11_digest 55 = .ok (.getfield 35, 3) := by decide +kernel
theorem dX11_digest_58 : decode cX11_digest 58 = .ok (.getfield 126, 3) := by decide +kernel
theorem dX11_digest_61 : decode cX11_digest 61 = .ok (.getfield 146, 3) := by decide +kernel
theorem dX11_digest_64 : decode cX11_digest 64 = .ok (.i2l, 1) := by decide +kernel
theorem dX11_digest_65 : decode cX11_digest 65 = .ok (.invokestatic 253, 3) := by decide +kernel
theorem dX11_digest_68 : decode cX11_digest 68 = .ok (.lstore_n 1, 1) := by decide +kernel
theorem dX11_digest_69 : decode cX11_digest 69 = .ok (.lload_n 1, 1) := by decide +kernel
theorem dX11_digest_70 : decode cX11_digest 70 = .ok (.aload_n 0, 1) := by decide +kernel
theorem dX11_digest_71 : decode cX11_digest 71 = .ok (.invokevirtual 142, 3) := by decide +kernel
theorem dX11_digest_74 : decode cX11_digest 74 = .ok (.getfield 146, 3) := by decide +kernel
theorem dX11_digest_77 : decode cX11_digest 77 = .ok (.i2l, 1) := by decide +kernel
theorem dX11_digest_78 : decode cX11_digest 78 = .ok (.invokestatic 253, 3) := by decide +kernel
theorem dX11_digest_81 : decode cX11_digest 81 = .ok (.lstore_n 1, 1) := by decide +kernel
theorem dX11_digest_82 : decode cX11_digest 82 = .ok (.aload_n 0, 1) := by decide +kernel
theorem dX11_digest_83 : decode cX11_digest 83 = .ok (.getfield 12, 3) := by decide +kernel
theorem dX11_digest_86 : decode cX11_digest 86 = .ok (.lload_n 1, 1) := by decide +kernel
theorem dX11_digest_87 : decode cX11_digest 87 = .ok (.invokevirtual 257, 3) := by decide +kernel
theorem dX11_digest_90 : decode cX11_digest 90 = .ok (.lstore_n 1, 1) := by decide +kernel
theorem dX11_digest_91 : decode cX11_digest 91 = .ok (.iconst 0, 1) := by decide +kernel
theorem dX11_digest_92 : decode cX11_digest 92 = .ok (.istore_n 3, 1) := by decide +kernel
theorem dX11_digest_93 : decode cX11_digest 93 = .ok (.iload_n 3, 1) := by decide +kernel
theorem dX11_digest_94 : decode cX11_digest 94 = .ok (.aload_n 0, 1) := by decide +kernel
theorem dX11_digest_95 : decode cX11_digest 95 = .ok (.getfield 21, 3) := by decide +kernel
theorem dX11_digest_98 : decode cX11_digest 98 = .ok (.getfield 146, 3) := by decide +kernel
theorem dX11_digest_101 : decode cX11_digest 101 = .ok (.if_icmp .ge 19, 3) := by decide +kernel
theorem dX11_digest_104 : decode cX11_digest 104 = .ok (.aload_n 0, 1) := by decide +kernel
theorem dX11_digest_105 : decode cX11_digest 105 = .ok (.getfield 21, 3) := by decide +kernel
theorem dX11_digest_108 : decode cX11_digest 108 = .ok (.lload_n 1, 1) := by decide +kernel
theorem dX11_digest_109 : decode cX11_digest 109 = .ok (.iload_n 3, 1) := by decide +kernel
theorem dX11_digest_110 : decode cX11_digest 110 = .ok (.invokevirtual 261, 3) := by decide +kernel
theorem dX11_digest_113 : decode cX11_digest 113 = .ok (.lstore_n 1, 1) := by decide +kernel
theorem dX11_digest_114 : decode cX11_digest 114 = .ok (.iinc 3 1, 3) := by decide +kernel
theorem dX11_digest_117 : decode cX11_digest 117 = .ok (.goto (-24), 3) := by decide +kernel
theorem dX11_digest_120 : decode cX11_digest 120 = .ok (.aload_n 0, 1) := by decide +kernel
theorem dX11_digest_121 : decode cX11_digest 121 = .ok (.getfield 28, 3) := by decide +kernel
theorem dX11_digest_124 : decode cX11_digest 124 = .ok (.lload_n 1, 1) := by decide +kernel
theorem dX11_digest_125 : decode cX11_digest 125 = .ok (.invokevirtual 265, 3) := by decide +kernel
theorem dX11_digest_128 : decode cX11_digest 128 = .ok (.lstore_n 1, 1) := by decide +kernel
theorem dX11_digest_129 : decode cX11_digest 129 = .ok (.lload_n 1, 1) := by decide +kernel
theorem dX11_digest_130 : decode cX11_digest 130 = .ok (.aload_n 0, 1) := by decide +kernel
theorem dX11_digest_131 : decode cX11_digest 131 = .ok (.getfield 28, 3) := by decide +kernel
theorem dX11_digest_134 : decode cX11_digest 134 = .ok (.getfield 123, 3) := by decide +kernel
theorem dX11_digest_137 : decode cX11_digest 137 = .ok (.i2l, 1) := by decide +kernel
theorem dX11_digest_138 : decode cX11_digest 138 = .ok (.invokestatic 253, 3) := by decide +kernel
theorem dX11_digest_141 : decode cX11_digest 141 = .ok (.lstore_n 1, 1) := by decide +kernel
theorem dX11_digest_142 : decode cX11_digest 142 = .ok (.aload_n 0, 1) := by decide +kernel
theorem dX11_digest_143 : decode cX11_digest 143 = .ok (.getfield 35, 3) := by decide +kernel
theorem dX11_digest_146 : decode cX11_digest 146 = .ok (.lload_n 1, 1) := by decide +kernel
theorem dX11_digest_147 : decode cX11_digest 147 = .ok (.invokevirtual 268, 3) := by decide +kernel
theorem dX11_digest_150 : decode cX11_digest 150 = .ok (.lstore_n 1, 1) := by decide +kernel
theorem dX11_digest_151 : decode cX11_digest 151 = .ok (.lload_n 1, 1) := by decide +kernel
theorem dX11_digest_152 : decode cX11_digest 152 = .ok (.aload_n 0, 1) := by decide +kernel
theorem dX11_digest_153 : decode cX11_digest 153 = .ok (.getfield 75, 3) := by decide +kernel
theorem dX11_digest_156 : decode cX11_digest 156 = .ok (.getfield 244, 3) := by decide +kernel
theorem dX11_digest_159 : decode cX11_digest 159 = .ok (.invokestatic 253, 3) := by decide +kernel
theorem dX11_digest_162 : decode cX11_digest 162 = .ok (.lstore_n 1, 1) := by decide +kernel
theorem dX11_digest_163 : decode cX11_digest 163 = .ok (.lload_n 1, 1) := by decide +kernel
theorem dX11_digest_164 : decode cX11_digest 164 = .ok (.aload_n 0, 1) := by decide +kernel
theorem dX11_digest_165 : decode cX11_digest 165 = .ok (.getfield 75, 3) := by decide +kernel
theorem dX11_digest_168 : decode cX11_digest 168 = .ok (.getfield 248, 3) := by decide +kernel
theorem dX11_digest_171 : decode cX11_digest 171 = .ok (.invokestatic 253, 3) := by decide +kernel
theorem dX11_digest_174 : decode cX11_digest 174 = .ok (.lreturn, 1) := by decide +kernel
theorem dX11_isBelow_0 : decode cX11_isBelow 0 = .ok (.iload_n 0, 1) := by decide +kernel
theorem dX11_isBelow_1 : decode cX11_isBelow 1 = .ok (.ifCond .lt 12, 3) := by decide +kernel
theorem dX11_isBelow_4 : decode cX11_isBelow 4 = .ok (.iload_n 0, 1) := by decide +kernel
theorem dX11_isBelow_5 : decode cX11_isBelow 5 = .ok (.iload_n 1, 1) := by decide +kernel
theorem dX11_isBelow_6 : decode cX11_isBelow 6 = .ok (.if_icmp .ge 7, 3) := by decide +kernel
theorem dX11_isBelow_9 : decode cX11_isBelow 9 = .ok (.iconst 1, 1) := by decide +kernel
theorem dX11_isBelow_10 : decode cX11_isBelow 10 = .ok (.goto 4, 3) := by decide +kernel
theorem dX11_isBelow_13 : decode cX11_isBelow 13 = .ok (.iconst 0, 1) := by decide +kernel
theorem dX11_isBelow_14 : decode cX11_isBelow 14 = .ok (.ireturn, 1) := by decide +kernel
theorem dX11_isLine_0 : decode cX11_isLine 0 = .ok (.iload_n 0, 1) := by decide +kernel
theorem dX11_isLine_1 : decode cX11_isLine 1 = .ok (.bipush (-100), 2) := by decide +kernel
theorem dX11_isLine_3 : decode cX11_isLine 3 = .ok (.if_icmp .lt 25, 3) := by decide +kernel
theorem dX11_isLine_6 : decode cX11_isLine 6 = .ok (.iload_n 0, 1) := by decide +kernel
theorem dX11_isLine_7 : decode cX11_isLine 7 = .ok (.bipush 100, 2) := by decide +kernel
theorem dX11_isLine_9 : decode cX11_isLine 9 = .ok (.if_icmp .gt 19, 3) := by decide +kernel
theorem dX11_isLine_12 : decode cX11_isLine 12 = .ok (.iload_n 1, 1) := by decide +kernel
theorem dX11_isLine_13 : decode cX11_isLine 13 = .ok (.bipush (-100), 2) := by decide +kernel
theorem dX11_isLine_15 : decode cX11_isLine 15 = .ok (.if_icmp .lt 13, 3) := by decide +kernel
theorem dX11_isLine_18 : decode cX11_isLine 18 = .ok (.iload_n 1, 1) := by decide +kernel
theorem dX11_isLine_19 : decode cX11_isLine 19 = .ok (.bipush 100, 2) := by decide +kernel
theorem dX11_isLine_21 : decode cX11_isLine 21 = .ok (.if_icmp .gt 7, 3) := by decide +kernel
theorem dX11_isLine_24 : decode cX11_isLine 24 = .ok (.iconst 1, 1) := by decide +kernel
theorem dX11_isLine_25 : decode cX11_isLine 25 = .ok (.goto 4, 3) := by decide +kernel
theorem dX11_isLine_28 : decode cX11_isLine 28 = .ok (.iconst 0, 1) := by decide +kernel
theorem dX11_isLine_29 : decode cX11_isLine 29 = .ok (.ireturn, 1) := by decide +kernel
theorem dX11_holds_0 : decode cX11_holds 0 = .ok (.iload_n 0, 1) := by decide +kernel
theorem dX11_holds_1 : decode cX11_holds 1 = .ok (.iload_n 1, 1) := by decide +kernel
theorem dX11_holds_2 : decode cX11_holds 2 = .ok (.ishr, 1) := by decide +kernel
theorem dX11_holds_3 : decode cX11_holds 3 = .ok (.iconst 1, 1) := by decide +kernel
theorem dX11_holds_4 : decode cX11_holds 4 = .ok (.iand, 1) := by decide +kernel
theorem dX11_holds_5 : decode cX11_holds 5 = .ok (.ifCond .eq 7, 3) := by decide +kernel
theorem dX11_holds_8 : decode cX11_holds 8 = .ok (.iconst 1, 1) := by decide +kernel
theorem dX11_holds_9 : decode cX11_holds 9 = .ok (.goto 4, 3) := by decide +kernel
theorem dX11_holds_12 : decode cX11_holds 12 = .ok (.iconst 0, 1) := by decide +kernel
theorem dX11_holds_13 : decode cX11_holds 13 = .ok (.ireturn, 1) := by decide +kernel
theorem dX11_mix_0 : decode cX11_mix 0 = .ok (.ldc2_w 271, 3) := by decide +kernel
theorem dX11_mix_3 : decode cX11_mix 3 = .ok (.lload_n 0, 1) := by decide +kernel
theorem dX11_mix_4 : decode cX11_mix 4 = .ok (.lmul, 1) := by decide +kernel
theorem dX11_mix_5 : decode cX11_mix 5 = .ok (.lload_n 2, 1) := by decide +kernel
theorem dX11_mix_6 : decode cX11_mix 6 = .ok (.ladd, 1) := by decide +kernel
theorem dX11_mix_7 : decode cX11_mix 7 = .ok (.lreturn, 1) := by decide +kernel
theorem dX11_partsNow_0 : decode cX11_partsNow 0 = .ok (.aload_n 0, 1) := by decide +kernel
theorem dX11_partsNow_1 : decode cX11_partsNow 1 = .ok (.getfield 54, 3) := by decide +kernel
theorem dX11_partsNow_4 : decode cX11_partsNow 4 = .ok (.aload_n 0, 1) := by decide +kernel
theorem dX11_partsNow_5 : decode cX11_partsNow 5 = .ok (.getfield 83, 3) := by decide +kernel
theorem dX11_partsNow_8 : decode cX11_partsNow 8 = .ok (.aaload, 1) := by decide +kernel
theorem dX11_partsNow_9 : decode cX11_partsNow 9 = .ok (.getfield 273, 3) := by decide +kernel
theorem dX11_partsNow_12 : decode cX11_partsNow 12 = .ok (.areturn, 1) := by decide +kernel
theorem dX11_forgetPlans_0 : decode cX11_forgetPlans 0 = .ok (.aload_n 0, 1) := by decide +kernel
theorem dX11_forgetPlans_1 : decode cX11_forgetPlans 1 = .ok (.iconst 0, 1) := by decide +kernel
theorem dX11_forgetPlans_2 : decode cX11_forgetPlans 2 = .ok (.putfield 86, 3) := by decide +kernel
theorem dX11_forgetPlans_5 : decode cX11_forgetPlans 5 = .ok (.aload_n 0, 1) := by decide +kernel
theorem dX11_forgetPlans_6 : decode cX11_forgetPlans 6 = .ok (.iconst 0, 1) := by decide +kernel
theorem dX11_forgetPlans_7 : decode cX11_forgetPlans 7 = .ok (.putfield 90, 3) := by decide +kernel
theorem dX11_forgetPlans_10 : decode cX11_forgetPlans 10 = .ok (.return_, 1) := by decide +kernel
theorem dX11_findPlans_0 : decode cX11_findPlans 0 = .ok (.aload_n 0, 1) := by decide +kernel
theorem dX11_findPlans_1 : decode cX11_findPlans 1 = .ok (.getfield 86, 3) := by decide +kernel
theorem dX11_findPlans_4 : decode cX11_findPlans 4 = .ok (.ifCond .eq 4, 3) := by decide +kernel
theorem dX11_findPlans_7 : decode cX11_findPlans 7 = .ok (.return_, 1) := by decide +kernel
theorem dX11_findPlans_8 : decode cX11_findPlans 8 = .ok (.aload_n 0, 1) := by decide +kernel
theorem dX11_findPlans_9 : decode cX11_findPlans 9 = .ok (.getfield 61, 3) := by decide +kernel
theorem dX11_findPlans_12 : decode cX11_findPlans 12 = .ok (.aload_n 0, 1) := by decide +kernel
theorem dX11_findPlans_13 : decode cX11_findPlans 13 = .ok (.getfield 54, 3) := by decide +kernel
theorem dX11_findPlans_16 : decode cX11_findPlans 16 = .ok (.aload_n 0, 1) := by decide +kernel
theorem dX11_findPlans_17 : decode cX11_findPlans 17 = .ok (.getfield 83, 3) := by decide +kernel
theorem dX11_findPlans_20 : decode cX11_findPlans 20 = .ok (.aaload, 1) := by decide +kernel
theorem dX11_findPlans_21 : decode cX11_findPlans 21 = .ok (.getfield 274, 3) := by decide +kernel
theorem dX11_findPlans_24 : decode cX11_findPlans 24 = .ok (.invokevirtual 275, 3) := by decide +kernel
theorem dX11_findPlans_27 : decode cX11_findPlans 27 = .ok (.aload_n 0, 1) := by decide +kernel
theorem dX11_findPlans_28 : decode cX11_findPlans 28 = .ok (.getfield 54, 3) := by decide +kernel
theorem dX11_findPlans_31 : decode cX11_findPlans 31 = .ok (.aload_n 0, 1) := by decide +kernel
theorem dX11_findPlans_32 : decode cX11_findPlans 32 = .ok (.getfield 83, 3) := by decide +kernel
theorem dX11_findPlans_35 : decode cX11_findPlans 35 = .ok (.aaload, 1) := by decide +kernel
theorem dX11_findPlans_36 : decode cX11_findPlans 36 = .ok (.aload_n 0, 1) := by decide +kernel
theorem dX11_findPlans_37 : decode cX11_findPlans 37 = .ok (.getfield 61, 3) := by decide +kernel
theorem dX11_findPlans_40 : decode cX11_findPlans 40 = .ok (.invokevirtual 278, 3) := by decide +kernel
theorem dX11_findPlans_43 : decode cX11_findPlans 43 = .ok (.aload_n 0, 1) := by decide +kernel
theorem dX11_findPlans_44 : decode cX11_findPlans 44 = .ok (.getfield 61, 3) := by decide +kernel
theorem dX11_findPlans_47 : decode cX11_findPlans 47 = .ok (.aload_n 0, 1) := by decide +kernel
theorem dX11_findPlans_48 : decode cX11_findPlans 48 = .ok (.invokevirtual 142, 3) := by decide +kernel
theorem dX11_findPlans_51 : decode cX11_findPlans 51 = .ok (.invokevirtual 282, 3) := by decide +kernel
theorem dX11_findPlans_54 : decode cX11_findPlans 54 = .ok (.aload_n 0, 1) := by decide +kernel
theorem dX11_findPlans_55 : decode cX11_findPlans 55 = .ok (.iconst 1, 1) := by decide +kernel
theorem dX11_findPlans_56 : decode cX11_findPlans 56 = .ok (.putfield 86, 3) := by decide +kernel
theorem dX11_findPlans_59 : decode cX11_findPlans 59 = .ok (.return_, 1) := by decide +kernel
theorem dX11_cutPieces_0 : decode cX11_cutPieces 0 = .ok (.aload_n 0, 1) := by decide +kernel
theorem dX11_cutPieces_1 : decode cX11_cutPieces 1 = .ok (.invokevirtual 152, 3) := by decide +kernel
theorem dX11_cutPieces_4 : decode cX11_cutPieces 4 = .ok (.aload_n 0, 1) := by decide +kernel
theorem dX11_cutPieces_5 : decode cX11_cutPieces 5 = .ok (.getfield 90, 3) := by decide +kernel
theorem dX11_cutPieces_8 : decode cX11_cutPieces 8 = .ok (.ifCond .eq 4, 3) := by decide +kernel
theorem dX11_cutPieces_11 : decode cX11_cutPieces 11 = .ok (.return_, 1) := by decide +kernel
theorem dX11_cutPieces_12 : decode cX11_cutPieces 12 = .ok (.aload_n 0, 1) := by decide +kernel
theorem dX11_cutPieces_13 : decode cX11_cutPieces 13 = .ok (.getfield 68, 3) := by decide +kernel
theorem dX11_cutPieces_16 : decode cX11_cutPieces 16 = .ok (.aload_n 0, 1) := by decide +kernel
theorem dX11_cutPieces_17 : decode cX11_cutPieces 17 = .ok (.getfield 61, 3) := by decide +kernel
theorem dX11_cutPieces_20 : decode cX11_cutPieces 20 = .ok (.aload_n 0, 1) := by decide +kernel
theorem dX11_cutPieces_21 : decode cX11_cutPieces 21 = .ok (.getfield 79, 3) := by decide +kernel
theorem dX11_cutPieces_24 : decode cX11_cutPieces 24 = .ok (.invokevirtual 285, 3) := by decide +kernel
theorem dX11_cutPieces_27 : decode cX11_cutPieces 27 = .ok (.aload_n 0, 1) := by decide +kernel
theorem dX11_cutPieces_28 : decode cX11_cutPieces 28 = .ok (.iconst 1, 1) := by decide +kernel
theorem dX11_cutPieces_29 : decode cX11_cutPieces 29 = .ok (.putfield 90, 3) := by decide +kernel
theorem dX11_cutPieces_32 : decode cX11_cutPieces 32 = .ok (.return_, 1) := by decide +kernel
theorem dX11_countNowhere_0 : decode cX11_countNowhere 0 = .ok (.aload_n 0, 1) := by decide +kernel
theorem dX11_countNowhere_1 : decode cX11_countNowhere 1 = .ok (.invokevirtual 183, 3) := by decide +kernel
theorem dX11_countNowhere_4 : decode cX11_countNowhere 4 = .ok (.iconst 0, 1) := by decide +kernel
theorem dX11_countNowhere_5 : decode cX11_countNowhere 5 = .ok (.istore_n 1, 1) := by decide +kernel
theorem dX11_countNowhere_6 : decode cX11_countNowhere 6 = .ok (.iconst 0, 1) := by decide +kernel
theorem dX11_countNowhere_7 : decode cX11_countNowhere 7 = .ok (.istore_n 2, 1) := by decide +kernel
theorem dX11_countNowhere_8 : decode cX11_countNowhere 8 = .ok (.iload_n 2, 1) := by decide +kernel
theorem dX11_countNowhere_9 : decode cX11_countNowhere 9 = .ok (.aload_n 0, 1) := by decide +kernel
theorem dX11_countNowhere_10 : decode cX11_countNowhere 10 = .ok (.getfield 61, 3) := by decide +kernel
theorem dX11_countNowhere_13 : decode cX11_countNowhere 13 = .ok (.getfield 155, 3) := by decide +kernel
theorem dX11_countNowhere_16 : decode cX11_countNowhere 16 = .ok (.if_icmp .ge 28, 3) := by decide +kernel
theorem dX11_countNowhere_19 : decode cX11_countNowhere 19 = .ok (.aload_n 0, 1) := by decide +kernel
theorem dX11_countNowhere_20 : decode cX11_countNowhere 20 = .ok (.getfield 68, 3) := by decide +kernel
theorem dX11_countNowhere_23 : decode cX11_countNowhere 23 = .ok (.aload_n 0, 1) := by decide +kernel
theorem dX11_countNowhere_24 : decode cX11_countNowhere 24 = .ok (.getfield 61, 3) := by decide +kernel
theorem dX11_countNowhere_27 : decode cX11_countNowhere 27 = .ok (.iload_n 2, 1) := by decide +kernel
theorem dX11_countNowhere_28 : decode cX11_countNowhere 28 = .ok (.invokevirtual 213, 3) := by decide +kernel
theorem dX11_countNowhere_31 : decode cX11_countNowhere 31 = .ok (.iconst (-1), 1) := by decide +kernel
theorem dX11_countNowhere_32 : decode cX11_countNowhere 32 = .ok (.if_icmp .ne 6, 3) := by decide +kernel
theorem dX11_countNowhere_35 : decode cX11_countNowhere 35 = .ok (.iinc 1 1, 3) := by decide +kernel
theorem dX11_countNowhere_38 : decode cX11_countNowhere 38 = .ok (.iinc 2 1, 3) := by decide +kernel
theorem dX11_countNowhere_41 : decode cX11_countNowhere 41 = .ok (.goto (-33), 3) := by decide +kernel
theorem dX11_countNowhere_44 : decode cX11_countNowhere 44 = .ok (.iload_n 1, 1) := by decide +kernel
theorem dX11_countNowhere_45 : decode cX11_countNowhere 45 = .ok (.ireturn, 1) := by decide +kernel
theorem dX11_tellEnd_0 : decode cX11_tellEnd 0 = .ok (.aload_n 0, 1) := by decide +kernel
theorem dX11_tellEnd_1 : decode cX11_tellEnd 1 = .ok (.getfield 75, 3) := by decide +kernel
theorem dX11_tellEnd_4 : decode cX11_tellEnd 4 = .ok (.aload_n 0, 1) := by decide +kernel
theorem dX11_tellEnd_5 : decode cX11_tellEnd 5 = .ok (.getfield 68, 3) := by decide +kernel
theorem dX11_tellEnd_8 : decode cX11_tellEnd 8 = .ok (.getfield 289, 3) := by decide +kernel
theorem dX11_tellEnd_11 : decode cX11_tellEnd 11 = .ok (.iload_n 1, 1) := by decide +kernel
theorem dX11_tellEnd_12 : decode cX11_tellEnd 12 = .ok (.laload, 1) := by decide +kernel
theorem dX11_tellEnd_13 : decode cX11_tellEnd 13 = .ok (.aload_n 0, 1) := by decide +kernel
theorem dX11_tellEnd_14 : decode cX11_tellEnd 14 = .ok (.getfield 68, 3) := by decide +kernel
theorem dX11_tellEnd_17 : decode cX11_tellEnd 17 = .ok (.getfield 209, 3) := by decide +kernel
theorem dX11_tellEnd_20 : decode cX11_tellEnd 20 = .ok (.iload_n 1, 1) := by decide +kernel
theorem dX11_tellEnd_21 : decode cX11_tellEnd 21 = .ok (.laload, 1) := by decide +kernel
theorem dX11_tellEnd_22 : decode cX11_tellEnd 22 = .ok (.invokevirtual 175, 3) := by decide +kernel
theorem dX11_tellEnd_25 : decode cX11_tellEnd 25 = .ok (.return_, 1) := by decide +kernel
theorem dX12_init_0 : decode cX12_init 0 = .ok (.aload_n 0, 1) := by decide +kernel
theorem dX12_init_1 : decode cX12_init 1 = .ok (.invokespecial 1, 3) := by decide +kernel
theorem dX12_init_4 : decode cX12_init 4 = .ok (.aload_n 0, 1) := by decide +kernel
theorem dX12_init_5 : decode cX12_init 5 = .ok (.bipush 100, 2) := by decide +kernel
theorem dX12_init_7 : decode cX12_init 7 = .ok (.putfield 7, 3) := by decide +kernel
theorem dX12_init_10 : decode cX12_init 10 = .ok (.aload_n 0, 1) := by decide +kernel
theorem dX12_init_11 : decode cX12_init 11 = .ok (.bipush 56, 2) := by decide +kernel
theorem dX12_init_13 : decode cX12_init 13 = .ok (.newarray .int, 2) := by decide +kernel
theorem dX12_init_15 : decode cX12_init 15 = .ok (.putfield 13, 3) := by decide +kernel
theorem dX12_init_18 : decode cX12_init 18 = .ok (.aload_n 0, 1) := by decide +kernel
theorem dX12_init_19 : decode cX12_init 19 = .ok (.bipush 32, 2) := by decide +kernel
theorem dX12_init_21 : decode cX12_init 21 = .ok (.newarray .int, 2) := by decide +kernel
theorem dX12_init_23 : decode cX12_init 23 = .ok (.putfield 17, 3) := by decide +kernel
theorem dX12_init_26 : decode cX12_init 26 = .ok (.aload_n 0, 1) := by decide +kernel
theorem dX12_init_27 : decode cX12_init 27 = .ok (.bipush 24, 2) := by decide +kernel
theorem dX12_init_29 : decode cX12_init 29 = .ok (.newarray .int, 2) := by decide +kernel
theorem dX12_init_31 : decode cX12_init 31 = .ok (.putfield 20, 3) := by decide +kernel
theorem dX12_init_34 : decode cX12_init 34 = .ok (.aload_n 0, 1) := by decide +kernel
theorem dX12_init_35 : decode cX12_init 35 = .ok (.bipush 20, 2) := by decide +kernel
theorem dX12_init_37 : decode cX12_init 37 = .ok (.putfield 23, 3) := by decide +kernel
theorem dX12_init_40 : decode cX12_init 40 = .ok (.aload_n 0, 1) := by decide +kernel
theorem dX12_init_41 : decode cX12_init 41 = .ok (.bipush 24, 2) := by decide +kernel
theorem dX12_init_43 : decode cX12_init 43 = .ok (.newarray .int, 2) := by decide +kernel
theorem dX12_init_45 : decode cX12_init 45 = .ok (.putfield 26, 3) := by decide +kernel
theorem dX12_init_48 : decode cX12_init 48 = .ok (.aload_n 0, 1) := by decide +kernel
theorem dX12_init_49 : decode cX12_init 49 = .ok (.lconst 1, 1) := by decide +kernel
theorem dX12_init_50 : decode cX12_init 50 = .ok (.putfield 29, 3) := by decide +kernel
theorem dX12_init_53 : decode cX12_init 53 = .ok (.aload_n 0, 1) := by decide +kernel
theorem dX12_init_54 : decode cX12_init 54 = .ok (.bipush 6, 2) := by decide +kernel
theorem dX12_init_56 : decode cX12_init 56 = .ok (.newarray .int, 2) := by decide +kernel
theorem dX12_init_58 : decode cX12_init 58 = .ok (.putfield 33, 3) := by decide +kernel
theorem dX12_init_61 : decode cX12_init 61 = .ok (.aload_n 0, 1) := by decide +kernel
theorem dX12_init_62 : decode cX12_init 62 = .ok (.sipush 16384, 3) := by decide +kernel
theorem dX12_init_65 : decode cX12_init 65 = .ok (.newarray .int, 2) := by decide +kernel
theorem dX12_init_67 : decode cX12_init 67 = .ok (.putfield 36, 3) := by decide +kernel
theorem dX12_init_70 : decode cX12_init 70 = .ok (.aload_n 0, 1) := by decide +kernel
theorem dX12_init_71 : decode cX12_init 71 = .ok (.sipush 16384, 3) := by decide +kernel
theorem dX12_init_74 : decode cX12_init 74 = .ok (.newarray .int, 2) := by decide +kernel
theorem dX12_init_76 : decode cX12_init 76 = .ok (.putfield 39, 3) := by decide +kernel
theorem dX12_init_79 : decode cX12_init 79 = .ok (.aload_n 0, 1) := by decide +kernel
theorem dX12_init_80 : decode cX12_init 80 = .ok (.sipush 16384, 3) := by decide +kernel
theorem dX12_init_83 : decode cX12_init 83 = .ok (.newarray .int, 2) := by decide +kernel
theorem dX12_init_85 : decode cX12_init 85 = .ok (.putfield 42, 3) := by decide +kernel
theorem dX12_init_88 : decode cX12_init 88 = .ok (.aload_n 0, 1) := by decide +kernel
theorem dX12_init_89 : decode cX12_init 89 = .ok (.sipush 2048, 3) := by decide +kernel
theorem dX12_init_92 : decode cX12_init 92 = .ok (.newarray .int, 2) := by decide +kernel
theorem dX12_init_94 : decode cX12_init 94 = .ok (.putfield 45, 3) := by decide +kernel
theorem dX12_init_97 : decode cX12_init 97 = .ok (.aload_n 0, 1) := by decide +kernel
theorem dX12_init_98 : decode cX12_init 98 = .ok (.sipush 2048, 3) := by decide +kernel
theorem dX12_init_101 : decode cX12_init 101 = .ok (.newarray .long, 2) := by decide +kernel
theorem dX12_init_103 : decode cX12_init 103 = .ok (.putfield 48, 3) := by decide +kernel
theorem dX12_init_106 : decode cX12_init 106 = .ok (.aload_n 0, 1) := by decide +kernel
theorem dX12_init_107 : decode cX12_init 107 = .ok (.sipush 2048, 3) := by decide +kernel
theorem dX12_init_110 : decode cX12_init 110 = .ok (.newarray .long, 2) := by decide +kernel
theorem dX12_init_112 : decode cX12_init 112 = .ok (.putfield 52, 3) := by decide +kernel
theorem dX12_init_115 : decode cX12_init 115 = .ok (.return_, 1) := by decide +kernel
theorem dX12_in_0 : decode cX12_in 0 = .ok (.lload_n 0, 1) := by decide +kernel
theorem dX12_in_1 : decode cX12_in 1 = .ok (.lload_n 2, 1) := by decide +kernel
theorem dX12_in_2 : decode cX12_in 2 = .ok (.lcmp, 1) := by decide +kernel
theorem dX12_in_3 : decode cX12_in 3 = .ok (.ifCond .lt 14, 3) := by decide +kernel
theorem dX12_in_6 : decode cX12_in 6 = .ok (.lload_n 0, 1) := by decide +kernel
theorem dX12_in_7 : decode cX12_in 7 = .ok (.lload 4, 2) := by decide +kernel
theorem dX12_in_9 : decode cX12_in 9 = .ok (.lcmp, 1) := by decide +kernel
theorem dX12_in_10 : decode cX12_in 10 = .ok (.ifCond .gt 7, 3) := by decide +kernel
theorem dX12_in_13 : decode cX12_in 13 = .ok (.iconst 1, 1) := by decide +kernel
theorem dX12_in_14 : decode cX12_in 14 = .ok (.goto 4, 3) := by decide +kernel
theorem dX12_in_17 : decode cX12_in 17 = .ok (.iconst 0, 1) := by decide +kernel
theorem dX12_in_18 : decode cX12_in 18 = .ok (.ireturn, 1) := by decide +kernel
theorem dX12_isLine_0 : decode cX12_isLine 0 = .ok (.iload_n 0, 1) := by decide +kernel
theorem dX12_isLine_1 : decode cX12_isLine 1 = .ok (.i2l, 1) := by decide +kernel
theorem dX12_isLine_2 : decode cX12_isLine 2 = .ok (.ldc2_w 55, 3) := by decide +kernel
theorem dX12_isLine_5 : decode cX12_isLine 5 = .ok (.ldc2_w 57, 3) := by decide +kernel
theorem dX12_isLine_8 : decode cX12_isLine 8 = .ok (.invokestatic 59, 3) := by decide +kernel
theorem dX12_isLine_11 : decode cX12_isLine 11 = .ok (.ifCond .eq 21, 3) := by decide +kernel
theorem dX12_isLine_14 : decode cX12_isLine 14 = .ok (.iload_n 1, 1) := by decide +kernel
theorem dX12_isLine_15 : decode cX12_isLine 15 = .ok (.i2l, 1) := by decide +kernel
theorem dX12_isLine_16 : decode cX12_isLine 16 = .ok (.ldc2_w 55, 3) := by decide +kernel
theorem dX12_isLine_19 : decode cX12_isLine 19 = .ok (.ldc2_w 57, 3) := by decide +kernel
theorem dX12_isLine_22 : decode cX12_isLine 22 = .ok (.invokestatic 59, 3) := by decide +kernel
theorem dX12_isLine_25 : decode cX12_isLine 25 = .ok (.ifCond .eq 7, 3) := by decide +kernel
theorem dX12_isLine_28 : decode cX12_isLine 28 = .ok (.iconst 1, 1) := by decide +kernel
theorem dX12_isLine_29 : decode cX12_isLine 29 = .ok (.goto 4, 3) := by decide +kernel
theorem dX12_isLine_32 : decode cX12_isLine 32 = .ok (.iconst 0, 1) := by decide +kernel
theorem dX12_isLine_33 : decode cX12_isLine 33 = .ok (.ireturn, 1) := by decide +kernel
theorem dX12_top_0 : decode cX12_top 0 = .ok (.iload_n 1, 1) := by decide +kernel
theorem dX12_top_1 : decode cX12_top 1 = .ok (.i2l, 1) := by decide +kernel
theorem dX12_top_2 : decode cX12_top 2 = .ok (.lconst 1, 1) := by decide +kernel
theorem dX12_top_3 : decode cX12_top 3 = .ok (.ldc2_w 57, 3) := by decide +kernel
theorem dX12_top_6 : decode cX12_top 6 = .ok (.invokestatic 59, 3) := by decide +kernel
theorem dX12_top_9 : decode cX12_top 9 = .ok (.ifCond .ne 6, 3) := by decide +kernel
theorem dX12_top_12 : decode cX12_top 12 = .ok (.bipush (-2), 2) := by decide +kernel
theorem dX12_top_14 : decode cX12_top 14 = .ok (.ireturn, 1) := by decide +kernel
theorem dX12_top_15 : decode cX12_top 15 = .ok (.aload_n 0, 1) := by decide +kernel
theorem dX12_top_16 : decode cX12_top 16 = .ok (.getfield 7, 3) := by decide +kernel
theorem dX12_top_19 : decode cX12_top 19 = .ok (.istore_n 2, 1) := by decide +kernel
theorem dX12_top_20 : decode cX12_top 20 = .ok (.aload_n 0, 1) := by decide +kernel
theorem dX12_top_21 : decode cX12_top 21 = .ok (.iload_n 1, 1) := by decide +kernel
theorem dX12_top_22 : decode cX12_top 22 = .ok (.putfield 7, 3) := by decide +kernel
theorem dX12_top_25 : decode cX12_top 25 = .ok (.iload_n 2, 1) := by decide +kernel
theorem dX12_top_26 : decode cX12_top 26 = .ok (.ireturn, 1) := by decide +kernel
theorem dX12_kind_0 : decode cX12_kind 0 = .ok (.iload_n 1, 1) := by decide +kernel
theorem dX12_kind_1 : decode cX12_kind 1 = .ok (.i2l, 1) := by decide +kernel
theorem dX12_kind_2 : decode cX12_kind 2 = .ok (.lconst 0, 1) := by decide +kernel
theorem dX12_kind_3 : decode cX12_kind 3 = .ok (.ldc2_w 63, 3) := by decide +kernel
theorem dX12_kind_6 : decode cX12_kind 6 = .ok (.invokestatic 59, 3) := by decide +kernel
theorem dX12_kind_9 : decode cX12_kind 9 = .ok (.ifCond .ne 6, 3) := by decide +kernel
theorem dX12_kind_12 : decode cX12_kind 12 = .ok (.bipush (-2), 2) := by decide +kernel
theorem dX12_kind_14 : decode cX12_kind 14 = .ok (.ireturn, 1) := by decide +kernel
theorem dX12_kind_15 : decode cX12_kind 15 = .ok (.aload_n 0, 1) := by decide +kernel
theorem dX12_kind_16 : decode cX12_kind 16 = .ok (.getfield 65, 3) := by decide +kernel
theorem dX12_kind_19 : decode cX12_kind 19 = .ok (.istore_n 2, 1) := by decide +kernel
theorem dX12_kind_20 : decode cX12_kind 20 = .ok (.aload_n 0, 1) := by decide +kernel
theorem dX12_kind_21 : decode cX12_kind 21 = .ok (.iload_n 1, 1) := by decide +kernel
theorem dX12_kind_22 : decode cX12_kind 22 = .ok (.putfield 65, 3) := by decide +kernel
theorem dX12_kind_25 : decode cX12_kind 25 = .ok (.iload_n 2, 1) := by decide +kernel
theorem dX12_kind_26 : decode cX12_kind 26 = .ok (.ireturn, 1) := by decide +kernel
theorem dX12_link_0 : decode cX12_link 0 = .ok (.iload_n 1, 1) := by decide +kernel
theorem dX12_link_1 : decode cX12_link 1 = .ok (.i2l, 1) := by decide +kernel
theorem dX12_link_2 : decode cX12_link 2 = .ok (.lconst 0, 1) := by decide +kernel
theorem dX12_link_3 : decode cX12_link 3 = .ok (.ldc2_w 68, 3) := by decide +kernel
theorem dX12_link_6 : decode cX12_link 6 = .ok (.invokestatic 59, 3) := by decide +kernel
theorem dX12_link_9 : decode cX12_link 9 = .ok (.ifCond .eq 29, 3) := by decide +kernel
theorem dX12_link_12 : decode cX12_link 12 = .ok (.iload_n 2, 1) := by decide +kernel
theorem dX12_link_13 : decode cX12_link 13 = .ok (.i2l, 1) := by decide +kernel
theorem dX12_link_14 : decode cX12_link 14 = .ok (.lconst 0, 1) := by decide +kernel
theorem dX12_link_15 : decode cX12_link 15 = .ok (.ldc2_w 68, 3) := by decide +kernel
theorem dX12_link_18 : decode cX12_link 18 = .ok (.invokestatic 59, 3) := by decide +kernel
theorem dX12_link_21 : decode cX12_link 21 = .ok (.ifCond .eq 17, 3) := by decide +kernel
theorem dX12_link_24 : decode cX12_link 24 = .ok (.iload_n 1, 1) := by decide +kernel
theorem dX12_link_25 : decode cX12_link 25 = .ok (.iload_n 2, 1) := by decide +kernel
theorem dX12_link_26 : decode cX12_link 26 = .ok (.if_icmp .eq 12, 3) := by decide +kernel
theorem dX12_link_29 : decode cX12_link 29 = .ok (.iload_n 3, 1) := by decide +kernel
theorem dX12_link_30 : decode cX12_link 30 = .ok (.iload 4, 2) := by decide +kernel
theorem dX12_link_32 : decode cX12_link 32 = .ok (.invokestatic 70, 3) := by decide +kernel
theorem dX12_link_35 : decode cX12_link 35 = .ok (.ifCond .ne 6, 3) := by decide +kernel
theorem dX12_link_38 : decode cX12_link 38 = .ok (.bipush (-2), 2) := by decide +kernel
theorem dX12_link_40 : decode cX12_link 40 = .ok (.ireturn, 1) := by decide +kernel
theorem dX12_link_41 : decode cX12_link 41 = .ok (.aload_n 0, 1) := by decide +kernel
theorem dX12_link_42 : decode cX12_link 42 = .ok (.getfield 74, 3) := by decide +kernel
theorem dX12_link_45 : decode cX12_link 45 = .ok (.bipush 14, 2) := by decide +kernel
theorem dX12_link_47 : decode cX12_link 47 = .ok (.if_icmp .ne 6, 3) := by decide +kernel
theorem dX12_link_50 : decode cX12_link 50 = .ok (.bipush (-4), 2) := by decide +kernel
theorem dX12_link_52 : decode cX12_link 52 = .ok (.ireturn, 1) := by decide +kernel
theorem dX12_link_53 : decode cX12_link 53 = .ok (.aload_n 0, 1) := by decide +kernel
theorem dX12_link_54 : decode cX12_link 54 = .ok (.getfield 13, 3) := by decide +kernel
theorem dX12_link_57 : decode cX12_link 57 = .ok (.iconst 4, 1) := by decide +kernel
theorem dX12_link_58 : decode cX12_link 58 = .ok (.aload_n 0, 1) := by decide +kernel
theorem dX12_link_59 : decode cX12_link 59 = .ok (.getfield 74, 3) := by decide +kernel
theorem dX12_link_62 : decode cX12_link 62 = .ok (.imul, 1) := by decide +kernel
theorem dX12_link_63 : decode cX12_link 63 = .ok (.iload_n 1, 1) := by decide +kernel
theorem dX12_link_64 : decode cX12_link 64 = .ok (.iastore, 1) := by decide +kernel
theorem dX12_link_65 : decode cX12_link 65 = .ok (.aload_n 0, 1) := by decide +kernel
theorem dX12_link_66 : decode cX12_link 66 = .ok (.getfield 13, 3) := by decide +kernel
theorem dX12_link_69 : decode cX12_link 69 = .ok (.iconst 4, 1) := by decide +kernel
theorem dX12_link_70 : decode cX12_link 70 = .ok (.aload_n 0, 1) := by decide +kernel
theorem dX12_link_71 : decode cX12_link 71 = .ok (.getfield 74, 3) := by decide +kernel
theorem dX12_link_74 : decode cX12_link 74 = .ok (.imul, 1) := by decide +kernel
theorem dX12_link_75 : decode cX12_link 75 = .ok (.iconst 1, 1) := by decide +kernel
theorem dX12_link_76 : decode cX12_link 76 = .ok (.iadd, 1) := by decide +kernel
theorem dX12_link_77 : decode cX12_link 77 = .ok (.iload_n 2, 1) := by decide +kernel
theorem dX12_link_78 : decode cX12_link 78 = .ok (.iastore, 1) := by decide +kernel
theorem dX12_link_79 : decode cX12_link 79 = .ok (.aload_n 0, 1) := by decide +kernel
theorem dX12_link_80 : decode cX12_link 80 = .ok (.getfield 13, 3) := by decide +kernel
theorem dX12_link_83 : decode cX12_link 83 = .ok (.iconst 4, 1) := by decide +kernel
theorem dX12_link_84 : decode cX12_link 84 = .ok (.aload_n 0, 1) := by decide +kernel
theorem dX12_link_85 : decode cX12_link 85 = .ok (.getfield 74, 3) := by decide +kernel
theorem dX12_link_88 : decode cX12_link 88 = .ok (.imul, 1) := by decide +kernel
theorem dX12_link_89 : decode cX12_link 89 = .ok (.iconst 2, 1) := by decide +kernel
theorem dX12_link_90 : decode cX12_link 90 = .ok (.iadd, 1) := by decide +kernel
theorem dX12_link_91 : decode cX12_link 91 = .ok (.iload_n 3, 1) := by decide +kernel
theorem dX12_link_92 : decode cX12_link 92 = .ok (.iastore, 1) := by decide +kernel
theorem dX12_link_93 : decode cX12_link 93 = .ok (.aload_n 0, 1) := by decide +kernel
theorem dX12_link_94 : decode cX12_link 94 = .ok (.getfield 13, 3) := by decide +kernel
theorem dX12_link_97 : decode cX12_link 97 = .ok (.iconst 4, 1) := by decide +kernel
theorem dX12_link_98 : decode cX12_link 98 = .ok (.aload_n 0, 1) := by decide +kernel
theorem dX12_link_99 : decode cX12_link 99 = .ok (.getfield 74, 3) := by decide +kernel
theorem dX12_link_102 : decode cX12_link 102 = .ok (.imul, 1) := by decide +kernel
theorem dX12_link_103 : decode cX12_link 103 = .ok (.iconst 3, 1) := by decide +kernel
theorem dX12_link_104 : decode cX12_link 104 = .ok (.iadd, 1) := by decide +kernel
theorem dX12_link_105 : decode cX12_link 105 = .ok (.iload 4, 2) := by decide +kernel
theorem dX12_link_107 : decode cX12_link 107 = .ok (.iastore, 1) := by decide +kernel
theorem dX12_link_108 : decode cX12_link 108 = .ok (.aload_n 0, 1) := by decide +kernel
theorem dX12_link_109 : decode cX12_link 109 = .ok (.dup, 1) := by decide +kernel
theorem dX12_link_110 : decode cX12_link 110 = .ok (.getfield 74, 3) := by decide +kernel
theorem dX12_link_113 : decode cX12_link 113 = .ok (.iconst 1, 1) := by decide +kernel
theorem dX12_link_114 : decode cX12_link 114 = .ok (.iadd, 1) := by decide +kernel
theorem dX12_link_115 : decode cX12_link 115 = .ok (.putfield 74, 3) := by decide +kernel
theorem dX12_link_118 : decode cX12_link 118 = .ok (.aload_n 0, 1) := by decide +kernel
theorem dX12_link_119 : decode cX12_link 119 = .ok (.getfield 74, 3) := by decide +kernel
theorem dX12_link_122 : decode cX12_link 122 = .ok (.iconst 1, 1) := by decide +kernel
theorem dX12_link_123 : decode cX12_link 123 = .ok (.isub, 1) := by decide +kernel
theorem dX12_link_124 : decode cX12_link 124 = .ok (.ireturn, 1) := by decide +kernel
theorem dX12_pair_0 : decode cX12_pair 0 = .ok (.iload_n 1, 1) := by decide +kernel
theorem dX12_pair_1 : decode cX12_pair 1 = .ok (.i2l, 1) := by decide +kernel
theorem dX12_pair_2 : decode cX12_pair 2 = .ok (.lconst 0, 1) := by decide +kernel
theorem dX12_pair_3 : decode cX12_pair 3 = .ok (.ldc2_w 77, 3) := by decide +kernel
theorem dX12_pair_6 : decode cX12_pair 6 = .ok (.invokestatic 59, 3) := by decide +kernel
theorem dX12_pair_9 : decode cX12_pair 9 = .ok (.ifCond .eq 24, 3) := by decide +kernel
theorem dX12_pair_12 : decode cX12_pair 12 = .ok (.iload_n 2, 1) := by decide +kernel
theorem dX12_pair_13 : decode cX12_pair 13 = .ok (.i2l, 1) := by decide +kernel
theorem dX12_pair_14 : decode cX12_pair 14 = .ok (.lconst 0, 1) := by decide +kernel
theorem dX12_pair_15 : decode cX12_pair 15 = .ok (.ldc2_w 77, 3) := by decide +kernel
theorem dX12_pair_18 : decode cX12_pair 18 = .ok (.invokestatic 59, 3) := by decide +kernel
theorem dX12_pair_21 : decode cX12_pair 21 = .ok (.ifCond .eq 12, 3) := by decide +kernel
theorem dX12_pair_24 : decode cX12_pair 24 = .ok (.iload_n 3, 1) := by decide +kernel
theorem dX12_pair_25 : decode cX12_pair 25 = .ok (.iload 4, 2) := by decide +kernel
theorem dX12_pair_27 : decode cX12_pair 27 = .ok (.invokestatic 70, 3) := by decide +kernel
theorem dX12_pair_30 : decode cX12_pair 30 = .ok (.ifCond .ne 6, 3) := by decide +kernel
theorem dX12_pair_33 : decode cX12_pair 33 = .ok (.bipush (-2), 2) := by decide +kernel
theorem dX12_pair_35 : decode cX12_pair 35 = .ok (.ireturn, 1) := by decide +kernel
theorem dX12_pair_36 : decode cX12_pair 36 = .ok (.aload_n 0, 1) := by decide +kernel
theorem dX12_pair_37 : decode cX12_pair 37 = .ok (.getfield 17, 3) := by decide +kernel
theorem dX12_pair_40 : decode cX12_pair 40 = .ok (.iconst 2, 1) := by decide +kernel
theorem dX12_pair_41 : decode cX12_pair 41 = .ok (.iconst 4, 1) := by decide +kernel
theorem dX12_pair_42 : decode cX12_pair 42 = .ok (.iload_n 1, 1) := by decide +kernel
theorem dX12_pair_43 : decode cX12_pair 43 = .ok (.imul, 1) := by decide +kernel
theorem dX12_pair_44 : decode cX12_pair 44 = .ok (.iload_n 2, 1) := by decide +kernel
theorem dX12_pair_45 : decode cX12_pair 45 = .ok (.iadd, 1) := by decide +kernel
theorem dX12_pair_46 : decode cX12_pair 46 = .ok (.imul, 1) := by decide +kernel
theorem dX12_pair_47 : decode cX12_pair 47 = .ok (.iload_n 3, 1) := by decide +kernel
theorem dX12_pair_48 : decode cX12_pair 48 = .ok (.iastore, 1) := by decide +kernel
theorem dX12_pair_49 : decode cX12_pair 49 = .ok (.aload_n 0, 1) := by decide +kernel
theorem dX12_pair_50 : decode cX12_pair 50 = .ok (.getfield 17, 3) := by decide +kernel
theorem dX12_pair_53 : decode cX12_pair 53 = .ok (.iconst 2, 1) := by decide +kernel
theorem dX12_pair_54 : decode cX12_pair 54 = .ok (.iconst 4, 1) := by decide +kernel
theorem dX12_pair_55 : decode cX12_pair 55 = .ok (.iload_n 1, 1) := by decide +kernel
theorem dX12_pair_56 : decode cX12_pair 56 = .ok (.imul, 1) := by decide +kernel
theorem dX12_pair_57 : decode cX12_pair 57 = .ok (.iload_n 2, 1) := by decide +kernel
theorem dX12_pair_58 : decode cX12_pair 58 = .ok (.iadd, 1) := by decide +kernel
theorem dX12_pair_59 : decode cX12_pair 59 = .ok (.imul, 1) := by decide +kernel
theorem dX12_pair_60 : decode cX12_pair 60 = .ok (.iconst 1, 1) := by decide +kernel
theorem dX12_pair_61 : decode cX12_pair 61 = .ok (.iadd, 1) := by decide +kernel
theorem dX12_pair_62 : decode cX12_pair 62 = .ok (.iload 4, 2) := by decide +kernel
theorem dX12_pair_64 : decode cX12_pair 64 = .ok (.iastore, 1) := by decide +kernel
theorem dX12_pair_65 : decode cX12_pair 65 = .ok (.iconst 1, 1) := by decide +kernel
theorem dX12_pair_66 : decode cX12_pair 66 = .ok (.ireturn, 1) := by decide +kernel
theorem dX12_thing_0 : decode cX12_thing 0 = .ok (.iload_n 1, 1) := by decide +kernel
theorem dX12_thing_1 : decode cX12_thing 1 = .ok (.i2l, 1) := by decide +kernel
theorem dX12_thing_2 : decode cX12_thing 2 = .ok (.lconst 1, 1) := by decide +kernel
theorem dX12_thing_3 : decode cX12_thing 3 = .ok (.ldc2_w 79, 3) := by decide +kernel
theorem dX12_thing_6 : decode cX12_thing 6 = .ok (.invokestatic 59, 3) := by decide +kernel
theorem dX12_thing_9 : decode cX12_thing 9 = .ok (.ifCond .eq 11, 3) := by decide +kernel
theorem dX12_thing_12 : decode cX12_thing 12 = .ok (.iload_n 2, 1) := by decide +kernel
theorem dX12_thing_13 : decode cX12_thing 13 = .ok (.iload_n 3, 1) := by decide +kernel
theorem dX12_thing_14 : decode cX12_thing 14 = .ok (.invokestatic 70, 3) := by decide +kernel
theorem dX12_thing_17 : decode cX12_thing 17 = .ok (.ifCond .ne 6, 3) := by decide +kernel
theorem dX12_thing_20 : decode cX12_thing 20 = .ok (.bipush (-2), 2) := by decide +kernel
theorem dX12_thing_22 : decode cX12_thing 22 = .ok (.ireturn, 1) := by decide +kernel
theorem dX12_thing_23 : decode cX12_thing 23 = .ok (.aload_n 0, 1) := by decide +kernel
theorem dX12_thing_24 : decode cX12_thing 24 = .ok (.getfield 81, 3) := by decide +kernel
theorem dX12_thing_27 : decode cX12_thing 27 = .ok (.bipush 8, 2) := by decide +kernel
theorem dX12_thing_29 : decode cX12_thing 29 = .ok (.if_icmp .ne 6, 3) := by decide +kernel
theorem dX12_thing_32 : decode cX12_thing 32 = .ok (.bipush (-4), 2) := by decide +kernel
theorem dX12_thing_34 : decode cX12_thing 34 = .ok (.ireturn, 1) := by decide +kernel
theorem dX12_thing_35 : decode cX12_thing 35 = .ok (.aload_n 0, 1) := by decide +kernel
theorem dX12_thing_36 : decode cX12_thing 36 = .ok (.getfield 20, 3) := by decide +kernel
theorem dX12_thing_39 : decode cX12_thing 39 = .ok (.iconst 3, 1) := by decide +kernel
theorem dX12_thing_40 : decode cX12_thing 40 = .ok (.aload_n 0, 1) := by decide +kernel
theorem dX12_thing_41 : decode cX12_thing 41 = .ok (.getfield 81, 3) := by decide +kernel
theorem dX12_thing_44 : decode cX12_thing 44 = .ok (.imul, 1) := by decide +kernel
theorem dX12_thing_45 : decode cX12_thing 45 = .ok (.iload_n 1, 1) := by decide +kernel
theorem dX12_thing_46 : decode cX12_thing 46 = .ok (.iastore, 1) := by decide +kernel
theorem dX12_thing_47 : decode cX12_thing 47 = .ok (.aload_n 0, 1) := by decide +kernel
theorem dX12_thing_48 : decode cX12_thing 48 = .ok (.getfield 20, 3) := by decide +kernel
theorem dX12_thing_51 : decode cX12_thing 51 = .ok (.iconst 3, 1) := by decide +kernel
theorem dX12_thing_52 : decode cX12_thing 52 = .ok (.aload_n 0, 1) := by decide +kernel
theorem dX12_thing_53 : decode cX12_thing 53 = .ok (.getfield 81, 3) := by decide +kernel
theorem dX12_thing_56 : decode cX12_thing 56 = .ok (.imul, 1) := by decide +kernel
theorem dX12_thing_57 : decode cX12_thing 57 = .ok (.iconst 1, 1) := by decide +kernel
theorem dX12_thing_58 : decode cX12_thing 58 = .ok (.iadd, 1) := by decide +kernel
theorem dX12_thing_59 : decode cX12_thing 59 = .ok (.iload_n 2, 1) := by decide +kernel
theorem dX12_thing_60 : decode cX12_thing 60 = .ok (.iastore, 1) := by decide +kernel
theorem dX12_thing_61 : decode cX12_thing 61 = .ok (.aload_n 0, 1) := by decide +kernel
theorem dX12_thing_62 : decode cX12_thing 62 = .ok (.getfield 20, 3) := by decide +kernel
theorem dX12_thing_65 : decode cX12_thing 65 = .ok (.iconst 3, 1) := by decide +kernel
theorem dX12_thing_66 : decode cX12_thing 66 = .ok (.aload_n 0, 1) := by decide +kernel
theorem dX12_thing_67 : decode cX12_thing 67 = .ok (.getfield 81, 3) := by decide +kernel
theorem dX12_thing_70 : decode cX12_thing 70 = .ok (.imul, 1) := by decide +kernel
theorem dX12_thing_71 : decode cX12_thing 71 = .ok (.iconst 2, 1) := by decide +kernel
theorem dX12_thing_72 : decode cX12_thing 72 = .ok (.iadd, 1) := by decide +kernel
theorem dX12_thing_73 : decode cX12_thing 73 = .ok (.iload_n 3, 1) := by decide +kernel
theorem dX12_thing_74 : decode cX12_thing 74 = .ok (.iastore, 1) := by decide +kernel
theorem dX12_thing_75 : decode cX12_thing 75 = .ok (.aload_n 0, 1) := by decide +kernel
theorem dX12_thing_76 : decode cX12_thing 76 = .ok (.dup, 1) := by decide +kernel
theorem dX12_thing_77 : decode cX12_thing 77 = .ok (.getfield 81, 3) := by decide +kernel
theorem dX12_thing_80 : decode cX12_thing 80 = .ok (.iconst 1, 1) := by decide +kernel
theorem dX12_thing_81 : decode cX12_thing 81 = .ok (.iadd, 1) := by decide +kernel
theorem dX12_thing_82 : decode cX12_thing 82 = .ok (.putfield 81, 3) := by decide +kernel
theorem dX12_thing_85 : decode cX12_thing 85 = .ok (.aload_n 0, 1) := by decide +kernel
theorem dX12_thing_86 : decode cX12_thing 86 = .ok (.getfield 81, 3) := by decide +kernel
theorem dX12_thing_89 : decode cX12_thing 89 = .ok (.iconst 1, 1) := by decide +kernel
theorem dX12_thing_90 : decode cX12_thing 90 = .ok (.isub, 1) := by decide +kernel
theorem dX12_thing_91 : decode cX12_thing 91 = .ok (.ireturn, 1) := by decide +kernel
theorem dX12_room_0 : decode cX12_room 0 = .ok (.iload_n 1, 1) := by decide +kernel
theorem dX12_room_1 : decode cX12_room 1 = .ok (.i2l, 1) := by decide +kernel
theorem dX12_room_2 : decode cX12_room 2 = .ok (.lconst 0, 1) := by decide +kernel
theorem dX12_room_3 : decode cX12_room 3 = .ok (.ldc2_w 84, 3) := by decide +kernel
theorem dX12_room_6 : decode cX12_room 6 = .ok (.invokestatic 59, 3) := by decide +kernel
theorem dX12_room_9 : decode cX12_room 9 = .ok (.ifCond .ne 6, 3) := by decide +kernel
theorem dX12_room_12 : decode cX12_room 12 = .ok (.bipush (-2), 2) := by decide +kernel
theorem dX12_room_14 : decode cX12_room 14 = .ok (.ireturn, 1) := by decide +kernel
theorem dX12_room_15 : decode cX12_room 15 = .ok (.aload_n 0, 1) := by decide +kernel
theorem dX12_room_16 : decode cX12_room 16 = .ok (.getfield 23, 3) := by decide +kernel
theorem dX12_room_19 : decode cX12_room 19 = .ok (.istore_n 2, 1) := by decide +kernel
theorem dX12_room_20 : decode cX12_room 20 = .ok (.aload_n 0, 1) := by decide +kernel
theorem dX12_room_21 : decode cX12_room 21 = .ok (.iload_n 1, 1) := by decide +kernel
theorem dX12_room_22 : decode cX12_room 22 = .ok (.putfield 23, 3) := by decide +kernel
theorem dX12_room_25 : decode cX12_room 25 = .ok (.iload_n 2, 1) := by decide +kernel
theorem dX12_room_26 : decode cX12_room 26 = .ok (.ireturn, 1) := by decide +kernel
theorem dX12_block_0 : decode cX12_block 0 = .ok (.iload_n 1, 1) := by decide +kernel
theorem dX12_block_1 : decode cX12_block 1 = .ok (.iload_n 2, 1) := by decide +kernel
theorem dX12_block_2 : decode cX12_block 2 = .ok (.invokestatic 70, 3) := by decide +kernel
theorem dX12_block_5 : decode cX12_block 5 = .ok (.ifCond .ne 6, 3) := by decide +kernel
theorem dX12_block_8 : decode cX12_block 8 = .ok (.bipush (-2), 2) := by decide +kernel
theorem dX12_block_10 : decode cX12_block 10 = .ok (.ireturn, 1) := by decide +kernel
theorem dX12_block_11 : decode cX12_block 11 = .ok (.aload_n 0, 1) := by decide +kernel
theorem dX12_block_12 : decode cX12_block 12 = .ok (.getfield 86, 3) := by decide +kernel
theorem dX12_block_15 : decode cX12_block 15 = .ok (.bipush 8, 2) := by decide +kernel
theorem dX12_block_17 : decode cX12_block 17 = .ok (.if_icmp .ne 6, 3) := by decide +kernel
theorem dX12_block_20 : decode cX12_block 20 = .ok (.bipush (-4), 2) := by decide +kernel
theorem dX12_block_22 : decode cX12_block 22 = .ok (.ireturn, 1) := by decide +kernel
theorem dX12_block_23 : decode cX12_block 23 = .ok (.aload_n 0, 1) := by decide +kernel
theorem dX12_block_24 : decode cX12_block 24 = .ok (.getfield 26, 3) := by decide +kernel
theorem dX12_block_27 : decode cX12_block 27 = .ok (.iconst 3, 1) := by decide +kernel
theorem dX12_block_28 : decode cX12_block 28 = .ok (.aload_n 0, 1) := by decide +kernel
theorem dX12_block_29 : decode cX12_block 29 = .ok (.getfield 86, 3) := by decide +kernel
theorem dX12_block_32 : decode cX12_block 32 = .ok (.imul, 1) := by decide +kernel
theorem dX12_block_33 : decode cX12_block 33 = .ok (.iload_n 1, 1) := by decide +kernel
theorem dX12_block_34 : decode cX12_block 34 = .ok (.iastore, 1) := by decide +kernel
theorem dX12_block_35 : decode cX12_block 35 = .ok (.aload_n 0, 1) := by decide +kernel
theorem dX12_block_36 : decode cX12_block 36 = .ok (.getfield 26, 3) := by decide +kernel
theorem dX12_block_39 : decode cX12_block 39 = .ok (.iconst 3, 1) := by decide +kernel
theorem dX12_block_40 : decode cX12_block 40 = .ok (.aload_n 0, 1) := by decide +kernel
theorem dX12_block_41 : decode cX12_block 41 = .ok (.getfield 86, 3) := by decide +kernel
theorem dX12_block_44 : decode cX12_block 44 = .ok (.imul, 1) := by decide +kernel
theorem dX12_block_45 : decode cX12_block 45 = .ok (.iconst 1, 1) := by decide +kernel
theorem dX12_block_46 : decode cX12_block 46 = .ok (.iadd, 1) := by decide +kernel
theorem dX12_block_47 : decode cX12_block 47 = .ok (.iload_n 2, 1) := by decide +kernel
theorem dX12_block_48 : decode cX12_block 48 = .ok (.iastore, 1) := by decide +kernel
theorem dX12_block_49 : decode cX12_block 49 = .ok (.aload_n 0, 1) := by decide +kernel
theorem dX12_block_50 : decode cX12_block 50 = .ok (.getfield 26, 3) := by decide +kernel
theorem dX12_block_53 : decode cX12_block 53 = .ok (.iconst 3, 1) := by decide +kernel
theorem dX12_block_54 : decode cX12_block 54 = .ok (.aload_n 0, 1) := by decide +kernel
theorem dX12_block_55 : decode cX12_block 55 = .ok (.getfield 86, 3) := by decide +kernel
theorem dX12_block_58 : decode cX12_block 58 = .ok (.imul, 1) := by decide +kernel
theorem dX12_block_59 : decode cX12_block 59 = .ok (.iconst 2, 1) := by decide +kernel
theorem dX12_block_60 : decode cX12_block 60 = .ok (.iadd, 1) := by decide +kernel
theorem dX12_block_61 : decode cX12_block 61 = .ok (.iconst 0, 1) := by decide +kernel
theorem dX12_block_62 : decode cX12_block 62 = .ok (.iastore, 1) := by decide +kernel
theorem dX12_block_63 : decode cX12_block 63 = .ok (.aload_n 0, 1) := by decide +kernel
theorem dX12_block_64 : decode cX12_block 64 = .ok (.dup, 1) := by decide +kernel
theorem dX12_block_65 : decode cX12_block 65 = .ok (.getfield 86, 3) := by decide +kernel
theorem dX12_block_68 : decode cX12_block 68 = .ok (.iconst 1, 1) := by decide +kernel
theorem dX12_block_69 : decode cX12_block 69 = .ok (.iadd, 1) := by decide +kernel
theorem dX12_block_70 : decode cX12_block 70 = .ok (.putfield 86, 3) := by decide +kernel
theorem dX12_block_73 : decode cX12_block 73 = .ok (.aload_n 0, 1) := by decide +kernel
theorem dX12_block_74 : decode cX12_block 74 = .ok (.getfield 86, 3) := by decide +kernel
theorem dX12_block_77 : decode cX12_block 77 = .ok (.iconst 1, 1) := by decide +kernel
theorem dX12_block_78 : decode cX12_block 78 = .ok (.isub, 1) := by decide +kernel
theorem dX12_block_79 : decode cX12_block 79 = .ok (.ireturn, 1) := by decide +kernel
theorem dX12_needs_0 : decode cX12_needs 0 = .ok (.iload_n 1, 1) := by decide +kernel
theorem dX12_needs_1 : decode cX12_needs 1 = .ok (.i2l, 1) := by decide +kernel
theorem dX12_needs_2 : decode cX12_needs 2 = .ok (.lconst 0, 1) := by decide +kernel
theorem dX12_needs_3 : decode cX12_needs 3 = .ok (.aload_n 0, 1) := by decide +kernel
theorem dX12_needs_4 : decode cX12_needs 4 = .ok (.getfield 86, 3) := by decide +kernel
theorem dX12_needs_7 : decode cX12_needs 7 = .ok (.iconst 1, 1) := by decide +kernel
theorem dX12_needs_8 : decode cX12_needs 8 = .ok (.isub, 1) := by decide +kernel
theorem dX12_needs_9 : decode cX12_needs 9 = .ok (.i2l, 1) := by decide +kernel
theorem dX12_needs_10 : decode cX12_needs 10 = .ok (.invokestatic 59, 3) := by decide +kernel
theorem dX12_needs_13 : decode cX12_needs 13 = .ok (.ifCond .eq 24, 3) := by decide +kernel
theorem dX12_needs_16 : decode cX12_needs 16 = .ok (.iload_n 2, 1) := by decide +kernel
theorem dX12_needs_17 : decode cX12_needs 17 = .ok (.i2l, 1) := by decide +kernel
theorem dX12_needs_18 : decode cX12_needs 18 = .ok (.lconst 0, 1) := by decide +kernel
theorem dX12_needs_19 : decode cX12_needs 19 = .ok (.aload_n 0, 1) := by decide +kernel
theorem dX12_needs_20 : decode cX12_needs 20 = .ok (.getfield 86, 3) := by decide +kernel
theorem dX12_needs_23 : decode cX12_needs 23 = .ok (.iconst 1, 1) := by decide +kernel
theorem dX12_needs_24 : decode cX12_needs 24 = .ok (.isub, 1) := by decide +kernel
theorem dX12_needs_25 : decode cX12_needs 25 = .ok (.i2l, 1) := by decide +kernel
theorem dX12_needs_26 : decode cX12_needs 26 = .ok (.invokestatic 59, 3) := by decide +kernel
theorem dX12_needs_29 : decode cX12_needs 29 = .ok (.ifCond .eq 8, 3) := by decide +kernel
theorem dX12_needs_32 : decode cX12_needs 32 = .ok (.iload_n 1, 1) := by decide +kernel
theorem dX12_needs_33 : decode cX12_needs 33 = .ok (.iload_n 2, 1) := by decide +kernel
theorem dX12_needs_34 : decode cX12_needs 34 = .ok (.if_icmp .ne 6, 3) := by decide +kernel
theorem dX12_needs_37 : decode cX12_needs 37 = .ok (.bipush (-2), 2) := by decide +kernel
theorem dX12_needs_39 : decode cX12_needs 39 = .ok (.ireturn, 1) := by decide +kernel
theorem dX12_needs_40 : decode cX12_needs 40 = .ok (.aload_n 0, 1) := by decide +kernel
theorem dX12_needs_41 : decode cX12_needs 41 = .ok (.getfield 26, 3) := by decide +kernel
theorem dX12_needs_44 : decode cX12_needs 44 = .ok (.iconst 3, 1) := by decide +kernel
theorem dX12_needs_45 : decode cX12_needs 45 = .ok (.iload_n 1, 1) := by decide +kernel
theorem dX12_needs_46 : decode cX12_needs 46 = .ok (.imul, 1) := by decide +kernel
theorem dX12_needs_47 : decode cX12_needs 47 = .ok (.iconst 2, 1) := by decide +kernel
theorem dX12_needs_48 : decode cX12_needs 48 = .ok (.iadd, 1) := by decide +kernel
theorem dX12_needs_49 : decode cX12_needs 49 = .ok (.iaload, 1) := by decide +kernel
theorem dX12_needs_50 : decode cX12_needs 50 = .ok (.iload_n 2, 1) := by decide +kernel
theorem dX12_needs_51 : decode cX12_needs 51 = .ok (.ishr, 1) := by decide +kernel
theorem dX12_needs_52 : decode cX12_needs 52 = .ok (.iconst 1, 1) := by decide +kernel
theorem dX12_needs_53 : decode cX12_needs 53 = .ok (.iand, 1) := by decide +kernel
theorem dX12_needs_54 : decode cX12_needs 54 = .ok (.iconst 1, 1) := by decide +kernel
theorem dX12_needs_55 : decode cX12_needs 55 = .ok (.if_icmp .ne 7, 3) := by decide +kernel
theorem dX12_needs_58 : decode cX12_needs 58 = .ok (.iconst 1, 1) := by decide +kernel
theorem dX12_needs_59 : decode cX12_needs 59 = .ok (.goto 4, 3) := by decide +kernel
theorem dX12_needs_62 : decode cX12_needs 62 = .ok (.iconst 0, 1) := by decide +kernel
theorem dX12_needs_63 : decode cX12_needs 63 = .ok (.istore 4, 2) := by decide +kernel
theorem dX12_needs_65 : decode cX12_needs 65 = .ok (.iload 4, 2) := by decide +kernel
theorem dX12_needs_67 : decode cX12_needs 67 = .ok (.iload_n 3, 1) := by decide +kernel
theorem dX12_needs_68 : decode cX12_needs 68 = .ok (.if_icmp .ne 6, 3) := by decide +kernel
theorem dX12_needs_71 : decode cX12_needs 71 = .ok (.bipush (-3), 2) := by decide +kernel
theorem dX12_needs_73 : decode cX12_needs 73 = .ok (.ireturn, 1) := by decide +kernel
theorem dX12_needs_74 : decode cX12_needs 74 = .ok (.aload_n 0, 1) := by decide +kernel
theorem dX12_needs_75 : decode cX12_needs 75 = .ok (.getfield 26, 3) := by decide +kernel
theorem dX12_needs_78 : decode cX12_needs 78 = .ok (.iconst 3, 1) := by decide +kernel
theorem dX12_needs_79 : decode cX12_needs 79 = .ok (.iload_n 1, 1) := by decide +kernel
theorem dX12_needs_80 : decode cX12_needs 80 = .ok (.imul, 1) := by decide +kernel
theorem dX12_needs_81 : decode cX12_needs 81 = .ok (.iconst 2, 1) := by decide +kernel
theorem dX12_needs_82 : decode cX12_needs 82 = .ok (.iadd, 1) := by decide +kernel
theorem dX12_needs_83 : decode cX12_needs 83 = .ok (.aload_n 0, 1) := by decide +kernel
theorem dX12_needs_84 : decode cX12_needs 84 = .ok (.getfield 26, 3) := by decide +kernel
theorem dX12_needs_87 : decode cX12_needs 87 = .ok (.iconst 3, 1) := by decide +kernel
theorem dX12_needs_88 : decode cX12_needs 88 = .ok (.iload_n 1, 1) := by decide +kernel
theorem dX12_needs_89 : decode cX12_needs 89 = .ok (.imul, 1) := by decide +kernel
theorem dX12_needs_90 : decode cX12_needs 90 = .ok (.iconst 2, 1) := by decide +kernel
theorem dX12_needs_91 : decode cX12_needs 91 = .ok (.iadd, 1) := by decide +kernel
theorem dX12_needs_92 : decode cX12_needs 92 = .ok (.iaload, 1) := by decide +kernel
theorem dX12_needs_93 : decode cX12_needs 93 = .ok (.iconst 1, 1) := by decide +kernel
theorem dX12_needs_94 : decode cX12_needs 94 = .ok (.iload_n 2, 1) := by decide +kernel
theorem dX12_needs_95 : decode cX12_needs 95 = .ok (.ishl, 1) := by decide +kernel
theorem dX12_needs_96 : decode cX12_needs 96 = .ok (.ixor, 1) := by decide +kernel
theorem dX12_needs_97 : decode cX12_needs 97 = .ok (.iastore, 1) := by decide +kernel
theorem dX12_needs_98 : decode cX12_needs 98 = .ok (.iconst 1, 1) := by decide +kernel
theorem dX12_needs_99 : decode cX12_needs 99 = .ok (.ireturn, 1) := by decide +kernel
theorem dX12_parts_0 : decode cX12_parts 0 = .ok (.aload_n 0, 1) := by decide +kernel
theorem dX12_parts_1 : decode cX12_parts 1 = .ok (.getfield 65, 3) := by decide +kernel
theorem dX12_parts_4 : decode cX12_parts 4 = .ok (.iconst 2, 1) := by decide +kernel
theorem dX12_parts_5 : decode cX12_parts 5 = .ok (.if_icmp .ge 10, 3) := by decide +kernel
theorem dX12_parts_8 : decode cX12_parts 8 = .ok (.aload_n 0, 1) := by decide +kernel
theorem dX12_parts_9 : decode cX12_parts 9 = .ok (.getfield 74, 3) := by decide +kernel
theorem dX12_parts_12 : decode cX12_parts 12 = .ok (.goto 35, 3) := by decide +kernel
theorem dX12_parts_15 : decode cX12_parts 15 = .ok (.aload_n 0, 1) := by decide +kernel
theorem dX12_parts_16 : decode cX12_parts 16 = .ok (.getfield 65, 3) := by decide +kernel
theorem dX12_parts_19 : decode cX12_parts 19 = .ok (.iconst 2, 1) := by decide +kernel
theorem dX12_parts_20 : decode cX12_parts 20 = .ok (.if_icmp .ne 8, 3) := by decide +kernel
theorem dX12_parts_23 : decode cX12_parts 23 = .ok (.bipush 16, 2) := by decide +kernel
theorem dX12_parts_25 : decode cX12_parts 25 = .ok (.goto 22, 3) := by decide +kernel
theorem dX12_parts_28 : decode cX12_parts 28 = .ok (.aload_n 0, 1) := by decide +kernel
theorem dX12_parts_29 : decode cX12_parts 29 = .ok (.getfield 65, 3) := by decide +kernel
theorem dX12_parts_32 : decode cX12_parts 32 = .ok (.iconst 3, 1) := by decide +kernel
theorem dX12_parts_33 : decode cX12_parts 33 = .ok (.if_icmp .ne 10, 3) := by decide +kernel
theorem dX12_parts_36 : decode cX12_parts 36 = .ok (.aload_n 0, 1) := by decide +kernel
theorem dX12_parts_37 : decode cX12_parts 37 = .ok (.getfield 81, 3) := by decide +kernel
theorem dX12_parts_40 : decode cX12_parts 40 = .ok (.goto 7, 3) := by decide +kernel
theorem dX12_parts_43 : decode cX12_parts 43 = .ok (.aload_n 0, 1) := by decide +kernel
theorem dX12_parts_44 : decode cX12_parts 44 = .ok (.getfield 86, 3) := by decide +kernel
theorem dX12_parts_47 : decode cX12_parts 47 = .ok (.ireturn, 1) := by decide +kernel
theorem dX12_put_0 : decode cX12_put 0 = .ok (.iload_n 1, 1) := by decide +kernel
theorem dX12_put_1 : decode cX12_put 1 = .ok (.i2l, 1) := by decide +kernel
theorem dX12_put_2 : decode cX12_put 2 = .ok (.lconst 0, 1) := by decide +kernel
