theorem dX4_cell_49 : decode cX4_cell 49 = .ok (.getfield 10, 3) := by decide +kernel
theorem dX4_cell_52 : decode cX4_cell 52 = .ok (.iload_n 1, 1) := by decide +kernel
theorem dX4_cell_53 : decode cX4_cell 53 = .ok (.invokevirtual 110, 3) := by decide +kernel
theorem dX4_cell_56 : decode cX4_cell 56 = .ok (.ireturn, 1) := by decide +kernel
theorem dX4_cell_57 : decode cX4_cell 57 = .ok (.aload_n 0, 1) := by decide +kernel
theorem dX4_cell_58 : decode cX4_cell 58 = .ok (.getfield 10, 3) := by decide +kernel
theorem dX4_cell_61 : decode cX4_cell 61 = .ok (.iload_n 1, 1) := by decide +kernel
theorem dX4_cell_62 : decode cX4_cell 62 = .ok (.invokevirtual 114, 3) := by decide +kernel
theorem dX4_cell_65 : decode cX4_cell 65 = .ok (.ireturn, 1) := by decide +kernel
theorem dX4_cell_66 : decode cX4_cell 66 = .ok (.aload_n 0, 1) := by decide +kernel
theorem dX4_cell_67 : decode cX4_cell 67 = .ok (.getfield 10, 3) := by decide +kernel
theorem dX4_cell_70 : decode cX4_cell 70 = .ok (.iload_n 1, 1) := by decide +kernel
theorem dX4_cell_71 : decode cX4_cell 71 = .ok (.invokevirtual 117, 3) := by decide +kernel
theorem dX4_cell_74 : decode cX4_cell 74 = .ok (.ireturn, 1) := by decide +kernel
theorem dX4_cell_75 : decode cX4_cell 75 = .ok (.aload_n 0, 1) := by decide +kernel
theorem dX4_cell_76 : decode cX4_cell 76 = .ok (.getfield 10, 3) := by decide +kernel
theorem dX4_cell_79 : decode cX4_cell 79 = .ok (.iload_n 1, 1) := by decide +kernel
theorem dX4_cell_80 : decode cX4_cell 80 = .ok (.aload_n 0, 1) := by decide +kernel
theorem dX4_cell_81 : decode cX4_cell 81 = .ok (.getfield 10, 3) := by decide +kernel
theorem dX4_cell_84 : decode cX4_cell 84 = .ok (.getfield 88, 3) := by decide +kernel
theorem dX4_cell_87 : decode cX4_cell 87 = .ok (.iconst 0, 1) := by decide +kernel
theorem dX4_cell_88 : decode cX4_cell 88 = .ok (.iaload, 1) := by decide +kernel
theorem dX4_cell_89 : decode cX4_cell 89 = .ok (.invokevirtual 120, 3) := by decide +kernel
theorem dX4_cell_92 : decode cX4_cell 92 = .ok (.invokestatic 96, 3) := by decide +kernel
theorem dX4_cell_95 : decode cX4_cell 95 = .ok (.ireturn, 1) := by decide +kernel
theorem dX4_cell_96 : decode cX4_cell 96 = .ok (.aload_n 0, 1) := by decide +kernel
theorem dX4_cell_97 : decode cX4_cell 97 = .ok (.getfield 10, 3) := by decide +kernel
theorem dX4_cell_100 : decode cX4_cell 100 = .ok (.iload_n 1, 1) := by decide +kernel
theorem dX4_cell_101 : decode cX4_cell 101 = .ok (.aload_n 0, 1) := by decide +kernel
theorem dX4_cell_102 : decode cX4_cell 102 = .ok (.getfield 10, 3) := by decide +kernel
theorem dX4_cell_105 : decode cX4_cell 105 = .ok (.invokevirtual 92, 3) := by decide +kernel
theorem dX4_cell_108 : decode cX4_cell 108 = .ok (.invokevirtual 124, 3) := by decide +kernel
theorem dX4_cell_111 : decode cX4_cell 111 = .ok (.ireturn, 1) := by decide +kernel
theorem dX4_cell_112 : decode cX4_cell 112 = .ok (.bipush (-2), 2) := by decide +kernel
theorem dX4_cell_114 : decode cX4_cell 114 = .ok (.ireturn, 1) := by decide +kernel
theorem dX4_tower_0 : decode cX4_tower 0 = .ok (.aload_n 0, 1) := by decide +kernel
theorem dX4_tower_1 : decode cX4_tower 1 = .ok (.getfield 10, 3) := by decide +kernel
theorem dX4_tower_4 : decode cX4_tower 4 = .ok (.iload_n 1, 1) := by decide +kernel
theorem dX4_tower_5 : decode cX4_tower 5 = .ok (.invokevirtual 128, 3) := by decide +kernel
theorem dX4_tower_8 : decode cX4_tower 8 = .ok (.ifCond .ne 5, 3) := by decide +kernel
theorem dX4_tower_11 : decode cX4_tower 11 = .ok (.iconst (-1), 1) := by decide +kernel
theorem dX4_tower_12 : decode cX4_tower 12 = .ok (.ireturn, 1) := by decide +kernel
theorem dX4_tower_13 : decode cX4_tower 13 = .ok (.iload_n 2, 1) := by decide +kernel
theorem dX4_tower_14 : decode cX4_tower 14 = .ok (.tableswitch 74 0 3 #[30, 40, 50, 62], 30) := by decide +kernel
theorem dX4_tower_44 : decode cX4_tower 44 = .ok (.aload_n 0, 1) := by decide +kernel
theorem dX4_tower_45 : decode cX4_tower 45 = .ok (.getfield 10, 3) := by decide +kernel
theorem dX4_tower_48 : decode cX4_tower 48 = .ok (.getfield 131, 3) := by decide +kernel
theorem dX4_tower_51 : decode cX4_tower 51 = .ok (.iload_n 1, 1) := by decide +kernel
theorem dX4_tower_52 : decode cX4_tower 52 = .ok (.iaload, 1) := by decide +kernel
theorem dX4_tower_53 : decode cX4_tower 53 = .ok (.ireturn, 1) := by decide +kernel
theorem dX4_tower_54 : decode cX4_tower 54 = .ok (.aload_n 0, 1) := by decide +kernel
theorem dX4_tower_55 : decode cX4_tower 55 = .ok (.getfield 10, 3) := by decide +kernel
theorem dX4_tower_58 : decode cX4_tower 58 = .ok (.getfield 134, 3) := by decide +kernel
theorem dX4_tower_61 : decode cX4_tower 61 = .ok (.iload_n 1, 1) := by decide +kernel
theorem dX4_tower_62 : decode cX4_tower 62 = .ok (.iaload, 1) := by decide +kernel
theorem dX4_tower_63 : decode cX4_tower 63 = .ok (.ireturn, 1) := by decide +kernel
theorem dX4_tower_64 : decode cX4_tower 64 = .ok (.aload_n 0, 1) := by decide +kernel
theorem dX4_tower_65 : decode cX4_tower 65 = .ok (.getfield 10, 3) := by decide +kernel
theorem dX4_tower_68 : decode cX4_tower 68 = .ok (.iload_n 1, 1) := by decide +kernel
theorem dX4_tower_69 : decode cX4_tower 69 = .ok (.invokevirtual 137, 3) := by decide +kernel
theorem dX4_tower_72 : decode cX4_tower 72 = .ok (.invokestatic 96, 3) := by decide +kernel
theorem dX4_tower_75 : decode cX4_tower 75 = .ok (.ireturn, 1) := by decide +kernel
theorem dX4_tower_76 : decode cX4_tower 76 = .ok (.aload_n 0, 1) := by decide +kernel
theorem dX4_tower_77 : decode cX4_tower 77 = .ok (.getfield 10, 3) := by decide +kernel
theorem dX4_tower_80 : decode cX4_tower 80 = .ok (.iload_n 1, 1) := by decide +kernel
theorem dX4_tower_81 : decode cX4_tower 81 = .ok (.invokevirtual 141, 3) := by decide +kernel
theorem dX4_tower_84 : decode cX4_tower 84 = .ok (.invokestatic 96, 3) := by decide +kernel
theorem dX4_tower_87 : decode cX4_tower 87 = .ok (.ireturn, 1) := by decide +kernel
theorem dX4_tower_88 : decode cX4_tower 88 = .ok (.bipush (-2), 2) := by decide +kernel
theorem dX4_tower_90 : decode cX4_tower 90 = .ok (.ireturn, 1) := by decide +kernel
theorem dX4_raise_0 : decode cX4_raise 0 = .ok (.aload_n 0, 1) := by decide +kernel
theorem dX4_raise_1 : decode cX4_raise 1 = .ok (.getfield 10, 3) := by decide +kernel
theorem dX4_raise_4 : decode cX4_raise 4 = .ok (.iload_n 1, 1) := by decide +kernel
theorem dX4_raise_5 : decode cX4_raise 5 = .ok (.invokevirtual 106, 3) := by decide +kernel
theorem dX4_raise_8 : decode cX4_raise 8 = .ok (.ifCond .ne 5, 3) := by decide +kernel
theorem dX4_raise_11 : decode cX4_raise 11 = .ok (.iconst (-1), 1) := by decide +kernel
theorem dX4_raise_12 : decode cX4_raise 12 = .ok (.ireturn, 1) := by decide +kernel
theorem dX4_raise_13 : decode cX4_raise 13 = .ok (.iload_n 2, 1) := by decide +kernel
theorem dX4_raise_14 : decode cX4_raise 14 = .ok (.invokestatic 144, 3) := by decide +kernel
theorem dX4_raise_17 : decode cX4_raise 17 = .ok (.ifCond .ne 6, 3) := by decide +kernel
theorem dX4_raise_20 : decode cX4_raise 20 = .ok (.bipush (-2), 2) := by decide +kernel
theorem dX4_raise_22 : decode cX4_raise 22 = .ok (.ireturn, 1) := by decide +kernel
theorem dX4_raise_23 : decode cX4_raise 23 = .ok (.aload_n 0, 1) := by decide +kernel
theorem dX4_raise_24 : decode cX4_raise 24 = .ok (.getfield 10, 3) := by decide +kernel
theorem dX4_raise_27 : decode cX4_raise 27 = .ok (.iload_n 1, 1) := by decide +kernel
theorem dX4_raise_28 : decode cX4_raise 28 = .ok (.invokevirtual 110, 3) := by decide +kernel
theorem dX4_raise_31 : decode cX4_raise 31 = .ok (.istore_n 3, 1) := by decide +kernel
theorem dX4_raise_32 : decode cX4_raise 32 = .ok (.aload_n 0, 1) := by decide +kernel
theorem dX4_raise_33 : decode cX4_raise 33 = .ok (.getfield 35, 3) := by decide +kernel
theorem dX4_raise_36 : decode cX4_raise 36 = .ok (.iconst 0, 1) := by decide +kernel
theorem dX4_raise_37 : decode cX4_raise 37 = .ok (.iload_n 1, 1) := by decide +kernel
theorem dX4_raise_38 : decode cX4_raise 38 = .ok (.iload_n 3, 1) := by decide +kernel
theorem dX4_raise_39 : decode cX4_raise 39 = .ok (.iconst 0, 1) := by decide +kernel
theorem dX4_raise_40 : decode cX4_raise 40 = .ok (.invokevirtual 147, 3) := by decide +kernel
theorem dX4_raise_43 : decode cX4_raise 43 = .ok (.aload_n 0, 1) := by decide +kernel
theorem dX4_raise_44 : decode cX4_raise 44 = .ok (.getfield 10, 3) := by decide +kernel
theorem dX4_raise_47 : decode cX4_raise 47 = .ok (.iload_n 1, 1) := by decide +kernel
theorem dX4_raise_48 : decode cX4_raise 48 = .ok (.iload_n 2, 1) := by decide +kernel
theorem dX4_raise_49 : decode cX4_raise 49 = .ok (.invokevirtual 151, 3) := by decide +kernel
theorem dX4_raise_52 : decode cX4_raise 52 = .ok (.pop, 1) := by decide +kernel
theorem dX4_raise_53 : decode cX4_raise 53 = .ok (.iload_n 3, 1) := by decide +kernel
theorem dX4_raise_54 : decode cX4_raise 54 = .ok (.ireturn, 1) := by decide +kernel
theorem dX4_build_0 : decode cX4_build 0 = .ok (.aload_n 0, 1) := by decide +kernel
theorem dX4_build_1 : decode cX4_build 1 = .ok (.getfield 10, 3) := by decide +kernel
theorem dX4_build_4 : decode cX4_build 4 = .ok (.iload_n 1, 1) := by decide +kernel
theorem dX4_build_5 : decode cX4_build 5 = .ok (.invokevirtual 106, 3) := by decide +kernel
theorem dX4_build_8 : decode cX4_build 8 = .ok (.ifCond .ne 5, 3) := by decide +kernel
theorem dX4_build_11 : decode cX4_build 11 = .ok (.iconst (-1), 1) := by decide +kernel
theorem dX4_build_12 : decode cX4_build 12 = .ok (.ireturn, 1) := by decide +kernel
theorem dX4_build_13 : decode cX4_build 13 = .ok (.iload_n 2, 1) := by decide +kernel
theorem dX4_build_14 : decode cX4_build 14 = .ok (.invokestatic 144, 3) := by decide +kernel
theorem dX4_build_17 : decode cX4_build 17 = .ok (.ifCond .ne 6, 3) := by decide +kernel
theorem dX4_build_20 : decode cX4_build 20 = .ok (.bipush (-2), 2) := by decide +kernel
theorem dX4_build_22 : decode cX4_build 22 = .ok (.ireturn, 1) := by decide +kernel
theorem dX4_build_23 : decode cX4_build 23 = .ok (.aload_n 0, 1) := by decide +kernel
theorem dX4_build_24 : decode cX4_build 24 = .ok (.getfield 10, 3) := by decide +kernel
theorem dX4_build_27 : decode cX4_build 27 = .ok (.getfield 85, 3) := by decide +kernel
theorem dX4_build_30 : decode cX4_build 30 = .ok (.iconst 5, 1) := by decide +kernel
theorem dX4_build_31 : decode cX4_build 31 = .ok (.if_icmp .lt 6, 3) := by decide +kernel
theorem dX4_build_34 : decode cX4_build 34 = .ok (.bipush (-4), 2) := by decide +kernel
theorem dX4_build_36 : decode cX4_build 36 = .ok (.ireturn, 1) := by decide +kernel
theorem dX4_build_37 : decode cX4_build 37 = .ok (.aload_n 0, 1) := by decide +kernel
theorem dX4_build_38 : decode cX4_build 38 = .ok (.getfield 35, 3) := by decide +kernel
theorem dX4_build_41 : decode cX4_build 41 = .ok (.iconst 1, 1) := by decide +kernel
theorem dX4_build_42 : decode cX4_build 42 = .ok (.aload_n 0, 1) := by decide +kernel
theorem dX4_build_43 : decode cX4_build 43 = .ok (.getfield 10, 3) := by decide +kernel
theorem dX4_build_46 : decode cX4_build 46 = .ok (.getfield 85, 3) := by decide +kernel
theorem dX4_build_49 : decode cX4_build 49 = .ok (.iload_n 1, 1) := by decide +kernel
theorem dX4_build_50 : decode cX4_build 50 = .ok (.iload_n 2, 1) := by decide +kernel
theorem dX4_build_51 : decode cX4_build 51 = .ok (.invokevirtual 147, 3) := by decide +kernel
theorem dX4_build_54 : decode cX4_build 54 = .ok (.aload_n 0, 1) := by decide +kernel
theorem dX4_build_55 : decode cX4_build 55 = .ok (.getfield 10, 3) := by decide +kernel
theorem dX4_build_58 : decode cX4_build 58 = .ok (.aload_n 0, 1) := by decide +kernel
theorem dX4_build_59 : decode cX4_build 59 = .ok (.getfield 10, 3) := by decide +kernel
theorem dX4_build_62 : decode cX4_build 62 = .ok (.getfield 85, 3) := by decide +kernel
theorem dX4_build_65 : decode cX4_build 65 = .ok (.iload_n 1, 1) := by decide +kernel
theorem dX4_build_66 : decode cX4_build 66 = .ok (.iload_n 2, 1) := by decide +kernel
theorem dX4_build_67 : decode cX4_build 67 = .ok (.invokevirtual 155, 3) := by decide +kernel
theorem dX4_build_70 : decode cX4_build 70 = .ok (.pop, 1) := by decide +kernel
theorem dX4_build_71 : decode cX4_build 71 = .ok (.aload_n 0, 1) := by decide +kernel
theorem dX4_build_72 : decode cX4_build 72 = .ok (.getfield 10, 3) := by decide +kernel
theorem dX4_build_75 : decode cX4_build 75 = .ok (.getfield 85, 3) := by decide +kernel
theorem dX4_build_78 : decode cX4_build 78 = .ok (.ireturn, 1) := by decide +kernel
theorem dX4_raze_0 : decode cX4_raze 0 = .ok (.aload_n 0, 1) := by decide +kernel
theorem dX4_raze_1 : decode cX4_raze 1 = .ok (.getfield 10, 3) := by decide +kernel
theorem dX4_raze_4 : decode cX4_raze 4 = .ok (.iload_n 1, 1) := by decide +kernel
theorem dX4_raze_5 : decode cX4_raze 5 = .ok (.invokevirtual 128, 3) := by decide +kernel
theorem dX4_raze_8 : decode cX4_raze 8 = .ok (.ifCond .ne 5, 3) := by decide +kernel
theorem dX4_raze_11 : decode cX4_raze 11 = .ok (.iconst (-1), 1) := by decide +kernel
theorem dX4_raze_12 : decode cX4_raze 12 = .ok (.ireturn, 1) := by decide +kernel
theorem dX4_raze_13 : decode cX4_raze 13 = .ok (.aload_n 0, 1) := by decide +kernel
theorem dX4_raze_14 : decode cX4_raze 14 = .ok (.getfield 35, 3) := by decide +kernel
theorem dX4_raze_17 : decode cX4_raze 17 = .ok (.iconst 2, 1) := by decide +kernel
theorem dX4_raze_18 : decode cX4_raze 18 = .ok (.iload_n 1, 1) := by decide +kernel
theorem dX4_raze_19 : decode cX4_raze 19 = .ok (.aload_n 0, 1) := by decide +kernel
theorem dX4_raze_20 : decode cX4_raze 20 = .ok (.getfield 10, 3) := by decide +kernel
theorem dX4_raze_23 : decode cX4_raze 23 = .ok (.getfield 131, 3) := by decide +kernel
theorem dX4_raze_26 : decode cX4_raze 26 = .ok (.iload_n 1, 1) := by decide +kernel
theorem dX4_raze_27 : decode cX4_raze 27 = .ok (.iaload, 1) := by decide +kernel
theorem dX4_raze_28 : decode cX4_raze 28 = .ok (.aload_n 0, 1) := by decide +kernel
theorem dX4_raze_29 : decode cX4_raze 29 = .ok (.getfield 10, 3) := by decide +kernel
theorem dX4_raze_32 : decode cX4_raze 32 = .ok (.getfield 134, 3) := by decide +kernel
theorem dX4_raze_35 : decode cX4_raze 35 = .ok (.iload_n 1, 1) := by decide +kernel
theorem dX4_raze_36 : decode cX4_raze 36 = .ok (.iaload, 1) := by decide +kernel
theorem dX4_raze_37 : decode cX4_raze 37 = .ok (.invokevirtual 147, 3) := by decide +kernel
theorem dX4_raze_40 : decode cX4_raze 40 = .ok (.aload_n 0, 1) := by decide +kernel
theorem dX4_raze_41 : decode cX4_raze 41 = .ok (.getfield 10, 3) := by decide +kernel
theorem dX4_raze_44 : decode cX4_raze 44 = .ok (.iload_n 1, 1) := by decide +kernel
theorem dX4_raze_45 : decode cX4_raze 45 = .ok (.invokevirtual 159, 3) := by decide +kernel
theorem dX4_raze_48 : decode cX4_raze 48 = .ok (.pop, 1) := by decide +kernel
theorem dX4_raze_49 : decode cX4_raze 49 = .ok (.aload_n 0, 1) := by decide +kernel
theorem dX4_raze_50 : decode cX4_raze 50 = .ok (.getfield 10, 3) := by decide +kernel
theorem dX4_raze_53 : decode cX4_raze 53 = .ok (.getfield 85, 3) := by decide +kernel
theorem dX4_raze_56 : decode cX4_raze 56 = .ok (.ireturn, 1) := by decide +kernel
theorem dX4_set_0 : decode cX4_set 0 = .ok (.iload_n 1, 1) := by decide +kernel
theorem dX4_set_1 : decode cX4_set 1 = .ok (.iload_n 2, 1) := by decide +kernel
theorem dX4_set_2 : decode cX4_set 2 = .ok (.invokestatic 162, 3) := by decide +kernel
theorem dX4_set_5 : decode cX4_set 5 = .ok (.ifCond .ne 6, 3) := by decide +kernel
theorem dX4_set_8 : decode cX4_set 8 = .ok (.bipush (-2), 2) := by decide +kernel
theorem dX4_set_10 : decode cX4_set 10 = .ok (.ireturn, 1) := by decide +kernel
theorem dX4_set_11 : decode cX4_set 11 = .ok (.aload_n 0, 1) := by decide +kernel
theorem dX4_set_12 : decode cX4_set 12 = .ok (.getfield 10, 3) := by decide +kernel
theorem dX4_set_15 : decode cX4_set 15 = .ok (.getfield 88, 3) := by decide +kernel
theorem dX4_set_18 : decode cX4_set 18 = .ok (.iload_n 1, 1) := by decide +kernel
theorem dX4_set_19 : decode cX4_set 19 = .ok (.iaload, 1) := by decide +kernel
theorem dX4_set_20 : decode cX4_set 20 = .ok (.istore_n 3, 1) := by decide +kernel
theorem dX4_set_21 : decode cX4_set 21 = .ok (.aload_n 0, 1) := by decide +kernel
theorem dX4_set_22 : decode cX4_set 22 = .ok (.getfield 35, 3) := by decide +kernel
theorem dX4_set_25 : decode cX4_set 25 = .ok (.iconst 3, 1) := by decide +kernel
theorem dX4_set_26 : decode cX4_set 26 = .ok (.iload_n 1, 1) := by decide +kernel
theorem dX4_set_27 : decode cX4_set 27 = .ok (.iload_n 3, 1) := by decide +kernel
theorem dX4_set_28 : decode cX4_set 28 = .ok (.iconst 0, 1) := by decide +kernel
theorem dX4_set_29 : decode cX4_set 29 = .ok (.invokevirtual 147, 3) := by decide +kernel
theorem dX4_set_32 : decode cX4_set 32 = .ok (.aload_n 0, 1) := by decide +kernel
theorem dX4_set_33 : decode cX4_set 33 = .ok (.getfield 10, 3) := by decide +kernel
theorem dX4_set_36 : decode cX4_set 36 = .ok (.iload_n 1, 1) := by decide +kernel
theorem dX4_set_37 : decode cX4_set 37 = .ok (.iload_n 2, 1) := by decide +kernel
theorem dX4_set_38 : decode cX4_set 38 = .ok (.invokevirtual 165, 3) := by decide +kernel
theorem dX4_set_41 : decode cX4_set 41 = .ok (.pop, 1) := by decide +kernel
theorem dX4_set_42 : decode cX4_set 42 = .ok (.iload_n 3, 1) := by decide +kernel
theorem dX4_set_43 : decode cX4_set 43 = .ok (.ireturn, 1) := by decide +kernel
theorem dX4_undo_0 : decode cX4_undo 0 = .ok (.aload_n 0, 1) := by decide +kernel
theorem dX4_undo_1 : decode cX4_undo 1 = .ok (.getfield 35, 3) := by decide +kernel
theorem dX4_undo_4 : decode cX4_undo 4 = .ok (.getfield 69, 3) := by decide +kernel
theorem dX4_undo_7 : decode cX4_undo 7 = .ok (.ifCond .ne 6, 3) := by decide +kernel
theorem dX4_undo_10 : decode cX4_undo 10 = .ok (.bipush (-3), 2) := by decide +kernel
theorem dX4_undo_12 : decode cX4_undo 12 = .ok (.ireturn, 1) := by decide +kernel
theorem dX4_undo_13 : decode cX4_undo 13 = .ok (.aload_n 0, 1) := by decide +kernel
theorem dX4_undo_14 : decode cX4_undo 14 = .ok (.getfield 35, 3) := by decide +kernel
theorem dX4_undo_17 : decode cX4_undo 17 = .ok (.aload_n 0, 1) := by decide +kernel
theorem dX4_undo_18 : decode cX4_undo 18 = .ok (.getfield 10, 3) := by decide +kernel
theorem dX4_undo_21 : decode cX4_undo 21 = .ok (.invokevirtual 168, 3) := by decide +kernel
theorem dX4_undo_24 : decode cX4_undo 24 = .ok (.aload_n 0, 1) := by decide +kernel
theorem dX4_undo_25 : decode cX4_undo 25 = .ok (.getfield 35, 3) := by decide +kernel
theorem dX4_undo_28 : decode cX4_undo 28 = .ok (.getfield 69, 3) := by decide +kernel
theorem dX4_undo_31 : decode cX4_undo 31 = .ok (.ireturn, 1) := by decide +kernel
theorem dX4_sees_0 : decode cX4_sees 0 = .ok (.aload_n 0, 1) := by decide +kernel
theorem dX4_sees_1 : decode cX4_sees 1 = .ok (.getfield 10, 3) := by decide +kernel
theorem dX4_sees_4 : decode cX4_sees 4 = .ok (.iload_n 1, 1) := by decide +kernel
theorem dX4_sees_5 : decode cX4_sees 5 = .ok (.invokevirtual 106, 3) := by decide +kernel
theorem dX4_sees_8 : decode cX4_sees 8 = .ok (.ifCond .eq 14, 3) := by decide +kernel
theorem dX4_sees_11 : decode cX4_sees 11 = .ok (.aload_n 0, 1) := by decide +kernel
theorem dX4_sees_12 : decode cX4_sees 12 = .ok (.getfield 10, 3) := by decide +kernel
theorem dX4_sees_15 : decode cX4_sees 15 = .ok (.iload_n 2, 1) := by decide +kernel
theorem dX4_sees_16 : decode cX4_sees 16 = .ok (.invokevirtual 106, 3) := by decide +kernel
theorem dX4_sees_19 : decode cX4_sees 19 = .ok (.ifCond .ne 5, 3) := by decide +kernel
theorem dX4_sees_22 : decode cX4_sees 22 = .ok (.iconst (-1), 1) := by decide +kernel
theorem dX4_sees_23 : decode cX4_sees 23 = .ok (.ireturn, 1) := by decide +kernel
theorem dX4_sees_24 : decode cX4_sees 24 = .ok (.aload_n 0, 1) := by decide +kernel
theorem dX4_sees_25 : decode cX4_sees 25 = .ok (.getfield 10, 3) := by decide +kernel
theorem dX4_sees_28 : decode cX4_sees 28 = .ok (.getfield 88, 3) := by decide +kernel
theorem dX4_sees_31 : decode cX4_sees 31 = .ok (.iconst 0, 1) := by decide +kernel
theorem dX4_sees_32 : decode cX4_sees 32 = .ok (.iaload, 1) := by decide +kernel
theorem dX4_sees_33 : decode cX4_sees 33 = .ok (.istore 4, 2) := by decide +kernel
theorem dX4_sees_35 : decode cX4_sees 35 = .ok (.iload_n 3, 1) := by decide +kernel
theorem dX4_sees_36 : decode cX4_sees 36 = .ok (.tableswitch 122 0 4 #[36, 56, 66, 78, 112], 36) := by decide +kernel
theorem dX4_sees_72 : decode cX4_sees 72 = .ok (.aload_n 0, 1) := by decide +kernel
theorem dX4_sees_73 : decode cX4_sees 73 = .ok (.getfield 10, 3) := by decide +kernel
theorem dX4_sees_76 : decode cX4_sees 76 = .ok (.iload_n 1, 1) := by decide +kernel
theorem dX4_sees_77 : decode cX4_sees 77 = .ok (.iload 4, 2) := by decide +kernel
theorem dX4_sees_79 : decode cX4_sees 79 = .ok (.iload_n 2, 1) := by decide +kernel
theorem dX4_sees_80 : decode cX4_sees 80 = .ok (.invokevirtual 171, 3) := by decide +kernel
theorem dX4_sees_83 : decode cX4_sees 83 = .ok (.ifCond .eq 7, 3) := by decide +kernel
theorem dX4_sees_86 : decode cX4_sees 86 = .ok (.iconst 1, 1) := by decide +kernel
theorem dX4_sees_87 : decode cX4_sees 87 = .ok (.goto 4, 3) := by decide +kernel
theorem dX4_sees_90 : decode cX4_sees 90 = .ok (.iconst 0, 1) := by decide +kernel
theorem dX4_sees_91 : decode cX4_sees 91 = .ok (.ireturn, 1) := by decide +kernel
theorem dX4_sees_92 : decode cX4_sees 92 = .ok (.aload_n 0, 1) := by decide +kernel
theorem dX4_sees_93 : decode cX4_sees 93 = .ok (.getfield 10, 3) := by decide +kernel
theorem dX4_sees_96 : decode cX4_sees 96 = .ok (.iload_n 1, 1) := by decide +kernel
theorem dX4_sees_97 : decode cX4_sees 97 = .ok (.iload_n 2, 1) := by decide +kernel
theorem dX4_sees_98 : decode cX4_sees 98 = .ok (.invokevirtual 174, 3) := by decide +kernel
theorem dX4_sees_101 : decode cX4_sees 101 = .ok (.ireturn, 1) := by decide +kernel
theorem dX4_sees_102 : decode cX4_sees 102 = .ok (.aload_n 0, 1) := by decide +kernel
theorem dX4_sees_103 : decode cX4_sees 103 = .ok (.getfield 10, 3) := by decide +kernel
theorem dX4_sees_106 : decode cX4_sees 106 = .ok (.iload_n 1, 1) := by decide +kernel
theorem dX4_sees_107 : decode cX4_sees 107 = .ok (.iload 4, 2) := by decide +kernel
theorem dX4_sees_109 : decode cX4_sees 109 = .ok (.iload_n 2, 1) := by decide +kernel
theorem dX4_sees_110 : decode cX4_sees 110 = .ok (.invokevirtual 178, 3) := by decide +kernel
theorem dX4_sees_113 : decode cX4_sees 113 = .ok (.ireturn, 1) := by decide +kernel
theorem dX4_sees_114 : decode cX4_sees 114 = .ok (.aload_n 0, 1) := by decide +kernel
theorem dX4_sees_115 : decode cX4_sees 115 = .ok (.getfield 10, 3) := by decide +kernel
theorem dX4_sees_118 : decode cX4_sees 118 = .ok (.iload_n 1, 1) := by decide +kernel
theorem dX4_sees_119 : decode cX4_sees 119 = .ok (.iload_n 2, 1) := by decide +kernel
theorem dX4_sees_120 : decode cX4_sees 120 = .ok (.invokevirtual 174, 3) := by decide +kernel
theorem dX4_sees_123 : decode cX4_sees 123 = .ok (.iconst 2, 1) := by decide +kernel
theorem dX4_sees_124 : decode cX4_sees 124 = .ok (.if_icmp .ge 8, 3) := by decide +kernel
theorem dX4_sees_127 : decode cX4_sees 127 = .ok (.bipush (-9), 2) := by decide +kernel
theorem dX4_sees_129 : decode cX4_sees 129 = .ok (.goto 18, 3) := by decide +kernel
theorem dX4_sees_132 : decode cX4_sees 132 = .ok (.sipush 1000, 3) := by decide +kernel
theorem dX4_sees_135 : decode cX4_sees 135 = .ok (.aload_n 0, 1) := by decide +kernel
theorem dX4_sees_136 : decode cX4_sees 136 = .ok (.getfield 10, 3) := by decide +kernel
theorem dX4_sees_139 : decode cX4_sees 139 = .ok (.iload_n 1, 1) := by decide +kernel
theorem dX4_sees_140 : decode cX4_sees 140 = .ok (.iload 4, 2) := by decide +kernel
theorem dX4_sees_142 : decode cX4_sees 142 = .ok (.iload_n 2, 1) := by decide +kernel
theorem dX4_sees_143 : decode cX4_sees 143 = .ok (.invokevirtual 182, 3) := by decide +kernel
theorem dX4_sees_146 : decode cX4_sees 146 = .ok (.iadd, 1) := by decide +kernel
theorem dX4_sees_147 : decode cX4_sees 147 = .ok (.ireturn, 1) := by decide +kernel
theorem dX4_sees_148 : decode cX4_sees 148 = .ok (.aload_n 0, 1) := by decide +kernel
theorem dX4_sees_149 : decode cX4_sees 149 = .ok (.getfield 10, 3) := by decide +kernel
theorem dX4_sees_152 : decode cX4_sees 152 = .ok (.iload_n 1, 1) := by decide +kernel
theorem dX4_sees_153 : decode cX4_sees 153 = .ok (.iload_n 2, 1) := by decide +kernel
theorem dX4_sees_154 : decode cX4_sees 154 = .ok (.invokevirtual 185, 3) := by decide +kernel
theorem dX4_sees_157 : decode cX4_sees 157 = .ok (.ireturn, 1) := by decide +kernel
theorem dX4_sees_158 : decode cX4_sees 158 = .ok (.bipush (-2), 2) := by decide +kernel
theorem dX4_sees_160 : decode cX4_sees 160 = .ok (.ireturn, 1) := by decide +kernel
theorem dX4_view_0 : decode cX4_view 0 = .ok (.aload_n 0, 1) := by decide +kernel
theorem dX4_view_1 : decode cX4_view 1 = .ok (.getfield 10, 3) := by decide +kernel
theorem dX4_view_4 : decode cX4_view 4 = .ok (.iload_n 1, 1) := by decide +kernel
theorem dX4_view_5 : decode cX4_view 5 = .ok (.invokevirtual 106, 3) := by decide +kernel
theorem dX4_view_8 : decode cX4_view 8 = .ok (.ifCond .eq 23, 3) := by decide +kernel
theorem dX4_view_11 : decode cX4_view 11 = .ok (.aload_n 0, 1) := by decide +kernel
theorem dX4_view_12 : decode cX4_view 12 = .ok (.getfield 10, 3) := by decide +kernel
theorem dX4_view_15 : decode cX4_view 15 = .ok (.iload_n 1, 1) := by decide +kernel
theorem dX4_view_16 : decode cX4_view 16 = .ok (.aload_n 0, 1) := by decide +kernel
theorem dX4_view_17 : decode cX4_view 17 = .ok (.getfield 10, 3) := by decide +kernel
theorem dX4_view_20 : decode cX4_view 20 = .ok (.getfield 88, 3) := by decide +kernel
theorem dX4_view_23 : decode cX4_view 23 = .ok (.iconst 0, 1) := by decide +kernel
theorem dX4_view_24 : decode cX4_view 24 = .ok (.iaload, 1) := by decide +kernel
theorem dX4_view_25 : decode cX4_view 25 = .ok (.invokevirtual 120, 3) := by decide +kernel
theorem dX4_view_28 : decode cX4_view 28 = .ok (.goto 6, 3) := by decide +kernel
theorem dX4_view_31 : decode cX4_view 31 = .ok (.ldc2_w 188, 3) := by decide +kernel
theorem dX4_view_34 : decode cX4_view 34 = .ok (.lreturn, 1) := by decide +kernel
theorem dX4_watched_0 : decode cX4_watched 0 = .ok (.aload_n 0, 1) := by decide +kernel
theorem dX4_watched_1 : decode cX4_watched 1 = .ok (.getfield 10, 3) := by decide +kernel
theorem dX4_watched_4 : decode cX4_watched 4 = .ok (.iload_n 1, 1) := by decide +kernel
theorem dX4_watched_5 : decode cX4_watched 5 = .ok (.invokevirtual 128, 3) := by decide +kernel
theorem dX4_watched_8 : decode cX4_watched 8 = .ok (.ifCond .eq 14, 3) := by decide +kernel
theorem dX4_watched_11 : decode cX4_watched 11 = .ok (.aload_n 0, 1) := by decide +kernel
theorem dX4_watched_12 : decode cX4_watched 12 = .ok (.getfield 10, 3) := by decide +kernel
theorem dX4_watched_15 : decode cX4_watched 15 = .ok (.iload_n 1, 1) := by decide +kernel
theorem dX4_watched_16 : decode cX4_watched 16 = .ok (.invokevirtual 137, 3) := by decide +kernel
theorem dX4_watched_19 : decode cX4_watched 19 = .ok (.goto 6, 3) := by decide +kernel
theorem dX4_watched_22 : decode cX4_watched 22 = .ok (.ldc2_w 188, 3) := by decide +kernel
theorem dX4_watched_25 : decode cX4_watched 25 = .ok (.lreturn, 1) := by decide +kernel
theorem dX4_joined_0 : decode cX4_joined 0 = .ok (.iload_n 1, 1) := by decide +kernel
theorem dX4_joined_1 : decode cX4_joined 1 = .ok (.ifCond .lt 8, 3) := by decide +kernel
theorem dX4_joined_4 : decode cX4_joined 4 = .ok (.iload_n 1, 1) := by decide +kernel
theorem dX4_joined_5 : decode cX4_joined 5 = .ok (.iconst 3, 1) := by decide +kernel
theorem dX4_joined_6 : decode cX4_joined 6 = .ok (.if_icmp .le 7, 3) := by decide +kernel
theorem dX4_joined_9 : decode cX4_joined 9 = .ok (.ldc2_w 190, 3) := by decide +kernel
theorem dX4_joined_12 : decode cX4_joined 12 = .ok (.lreturn, 1) := by decide +kernel
theorem dX4_joined_13 : decode cX4_joined 13 = .ok (.aload_n 0, 1) := by decide +kernel
theorem dX4_joined_14 : decode cX4_joined 14 = .ok (.getfield 10, 3) := by decide +kernel
theorem dX4_joined_17 : decode cX4_joined 17 = .ok (.getfield 85, 3) := by decide +kernel
theorem dX4_joined_20 : decode cX4_joined 20 = .ok (.ifCond .ne 7, 3) := by decide +kernel
theorem dX4_joined_23 : decode cX4_joined 23 = .ok (.lconst 0, 1) := by decide +kernel
theorem dX4_joined_24 : decode cX4_joined 24 = .ok (.goto 11, 3) := by decide +kernel
theorem dX4_joined_27 : decode cX4_joined 27 = .ok (.aload_n 0, 1) := by decide +kernel
theorem dX4_joined_28 : decode cX4_joined 28 = .ok (.getfield 10, 3) := by decide +kernel
theorem dX4_joined_31 : decode cX4_joined 31 = .ok (.iconst 0, 1) := by decide +kernel
theorem dX4_joined_32 : decode cX4_joined 32 = .ok (.invokevirtual 137, 3) := by decide +kernel
theorem dX4_joined_35 : decode cX4_joined 35 = .ok (.lstore_n 2, 1) := by decide +kernel
theorem dX4_joined_36 : decode cX4_joined 36 = .ok (.iconst 1, 1) := by decide +kernel
theorem dX4_joined_37 : decode cX4_joined 37 = .ok (.istore 4, 2) := by decide +kernel
theorem dX4_joined_39 : decode cX4_joined 39 = .ok (.iload 4, 2) := by decide +kernel
theorem dX4_joined_41 : decode cX4_joined 41 = .ok (.aload_n 0, 1) := by decide +kernel
theorem dX4_joined_42 : decode cX4_joined 42 = .ok (.getfield 10, 3) := by decide +kernel
theorem dX4_joined_45 : decode cX4_joined 45 = .ok (.getfield 85, 3) := by decide +kernel
theorem dX4_joined_48 : decode cX4_joined 48 = .ok (.if_icmp .ge 24, 3) := by decide +kernel
theorem dX4_joined_51 : decode cX4_joined 51 = .ok (.iload_n 1, 1) := by decide +kernel
theorem dX4_joined_52 : decode cX4_joined 52 = .ok (.lload_n 2, 1) := by decide +kernel
theorem dX4_joined_53 : decode cX4_joined 53 = .ok (.aload_n 0, 1) := by decide +kernel
theorem dX4_joined_54 : decode cX4_joined 54 = .ok (.getfield 10, 3) := by decide +kernel
theorem dX4_joined_57 : decode cX4_joined 57 = .ok (.iload 4, 2) := by decide +kernel
theorem dX4_joined_59 : decode cX4_joined 59 = .ok (.invokevirtual 137, 3) := by decide +kernel
theorem dX4_joined_62 : decode cX4_joined 62 = .ok (.invokestatic 192, 3) := by decide +kernel
theorem dX4_joined_65 : decode cX4_joined 65 = .ok (.lstore_n 2, 1) := by decide +kernel
theorem dX4_joined_66 : decode cX4_joined 66 = .ok (.iinc 4 1, 3) := by decide +kernel
theorem dX4_joined_69 : decode cX4_joined 69 = .ok (.goto (-30), 3) := by decide +kernel
theorem dX4_joined_72 : decode cX4_joined 72 = .ok (.lload_n 2, 1) := by decide +kernel
theorem dX4_joined_73 : decode cX4_joined 73 = .ok (.lreturn, 1) := by decide +kernel
theorem dX4_hollow_0 : decode cX4_hollow 0 = .ok (.iload_n 1, 1) := by decide +kernel
theorem dX4_hollow_1 : decode cX4_hollow 1 = .ok (.ifCond .lt 9, 3) := by decide +kernel
theorem dX4_hollow_4 : decode cX4_hollow 4 = .ok (.iload_n 1, 1) := by decide +kernel
theorem dX4_hollow_5 : decode cX4_hollow 5 = .ok (.bipush 36, 2) := by decide +kernel
theorem dX4_hollow_7 : decode cX4_hollow 7 = .ok (.if_icmp .lt 7, 3) := by decide +kernel
theorem dX4_hollow_10 : decode cX4_hollow 10 = .ok (.ldc2_w 188, 3) := by decide +kernel
theorem dX4_hollow_13 : decode cX4_hollow 13 = .ok (.lreturn, 1) := by decide +kernel
theorem dX4_hollow_14 : decode cX4_hollow 14 = .ok (.aload_n 0, 1) := by decide +kernel
theorem dX4_hollow_15 : decode cX4_hollow 15 = .ok (.getfield 10, 3) := by decide +kernel
theorem dX4_hollow_18 : decode cX4_hollow 18 = .ok (.iload_n 1, 1) := by decide +kernel
theorem dX4_hollow_19 : decode cX4_hollow 19 = .ok (.aload_n 0, 1) := by decide +kernel
theorem dX4_hollow_20 : decode cX4_hollow 20 = .ok (.getfield 10, 3) := by decide +kernel
theorem dX4_hollow_23 : decode cX4_hollow 23 = .ok (.invokevirtual 92, 3) := by decide +kernel
theorem dX4_hollow_26 : decode cX4_hollow 26 = .ok (.invokevirtual 196, 3) := by decide +kernel
theorem dX4_hollow_29 : decode cX4_hollow 29 = .ok (.lstore_n 2, 1) := by decide +kernel
theorem dX4_hollow_30 : decode cX4_hollow 30 = .ok (.lload_n 2, 1) := by decide +kernel
theorem dX4_hollow_31 : decode cX4_hollow 31 = .ok (.lconst 0, 1) := by decide +kernel
theorem dX4_hollow_32 : decode cX4_hollow 32 = .ok (.lcmp, 1) := by decide +kernel
theorem dX4_hollow_33 : decode cX4_hollow 33 = .ok (.ifCond .ne 9, 3) := by decide +kernel
theorem dX4_hollow_36 : decode cX4_hollow 36 = .ok (.ldc2_w 188, 3) := by decide +kernel
theorem dX4_hollow_39 : decode cX4_hollow 39 = .ok (.goto 4, 3) := by decide +kernel
theorem dX4_hollow_42 : decode cX4_hollow 42 = .ok (.lload_n 2, 1) := by decide +kernel
theorem dX4_hollow_43 : decode cX4_hollow 43 = .ok (.lreturn, 1) := by decide +kernel
theorem dX4_last_0 : decode cX4_last 0 = .ok (.aload_n 0, 1) := by decide +kernel
theorem dX4_last_1 : decode cX4_last 1 = .ok (.getfield 10, 3) := by decide +kernel
theorem dX4_last_4 : decode cX4_last 4 = .ok (.iload_n 1, 1) := by decide +kernel
theorem dX4_last_5 : decode cX4_last 5 = .ok (.invokevirtual 106, 3) := by decide +kernel
theorem dX4_last_8 : decode cX4_last 8 = .ok (.ifCond .ne 5, 3) := by decide +kernel
theorem dX4_last_11 : decode cX4_last 11 = .ok (.iconst (-1), 1) := by decide +kernel
theorem dX4_last_12 : decode cX4_last 12 = .ok (.ireturn, 1) := by decide +kernel
theorem dX4_last_13 : decode cX4_last 13 = .ok (.iload_n 2, 1) := by decide +kernel
theorem dX4_last_14 : decode cX4_last 14 = .ok (.ifCond .lt 11, 3) := by decide +kernel
theorem dX4_last_17 : decode cX4_last 17 = .ok (.iload_n 2, 1) := by decide +kernel
theorem dX4_last_18 : decode cX4_last 18 = .ok (.getstatic 200, 3) := by decide +kernel
theorem dX4_last_21 : decode cX4_last 21 = .ok (.arraylength, 1) := by decide +kernel
theorem dX4_last_22 : decode cX4_last 22 = .ok (.if_icmp .lt 6, 3) := by decide +kernel
theorem dX4_last_25 : decode cX4_last 25 = .ok (.bipush (-2), 2) := by decide +kernel
theorem dX4_last_27 : decode cX4_last 27 = .ok (.ireturn, 1) := by decide +kernel
theorem dX4_last_28 : decode cX4_last 28 = .ok (.aload_n 0, 1) := by decide +kernel
theorem dX4_last_29 : decode cX4_last 29 = .ok (.getfield 10, 3) := by decide +kernel
theorem dX4_last_32 : decode cX4_last 32 = .ok (.getfield 88, 3) := by decide +kernel
theorem dX4_last_35 : decode cX4_last 35 = .ok (.iconst 0, 1) := by decide +kernel
theorem dX4_last_36 : decode cX4_last 36 = .ok (.iaload, 1) := by decide +kernel
theorem dX4_last_37 : decode cX4_last 37 = .ok (.istore_n 3, 1) := by decide +kernel
theorem dX4_last_38 : decode cX4_last 38 = .ok (.aload_n 0, 1) := by decide +kernel
theorem dX4_last_39 : decode cX4_last 39 = .ok (.getfield 10, 3) := by decide +kernel
theorem dX4_last_42 : decode cX4_last 42 = .ok (.iload_n 1, 1) := by decide +kernel
theorem dX4_last_43 : decode cX4_last 43 = .ok (.invokevirtual 203, 3) := by decide +kernel
theorem dX4_last_46 : decode cX4_last 46 = .ok (.istore 4, 2) := by decide +kernel
theorem dX4_last_48 : decode cX4_last 48 = .ok (.aload_n 0, 1) := by decide +kernel
theorem dX4_last_49 : decode cX4_last 49 = .ok (.getfield 10, 3) := by decide +kernel
theorem dX4_last_52 : decode cX4_last 52 = .ok (.iload_n 1, 1) := by decide +kernel
theorem dX4_last_53 : decode cX4_last 53 = .ok (.invokevirtual 206, 3) := by decide +kernel
theorem dX4_last_56 : decode cX4_last 56 = .ok (.istore 5, 2) := by decide +kernel
theorem dX4_last_58 : decode cX4_last 58 = .ok (.iload_n 1, 1) := by decide +kernel
theorem dX4_last_59 : decode cX4_last 59 = .ok (.istore 6, 2) := by decide +kernel
theorem dX4_last_61 : decode cX4_last 61 = .ok (.iconst 0, 1) := by decide +kernel
theorem dX4_last_62 : decode cX4_last 62 = .ok (.istore 7, 2) := by decide +kernel
theorem dX4_last_64 : decode cX4_last 64 = .ok (.iload 7, 2) := by decide +kernel
theorem dX4_last_66 : decode cX4_last 66 = .ok (.bipush 36, 2) := by decide +kernel
theorem dX4_last_68 : decode cX4_last 68 = .ok (.if_icmp .ge 79, 3) := by decide +kernel
theorem dX4_last_71 : decode cX4_last 71 = .ok (.iload 4, 2) := by decide +kernel
theorem dX4_last_73 : decode cX4_last 73 = .ok (.getstatic 200, 3) := by decide +kernel
theorem dX4_last_76 : decode cX4_last 76 = .ok (.iload_n 2, 1) := by decide +kernel
theorem dX4_last_77 : decode cX4_last 77 = .ok (.iaload, 1) := by decide +kernel
theorem dX4_last_78 : decode cX4_last 78 = .ok (.iadd, 1) := by decide +kernel
theorem dX4_last_79 : decode cX4_last 79 = .ok (.istore 4, 2) := by decide +kernel
theorem dX4_last_81 : decode cX4_last 81 = .ok (.iload 5, 2) := by decide +kernel
theorem dX4_last_83 : decode cX4_last 83 = .ok (.getstatic 209, 3) := by decide +kernel
theorem dX4_last_86 : decode cX4_last 86 = .ok (.iload_n 2, 1) := by decide +kernel
theorem dX4_last_87 : decode cX4_last 87 = .ok (.iaload, 1) := by decide +kernel
theorem dX4_last_88 : decode cX4_last 88 = .ok (.iadd, 1) := by decide +kernel
theorem dX4_last_89 : decode cX4_last 89 = .ok (.istore 5, 2) := by decide +kernel
theorem dX4_last_91 : decode cX4_last 91 = .ok (.aload_n 0, 1) := by decide +kernel
theorem dX4_last_92 : decode cX4_last 92 = .ok (.getfield 10, 3) := by decide +kernel
theorem dX4_last_95 : decode cX4_last 95 = .ok (.iload 4, 2) := by decide +kernel
theorem dX4_last_97 : decode cX4_last 97 = .ok (.iload 5, 2) := by decide +kernel
theorem dX4_last_99 : decode cX4_last 99 = .ok (.invokevirtual 212, 3) := by decide +kernel
theorem dX4_last_102 : decode cX4_last 102 = .ok (.ifCond .ne 6, 3) := by decide +kernel
theorem dX4_last_105 : decode cX4_last 105 = .ok (.goto 42, 3) := by decide +kernel
theorem dX4_last_108 : decode cX4_last 108 = .ok (.iload 5, 2) := by decide +kernel
theorem dX4_last_110 : decode cX4_last 110 = .ok (.aload_n 0, 1) := by decide +kernel
theorem dX4_last_111 : decode cX4_last 111 = .ok (.getfield 10, 3) := by decide +kernel
theorem dX4_last_114 : decode cX4_last 114 = .ok (.getfield 79, 3) := by decide +kernel
theorem dX4_last_117 : decode cX4_last 117 = .ok (.imul, 1) := by decide +kernel
theorem dX4_last_118 : decode cX4_last 118 = .ok (.iload 4, 2) := by decide +kernel
theorem dX4_last_120 : decode cX4_last 120 = .ok (.iadd, 1) := by decide +kernel
theorem dX4_last_121 : decode cX4_last 121 = .ok (.istore 8, 2) := by decide +kernel
theorem dX4_last_123 : decode cX4_last 123 = .ok (.aload_n 0, 1) := by decide +kernel
theorem dX4_last_124 : decode cX4_last 124 = .ok (.getfield 10, 3) := by decide +kernel
theorem dX4_last_127 : decode cX4_last 127 = .ok (.iload_n 1, 1) := by decide +kernel
theorem dX4_last_128 : decode cX4_last 128 = .ok (.iload_n 3, 1) := by decide +kernel
theorem dX4_last_129 : decode cX4_last 129 = .ok (.iload 8, 2) := by decide +kernel
theorem dX4_last_131 : decode cX4_last 131 = .ok (.invokevirtual 171, 3) := by decide +kernel
theorem dX4_last_134 : decode cX4_last 134 = .ok (.ifCond .eq 7, 3) := by decide +kernel
theorem dX4_last_137 : decode cX4_last 137 = .ok (.iload 8, 2) := by decide +kernel
theorem dX4_last_139 : decode cX4_last 139 = .ok (.istore 6, 2) := by decide +kernel
theorem dX4_last_141 : decode cX4_last 141 = .ok (.iinc 7 1, 3) := by decide +kernel
theorem dX4_last_144 : decode cX4_last 144 = .ok (.goto (-80), 3) := by decide +kernel
theorem dX4_last_147 : decode cX4_last 147 = .ok (.iload 6, 2) := by decide +kernel
theorem dX4_last_149 : decode cX4_last 149 = .ok (.ireturn, 1) := by decide +kernel
theorem dX4_best_0 : decode cX4_best 0 = .ok (.iload_n 1, 1) := by decide +kernel
theorem dX4_best_1 : decode cX4_best 1 = .ok (.invokestatic 144, 3) := by decide +kernel
theorem dX4_best_4 : decode cX4_best 4 = .ok (.ifCond .eq 12, 3) := by decide +kernel
theorem dX4_best_7 : decode cX4_best 7 = .ok (.iload_n 2, 1) := by decide +kernel
theorem dX4_best_8 : decode cX4_best 8 = .ok (.ifCond .lt 8, 3) := by decide +kernel
theorem dX4_best_11 : decode cX4_best 11 = .ok (.iload_n 2, 1) := by decide +kernel
theorem dX4_best_12 : decode cX4_best 12 = .ok (.iconst 1, 1) := by decide +kernel
theorem dX4_best_13 : decode cX4_best 13 = .ok (.if_icmp .le 6, 3) := by decide +kernel
theorem dX4_best_16 : decode cX4_best 16 = .ok (.bipush (-2), 2) := by decide +kernel
theorem dX4_best_18 : decode cX4_best 18 = .ok (.ireturn, 1) := by decide +kernel
theorem dX4_best_19 : decode cX4_best 19 = .ok (.aload_n 0, 1) := by decide +kernel
theorem dX4_best_20 : decode cX4_best 20 = .ok (.getfield 10, 3) := by decide +kernel
theorem dX4_best_23 : decode cX4_best 23 = .ok (.invokevirtual 92, 3) := by decide +kernel
theorem dX4_best_26 : decode cX4_best 26 = .ok (.lstore_n 3, 1) := by decide +kernel
theorem dX4_best_27 : decode cX4_best 27 = .ok (.iconst 0, 1) := by decide +kernel
theorem dX4_best_28 : decode cX4_best 28 = .ok (.istore 5, 2) := by decide +kernel
theorem dX4_best_30 : decode cX4_best 30 = .ok (.bipush 37, 2) := by decide +kernel
theorem dX4_best_32 : decode cX4_best 32 = .ok (.istore 6, 2) := by decide +kernel
theorem dX4_best_34 : decode cX4_best 34 = .ok (.iconst 0, 1) := by decide +kernel
theorem dX4_best_35 : decode cX4_best 35 = .ok (.istore 7, 2) := by decide +kernel
theorem dX4_best_37 : decode cX4_best 37 = .ok (.iload 7, 2) := by decide +kernel
theorem dX4_best_39 : decode cX4_best 39 = .ok (.aload_n 0, 1) := by decide +kernel
theorem dX4_best_40 : decode cX4_best 40 = .ok (.getfield 10, 3) := by decide +kernel
theorem dX4_best_43 : decode cX4_best 43 = .ok (.invokevirtual 75, 3) := by decide +kernel
theorem dX4_best_46 : decode cX4_best 46 = .ok (.if_icmp .ge 45, 3) := by decide +kernel
theorem dX4_best_49 : decode cX4_best 49 = .ok (.lload_n 3, 1) := by decide +kernel
theorem dX4_best_50 : decode cX4_best 50 = .ok (.aload_n 0, 1) := by decide +kernel
theorem dX4_best_51 : decode cX4_best 51 = .ok (.getfield 10, 3) := by decide +kernel
theorem dX4_best_54 : decode cX4_best 54 = .ok (.iload 7, 2) := by decide +kernel
theorem dX4_best_56 : decode cX4_best 56 = .ok (.iload_n 1, 1) := by decide +kernel
theorem dX4_best_57 : decode cX4_best 57 = .ok (.invokevirtual 120, 3) := by decide +kernel
theorem dX4_best_60 : decode cX4_best 60 = .ok (.ldc2_w 188, 3) := by decide +kernel
theorem dX4_best_63 : decode cX4_best 63 = .ok (.lxor, 1) := by decide +kernel
theorem dX4_best_64 : decode cX4_best 64 = .ok (.land, 1) := by decide +kernel
theorem dX4_best_65 : decode cX4_best 65 = .ok (.invokestatic 96, 3) := by decide +kernel
theorem dX4_best_68 : decode cX4_best 68 = .ok (.istore 8, 2) := by decide +kernel
theorem dX4_best_70 : decode cX4_best 70 = .ok (.iload 8, 2) := by decide +kernel
theorem dX4_best_72 : decode cX4_best 72 = .ok (.iload 6, 2) := by decide +kernel
theorem dX4_best_74 : decode cX4_best 74 = .ok (.if_icmp .ge 11, 3) := by decide +kernel
theorem dX4_best_77 : decode cX4_best 77 = .ok (.iload 8, 2) := by decide +kernel
theorem dX4_best_79 : decode cX4_best 79 = .ok (.istore 6, 2) := by decide +kernel
theorem dX4_best_81 : decode cX4_best 81 = .ok (.iload 7, 2) := by decide +kernel
theorem dX4_best_83 : decode cX4_best 83 = .ok (.istore 5, 2) := by decide +kernel
theorem dX4_best_85 : decode cX4_best 85 = .ok (.iinc 7 1, 3) := by decide +kernel
theorem dX4_best_88 : decode cX4_best 88 = .ok (.goto (-51), 3) := by decide +kernel
theorem dX4_best_91 : decode cX4_best 91 = .ok (.iload_n 2, 1) := by decide +kernel
theorem dX4_best_92 : decode cX4_best 92 = .ok (.ifCond .ne 8, 3) := by decide +kernel
theorem dX4_best_95 : decode cX4_best 95 = .ok (.iload 5, 2) := by decide +kernel
theorem dX4_best_97 : decode cX4_best 97 = .ok (.goto 5, 3) := by decide +kernel
theorem dX4_best_100 : decode cX4_best 100 = .ok (.iload 6, 2) := by decide +kernel
theorem dX4_best_102 : decode cX4_best 102 = .ok (.ireturn, 1) := by decide +kernel
theorem dX4_two_0 : decode cX4_two 0 = .ok (.iload_n 1, 1) := by decide +kernel
theorem dX4_two_1 : decode cX4_two 1 = .ok (.invokestatic 144, 3) := by decide +kernel
theorem dX4_two_4 : decode cX4_two 4 = .ok (.ifCond .eq 12, 3) := by decide +kernel
theorem dX4_two_7 : decode cX4_two 7 = .ok (.iload_n 2, 1) := by decide +kernel
theorem dX4_two_8 : decode cX4_two 8 = .ok (.ifCond .lt 8, 3) := by decide +kernel
theorem dX4_two_11 : decode cX4_two 11 = .ok (.iload_n 2, 1) := by decide +kernel
theorem dX4_two_12 : decode cX4_two 12 = .ok (.iconst 2, 1) := by decide +kernel
theorem dX4_two_13 : decode cX4_two 13 = .ok (.if_icmp .le 6, 3) := by decide +kernel
theorem dX4_two_16 : decode cX4_two 16 = .ok (.bipush (-2), 2) := by decide +kernel
theorem dX4_two_18 : decode cX4_two 18 = .ok (.ireturn, 1) := by decide +kernel
theorem dX4_two_19 : decode cX4_two 19 = .ok (.aload_n 0, 1) := by decide +kernel
theorem dX4_two_20 : decode cX4_two 20 = .ok (.iload_n 1, 1) := by decide +kernel
theorem dX4_two_21 : decode cX4_two 21 = .ok (.invokevirtual 215, 3) := by decide +kernel
theorem dX4_two_24 : decode cX4_two 24 = .ok (.aload_n 0, 1) := by decide +kernel
theorem dX4_two_25 : decode cX4_two 25 = .ok (.getfield 10, 3) := by decide +kernel
theorem dX4_two_28 : decode cX4_two 28 = .ok (.invokevirtual 92, 3) := by decide +kernel
theorem dX4_two_31 : decode cX4_two 31 = .ok (.lstore_n 3, 1) := by decide +kernel
theorem dX4_two_32 : decode cX4_two 32 = .ok (.aload_n 0, 1) := by decide +kernel
theorem dX4_two_33 : decode cX4_two 33 = .ok (.getfield 10, 3) := by decide +kernel
theorem dX4_two_36 : decode cX4_two 36 = .ok (.invokevirtual 75, 3) := by decide +kernel
theorem dX4_two_39 : decode cX4_two 39 = .ok (.aload_n 0, 1) := by decide +kernel
theorem dX4_two_40 : decode cX4_two 40 = .ok (.getfield 46, 3) := by decide +kernel
theorem dX4_two_43 : decode cX4_two 43 = .ok (.arraylength, 1) := by decide +kernel
theorem dX4_two_44 : decode cX4_two 44 = .ok (.invokestatic 219, 3) := by decide +kernel
theorem dX4_two_47 : decode cX4_two 47 = .ok (.istore 5, 2) := by decide +kernel
theorem dX4_two_49 : decode cX4_two 49 = .ok (.iconst 0, 1) := by decide +kernel
theorem dX4_two_50 : decode cX4_two 50 = .ok (.istore 6, 2) := by decide +kernel
theorem dX4_two_52 : decode cX4_two 52 = .ok (.iconst 0, 1) := by decide +kernel
theorem dX4_two_53 : decode cX4_two 53 = .ok (.istore 7, 2) := by decide +kernel
theorem dX4_two_55 : decode cX4_two 55 = .ok (.bipush 37, 2) := by decide +kernel
theorem dX4_two_57 : decode cX4_two 57 = .ok (.istore 8, 2) := by decide +kernel
theorem dX4_two_59 : decode cX4_two 59 = .ok (.iconst 0, 1) := by decide +kernel
theorem dX4_two_60 : decode cX4_two 60 = .ok (.istore 9, 2) := by decide +kernel
theorem dX4_two_62 : decode cX4_two 62 = .ok (.iload 9, 2) := by decide +kernel
theorem dX4_two_64 : decode cX4_two 64 = .ok (.iload 5, 2) := by decide +kernel
theorem dX4_two_66 : decode cX4_two 66 = .ok (.if_icmp .ge 71, 3) := by decide +kernel
theorem dX4_two_69 : decode cX4_two 69 = .ok (.iload 9, 2) := by decide +kernel
theorem dX4_two_71 : decode cX4_two 71 = .ok (.istore 10, 2) := by decide +kernel
theorem dX4_two_73 : decode cX4_two 73 = .ok (.iload 10, 2) := by decide +kernel
theorem dX4_two_75 : decode cX4_two 75 = .ok (.iload 5, 2) := by decide +kernel
theorem dX4_two_77 : decode cX4_two 77 = .ok (.if_icmp .ge 54, 3) := by decide +kernel
theorem dX4_two_80 : decode cX4_two 80 = .ok (.lload_n 3, 1) := by decide +kernel
theorem dX4_two_81 : decode cX4_two 81 = .ok (.aload_n 0, 1) := by decide +kernel
theorem dX4_two_82 : decode cX4_two 82 = .ok (.getfield 46, 3) := by decide +kernel
theorem dX4_two_85 : decode cX4_two 85 = .ok (.iload 9, 2) := by decide +kernel
theorem dX4_two_87 : decode cX4_two 87 = .ok (.laload, 1) := by decide +kernel
theorem dX4_two_88 : decode cX4_two 88 = .ok (.aload_n 0, 1) := by decide +kernel
theorem dX4_two_89 : decode cX4_two 89 = .ok (.getfield 46, 3) := by decide +kernel
theorem dX4_two_92 : decode cX4_two 92 = .ok (.iload 10, 2) := by decide +kernel
theorem dX4_two_94 : decode cX4_two 94 = .ok (.laload, 1) := by decide +kernel
theorem dX4_two_95 : decode cX4_two 95 = .ok (.lor, 1) := by decide +kernel
theorem dX4_two_96 : decode cX4_two 96 = .ok (.ldc2_w 188, 3) := by decide +kernel
theorem dX4_two_99 : decode cX4_two 99 = .ok (.lxor, 1) := by decide +kernel
theorem dX4_two_100 : decode cX4_two 100 = .ok (.land, 1) := by decide +kernel
theorem dX4_two_101 : decode cX4_two 101 = .ok (.invokestatic 96, 3) := by decide +kernel
theorem dX4_two_104 : decode cX4_two 104 = .ok (.istore 11, 2) := by decide +kernel
theorem dX4_two_106 : decode cX4_two 106 = .ok (.iload 11, 2) := by decide +kernel
theorem dX4_two_108 : decode cX4_two 108 = .ok (.iload 8, 2) := by decide +kernel
theorem dX4_two_110 : decode cX4_two 110 = .ok (.if_icmp .ge 15, 3) := by decide +kernel
theorem dX4_two_113 : decode cX4_two 113 = .ok (.iload 11, 2) := by decide +kernel
theorem dX4_two_115 : decode cX4_two 115 = .ok (.istore 8, 2) := by decide +kernel
theorem dX4_two_117 : decode cX4_two 117 = .ok (.iload 9, 2) := by decide +kernel
theorem dX4_two_119 : decode cX4_two 119 = .ok (.istore 6, 2) := by decide +kernel
theorem dX4_two_121 : decode cX4_two 121 = .ok (.iload 10, 2) := by decide +kernel
theorem dX4_two_123 : decode cX4_two 123 = .ok (.istore 7, 2) := by decide +kernel
theorem dX4_two_125 : decode cX4_two 125 = .ok (.iinc 10 1, 3) := by decide +kernel
theorem dX4_two_128 : decode cX4_two 128 = .ok (.goto (-55), 3) := by decide +kernel
theorem dX4_two_131 : decode cX4_two 131 = .ok (.iinc 9 1, 3) := by decide +kernel
theorem dX4_two_134 : decode cX4_two 134 = .ok (.goto (-72), 3) := by decide +kernel
theorem dX4_two_137 : decode cX4_two 137 = .ok (.iload_n 2, 1) := by decide +kernel
theorem dX4_two_138 : decode cX4_two 138 = .ok (.iconst 2, 1) := by decide +kernel
theorem dX4_two_139 : decode cX4_two 139 = .ok (.if_icmp .ne 6, 3) := by decide +kernel
theorem dX4_two_142 : decode cX4_two 142 = .ok (.iload 8, 2) := by decide +kernel
theorem dX4_two_144 : decode cX4_two 144 = .ok (.ireturn, 1) := by decide +kernel
theorem dX4_two_145 : decode cX4_two 145 = .ok (.iload_n 2, 1) := by decide +kernel
theorem dX4_two_146 : decode cX4_two 146 = .ok (.ifCond .ne 8, 3) := by decide +kernel
theorem dX4_two_149 : decode cX4_two 149 = .ok (.iload 6, 2) := by decide +kernel
theorem dX4_two_151 : decode cX4_two 151 = .ok (.goto 5, 3) := by decide +kernel
theorem dX4_two_154 : decode cX4_two 154 = .ok (.iload 7, 2) := by decide +kernel
theorem dX4_two_156 : decode cX4_two 156 = .ok (.ireturn, 1) := by decide +kernel
theorem dX4_part_0 : decode cX4_part 0 = .ok (.aload_n 0, 1) := by decide +kernel
theorem dX4_part_1 : decode cX4_part 1 = .ok (.getfield 10, 3) := by decide +kernel
theorem dX4_part_4 : decode cX4_part 4 = .ok (.invokevirtual 75, 3) := by decide +kernel
theorem dX4_part_7 : decode cX4_part 7 = .ok (.istore_n 2, 1) := by decide +kernel
theorem dX4_part_8 : decode cX4_part 8 = .ok (.iload_n 2, 1) := by decide +kernel
theorem dX4_part_9 : decode cX4_part 9 = .ok (.aload_n 0, 1) := by decide +kernel
theorem dX4_part_10 : decode cX4_part 10 = .ok (.getfield 10, 3) := by decide +kernel
theorem dX4_part_13 : decode cX4_part 13 = .ok (.invokevirtual 92, 3) := by decide +kernel
theorem dX4_part_16 : decode cX4_part 16 = .ok (.invokestatic 96, 3) := by decide +kernel
theorem dX4_part_19 : decode cX4_part 19 = .ok (.isub, 1) := by decide +kernel
theorem dX4_part_20 : decode cX4_part 20 = .ok (.iload_n 2, 1) := by decide +kernel
theorem dX4_part_21 : decode cX4_part 21 = .ok (.iload_n 1, 1) := by decide +kernel
theorem dX4_part_22 : decode cX4_part 22 = .ok (.invokestatic 224, 3) := by decide +kernel
theorem dX4_part_25 : decode cX4_part 25 = .ok (.ireturn, 1) := by decide +kernel
theorem dX4_judge_0 : decode cX4_judge 0 = .ok (.iload_n 1, 1) := by decide +kernel
theorem dX4_judge_1 : decode cX4_judge 1 = .ok (.iconst 1, 1) := by decide +kernel
theorem dX4_judge_2 : decode cX4_judge 2 = .ok (.if_icmp .lt 14, 3) := by decide +kernel
theorem dX4_judge_5 : decode cX4_judge 5 = .ok (.iload_n 1, 1) := by decide +kernel
theorem dX4_judge_6 : decode cX4_judge 6 = .ok (.iconst 3, 1) := by decide +kernel
theorem dX4_judge_7 : decode cX4_judge 7 = .ok (.if_icmp .gt 9, 3) := by decide +kernel
theorem dX4_judge_10 : decode cX4_judge 10 = .ok (.lload_n 2, 1) := by decide +kernel
theorem dX4_judge_11 : decode cX4_judge 11 = .ok (.lconst 0, 1) := by decide +kernel
theorem dX4_judge_12 : decode cX4_judge 12 = .ok (.lcmp, 1) := by decide +kernel
theorem dX4_judge_13 : decode cX4_judge 13 = .ok (.ifCond .ge 6, 3) := by decide +kernel
theorem dX4_judge_16 : decode cX4_judge 16 = .ok (.bipush (-2), 2) := by decide +kernel
theorem dX4_judge_18 : decode cX4_judge 18 = .ok (.ireturn, 1) := by decide +kernel
theorem dX4_judge_19 : decode cX4_judge 19 = .ok (.lconst 1, 1) := by decide +kernel
theorem dX4_judge_20 : decode cX4_judge 20 = .ok (.lstore 4, 2) := by decide +kernel
theorem dX4_judge_22 : decode cX4_judge 22 = .ok (.iconst 0, 1) := by decide +kernel
theorem dX4_judge_23 : decode cX4_judge 23 = .ok (.istore 6, 2) := by decide +kernel
theorem dX4_judge_25 : decode cX4_judge 25 = .ok (.iload 6, 2) := by decide +kernel
theorem dX4_judge_27 : decode cX4_judge 27 = .ok (.iload_n 1, 1) := by decide +kernel
theorem dX4_judge_28 : decode cX4_judge 28 = .ok (.if_icmp .ge 17, 3) := by decide +kernel
theorem dX4_judge_31 : decode cX4_judge 31 = .ok (.lload 4, 2) := by decide +kernel
theorem dX4_judge_33 : decode cX4_judge 33 = .ok (.ldc2_w 228, 3) := by decide +kernel
theorem dX4_judge_36 : decode cX4_judge 36 = .ok (.lmul, 1) := by decide +kernel
theorem dX4_judge_37 : decode cX4_judge 37 = .ok (.lstore 4, 2) := by decide +kernel
theorem dX4_judge_39 : decode cX4_judge 39 = .ok (.iinc 6 1, 3) := by decide +kernel
theorem dX4_judge_42 : decode cX4_judge 42 = .ok (.goto (-17), 3) := by decide +kernel
theorem dX4_judge_45 : decode cX4_judge 45 = .ok (.lload_n 2, 1) := by decide +kernel
theorem dX4_judge_46 : decode cX4_judge 46 = .ok (.lload 4, 2) := by decide +kernel
theorem dX4_judge_48 : decode cX4_judge 48 = .ok (.lcmp, 1) := by decide +kernel
theorem dX4_judge_49 : decode cX4_judge 49 = .ok (.ifCond .lt 6, 3) := by decide +kernel
theorem dX4_judge_52 : decode cX4_judge 52 = .ok (.bipush (-2), 2) := by decide +kernel
theorem dX4_judge_54 : decode cX4_judge 54 = .ok (.ireturn, 1) := by decide +kernel
theorem dX4_judge_55 : decode cX4_judge 55 = .ok (.aload_n 0, 1) := by decide +kernel
theorem dX4_judge_56 : decode cX4_judge 56 = .ok (.getfield 16, 3) := by decide +kernel
theorem dX4_judge_59 : decode cX4_judge 59 = .ok (.aload_n 0, 1) := by decide +kernel
theorem dX4_judge_60 : decode cX4_judge 60 = .ok (.getfield 10, 3) := by decide +kernel
theorem dX4_judge_63 : decode cX4_judge 63 = .ok (.invokevirtual 65, 3) := by decide +kernel
theorem dX4_judge_66 : decode cX4_judge 66 = .ok (.iconst 0, 1) := by decide +kernel
theorem dX4_judge_67 : decode cX4_judge 67 = .ok (.istore 6, 2) := by decide +kernel
theorem dX4_judge_69 : decode cX4_judge 69 = .ok (.iload 6, 2) := by decide +kernel
theorem dX4_judge_71 : decode cX4_judge 71 = .ok (.iload_n 1, 1) := by decide +kernel
theorem dX4_judge_72 : decode cX4_judge 72 = .ok (.if_icmp .ge 43, 3) := by decide +kernel
theorem dX4_judge_75 : decode cX4_judge 75 = .ok (.lload 4, 2) := by decide +kernel
theorem dX4_judge_77 : decode cX4_judge 77 = .ok (.ldc2_w 228, 3) := by decide +kernel
theorem dX4_judge_80 : decode cX4_judge 80 = .ok (.ldiv, 1) := by decide +kernel
theorem dX4_judge_81 : decode cX4_judge 81 = .ok (.lstore 4, 2) := by decide +kernel
theorem dX4_judge_83 : decode cX4_judge 83 = .ok (.lload 4, 2) := by decide +kernel
theorem dX4_judge_85 : decode cX4_judge 85 = .ok (.lconst 1, 1) := by decide +kernel
theorem dX4_judge_86 : decode cX4_judge 86 = .ok (.lcmp, 1) := by decide +kernel
theorem dX4_judge_87 : decode cX4_judge 87 = .ok (.ifCond .lt 19, 3) := by decide +kernel
theorem dX4_judge_90 : decode cX4_judge 90 = .ok (.aload_n 0, 1) := by decide +kernel
theorem dX4_judge_91 : decode cX4_judge 91 = .ok (.lload_n 2, 1) := by decide +kernel
theorem dX4_judge_92 : decode cX4_judge 92 = .ok (.lload 4, 2) := by decide +kernel
theorem dX4_judge_94 : decode cX4_judge 94 = .ok (.ldiv, 1) := by decide +kernel
theorem dX4_judge_95 : decode cX4_judge 95 = .ok (.ldc2_w 228, 3) := by decide +kernel
theorem dX4_judge_98 : decode cX4_judge 98 = .ok (.lrem, 1) := by decide +kernel
theorem dX4_judge_99 : decode cX4_judge 99 = .ok (.l2i, 1) := by decide +kernel
theorem dX4_judge_100 : decode cX4_judge 100 = .ok (.invokevirtual 230, 3) := by decide +kernel
theorem dX4_judge_103 : decode cX4_judge 103 = .ok (.ifCond .ne 6, 3) := by decide +kernel
theorem dX4_judge_106 : decode cX4_judge 106 = .ok (.iload 6, 2) := by decide +kernel
theorem dX4_judge_108 : decode cX4_judge 108 = .ok (.ireturn, 1) := by decide +kernel
theorem dX4_judge_109 : decode cX4_judge 109 = .ok (.iinc 6 1, 3) := by decide +kernel
theorem dX4_judge_112 : decode cX4_judge 112 = .ok (.goto (-43), 3) := by decide +kernel
theorem dX4_judge_115 : decode cX4_judge 115 = .ok (.bipush (-9), 2) := by decide +kernel
theorem dX4_judge_117 : decode cX4_judge 117 = .ok (.ireturn, 1) := by decide +kernel
theorem dX4_find_0 : decode cX4_find 0 = .ok (.aload_n 0, 1) := by decide +kernel
theorem dX4_find_1 : decode cX4_find 1 = .ok (.getfield 10, 3) := by decide +kernel
theorem dX4_find_4 : decode cX4_find 4 = .ok (.iload_n 1, 1) := by decide +kernel
theorem dX4_find_5 : decode cX4_find 5 = .ok (.invokevirtual 106, 3) := by decide +kernel
theorem dX4_find_8 : decode cX4_find 8 = .ok (.ifCond .ne 5, 3) := by decide +kernel
theorem dX4_find_11 : decode cX4_find 11 = .ok (.iconst (-1), 1) := by decide +kernel
theorem dX4_find_12 : decode cX4_find 12 = .ok (.ireturn, 1) := by decide +kernel
theorem dX4_find_13 : decode cX4_find 13 = .ok (.iload_n 2, 1) := by decide +kernel
theorem dX4_find_14 : decode cX4_find 14 = .ok (.ifCond .eq 11, 3) := by decide +kernel
theorem dX4_find_17 : decode cX4_find 17 = .ok (.iload_n 2, 1) := by decide +kernel
theorem dX4_find_18 : decode cX4_find 18 = .ok (.iconst 1, 1) := by decide +kernel
theorem dX4_find_19 : decode cX4_find 19 = .ok (.if_icmp .eq 6, 3) := by decide +kernel
theorem dX4_find_22 : decode cX4_find 22 = .ok (.bipush (-2), 2) := by decide +kernel
theorem dX4_find_24 : decode cX4_find 24 = .ok (.ireturn, 1) := by decide +kernel
theorem dX4_find_25 : decode cX4_find 25 = .ok (.aload_n 0, 1) := by decide +kernel
theorem dX4_find_26 : decode cX4_find 26 = .ok (.getfield 42, 3) := by decide +kernel
theorem dX4_find_29 : decode cX4_find 29 = .ok (.iload_n 1, 1) := by decide +kernel
theorem dX4_find_30 : decode cX4_find 30 = .ok (.iload_n 2, 1) := by decide +kernel
theorem dX4_find_31 : decode cX4_find 31 = .ok (.iconst 1, 1) := by decide +kernel
theorem dX4_find_32 : decode cX4_find 32 = .ok (.if_icmp .ne 7, 3) := by decide +kernel
theorem dX4_find_35 : decode cX4_find 35 = .ok (.iconst 1, 1) := by decide +kernel
theorem dX4_find_36 : decode cX4_find 36 = .ok (.goto 4, 3) := by decide +kernel
theorem dX4_find_39 : decode cX4_find 39 = .ok (.iconst 0, 1) := by decide +kernel
theorem dX4_find_40 : decode cX4_find 40 = .ok (.invokevirtual 233, 3) := by decide +kernel
theorem dX4_find_43 : decode cX4_find 43 = .ok (.ifCond .eq 13, 3) := by decide +kernel
theorem dX4_find_46 : decode cX4_find 46 = .ok (.aload_n 0, 1) := by decide +kernel
theorem dX4_find_47 : decode cX4_find 47 = .ok (.getfield 42, 3) := by decide +kernel
theorem dX4_find_50 : decode cX4_find 50 = .ok (.getfield 105, 3) := by decide +kernel
theorem dX4_find_53 : decode cX4_find 53 = .ok (.goto 5, 3) := by decide +kernel
theorem dX4_find_56 : decode cX4_find 56 = .ok (.bipush (-4), 2) := by decide +kernel
theorem dX4_find_58 : decode cX4_find 58 = .ok (.ireturn, 1) := by decide +kernel
theorem dX4_lose_0 : decode cX4_lose 0 = .ok (.aload_n 0, 1) := by decide +kernel
theorem dX4_lose_1 : decode cX4_lose 1 = .ok (.getfield 42, 3) := by decide +kernel
theorem dX4_lose_4 : decode cX4_lose 4 = .ok (.getfield 105, 3) := by decide +kernel
theorem dX4_lose_7 : decode cX4_lose 7 = .ok (.istore_n 1, 1) := by decide +kernel
theorem dX4_lose_8 : decode cX4_lose 8 = .ok (.aload_n 0, 1) := by decide +kernel
theorem dX4_lose_9 : decode cX4_lose 9 = .ok (.getfield 42, 3) := by decide +kernel
theorem dX4_lose_12 : decode cX4_lose 12 = .ok (.iconst 0, 1) := by decide +kernel
theorem dX4_lose_13 : decode cX4_lose 13 = .ok (.putfield 105, 3) := by decide +kernel
theorem dX4_lose_16 : decode cX4_lose 16 = .ok (.iload_n 1, 1) := by decide +kernel
theorem dX4_lose_17 : decode cX4_lose 17 = .ok (.ireturn, 1) := by decide +kernel
theorem dX4_which_0 : decode cX4_which 0 = .ok (.lconst 0, 1) := by decide +kernel
theorem dX4_which_1 : decode cX4_which 1 = .ok (.lstore_n 1, 1) := by decide +kernel
theorem dX4_which_2 : decode cX4_which 2 = .ok (.iconst 0, 1) := by decide +kernel
theorem dX4_which_3 : decode cX4_which 3 = .ok (.istore_n 3, 1) := by decide +kernel
theorem dX4_which_4 : decode cX4_which 4 = .ok (.iload_n 3, 1) := by decide +kernel
theorem dX4_which_5 : decode cX4_which 5 = .ok (.aload_n 0, 1) := by decide +kernel
theorem dX4_which_6 : decode cX4_which 6 = .ok (.getfield 10, 3) := by decide +kernel
theorem dX4_which_9 : decode cX4_which 9 = .ok (.invokevirtual 75, 3) := by decide +kernel
theorem dX4_which_12 : decode cX4_which 12 = .ok (.if_icmp .ge 30, 3) := by decide +kernel
theorem dX4_which_15 : decode cX4_which 15 = .ok (.aload_n 0, 1) := by decide +kernel
theorem dX4_which_16 : decode cX4_which 16 = .ok (.getfield 42, 3) := by decide +kernel
theorem dX4_which_19 : decode cX4_which 19 = .ok (.iload_n 3, 1) := by decide +kernel
theorem dX4_which_20 : decode cX4_which 20 = .ok (.aload_n 0, 1) := by decide +kernel
theorem dX4_which_21 : decode cX4_which 21 = .ok (.getfield 10, 3) := by decide +kernel
theorem dX4_which_24 : decode cX4_which 24 = .ok (.invokevirtual 237, 3) := by decide +kernel
theorem dX4_which_27 : decode cX4_which 27 = .ok (.ifCond .eq 9, 3) := by decide +kernel
theorem dX4_which_30 : decode cX4_which 30 = .ok (.lload_n 1, 1) := by decide +kernel
theorem dX4_which_31 : decode cX4_which 31 = .ok (.lconst 1, 1) := by decide +kernel
theorem dX4_which_32 : decode cX4_which 32 = .ok (.iload_n 3, 1) := by decide +kernel
theorem dX4_which_33 : decode cX4_which 33 = .ok (.lshl, 1) := by decide +kernel
theorem dX4_which_34 : decode cX4_which 34 = .ok (.lor, 1) := by decide +kernel
theorem dX4_which_35 : decode cX4_which 35 = .ok (.lstore_n 1, 1) := by decide +kernel
theorem dX4_which_36 : decode cX4_which 36 = .ok (.iinc 3 1, 3) := by decide +kernel
theorem dX4_which_39 : decode cX4_which 39 = .ok (.goto (-35), 3) := by decide +kernel
theorem dX4_which_42 : decode cX4_which 42 = .ok (.lload_n 1, 1) := by decide +kernel
theorem dX4_which_43 : decode cX4_which 43 = .ok (.lreturn, 1) := by decide +kernel
theorem dX4_share_0 : decode cX4_share 0 = .ok (.aload_n 0, 1) := by decide +kernel
theorem dX4_share_1 : decode cX4_share 1 = .ok (.getfield 10, 3) := by decide +kernel
theorem dX4_share_4 : decode cX4_share 4 = .ok (.iload_n 1, 1) := by decide +kernel
theorem dX4_share_5 : decode cX4_share 5 = .ok (.invokevirtual 128, 3) := by decide +kernel
theorem dX4_share_8 : decode cX4_share 8 = .ok (.ifCond .ne 5, 3) := by decide +kernel
theorem dX4_share_11 : decode cX4_share 11 = .ok (.iconst (-1), 1) := by decide +kernel
theorem dX4_share_12 : decode cX4_share 12 = .ok (.ireturn, 1) := by decide +kernel
theorem dX4_share_13 : decode cX4_share 13 = .ok (.aload_n 0, 1) := by decide +kernel
theorem dX4_share_14 : decode cX4_share 14 = .ok (.getfield 10, 3) := by decide +kernel
theorem dX4_share_17 : decode cX4_share 17 = .ok (.iload_n 1, 1) := by decide +kernel
theorem dX4_share_18 : decode cX4_share 18 = .ok (.invokevirtual 137, 3) := by decide +kernel
theorem dX4_share_21 : decode cX4_share 21 = .ok (.lstore_n 3, 1) := by decide +kernel
theorem dX4_share_22 : decode cX4_share 22 = .ok (.iconst 0, 1) := by decide +kernel
theorem dX4_share_23 : decode cX4_share 23 = .ok (.istore 5, 2) := by decide +kernel
theorem dX4_share_25 : decode cX4_share 25 = .ok (.iconst 0, 1) := by decide +kernel
theorem dX4_share_26 : decode cX4_share 26 = .ok (.istore 6, 2) := by decide +kernel
theorem dX4_share_28 : decode cX4_share 28 = .ok (.iload 6, 2) := by decide +kernel
theorem dX4_share_30 : decode cX4_share 30 = .ok (.aload_n 0, 1) := by decide +kernel
theorem dX4_share_31 : decode cX4_share 31 = .ok (.getfield 10, 3) := by decide +kernel
theorem dX4_share_34 : decode cX4_share 34 = .ok (.invokevirtual 75, 3) := by decide +kernel
theorem dX4_share_37 : decode cX4_share 37 = .ok (.if_icmp .ge 48, 3) := by decide +kernel
theorem dX4_share_40 : decode cX4_share 40 = .ok (.lload_n 3, 1) := by decide +kernel
theorem dX4_share_41 : decode cX4_share 41 = .ok (.iload 6, 2) := by decide +kernel
theorem dX4_share_43 : decode cX4_share 43 = .ok (.invokestatic 241, 3) := by decide +kernel
theorem dX4_share_46 : decode cX4_share 46 = .ok (.ifCond .eq 15, 3) := by decide +kernel
theorem dX4_share_49 : decode cX4_share 49 = .ok (.aload_n 0, 1) := by decide +kernel
theorem dX4_share_50 : decode cX4_share 50 = .ok (.getfield 10, 3) := by decide +kernel
theorem dX4_share_53 : decode cX4_share 53 = .ok (.iload 6, 2) := by decide +kernel
theorem dX4_share_55 : decode cX4_share 55 = .ok (.invokevirtual 117, 3) := by decide +kernel
theorem dX4_share_58 : decode cX4_share 58 = .ok (.goto 4, 3) := by decide +kernel
theorem dX4_share_61 : decode cX4_share 61 = .ok (.iconst 0, 1) := by decide +kernel
theorem dX4_share_62 : decode cX4_share 62 = .ok (.istore 7, 2) := by decide +kernel
theorem dX4_share_64 : decode cX4_share 64 = .ok (.iload 7, 2) := by decide +kernel
theorem dX4_share_66 : decode cX4_share 66 = .ok (.ifCond .le 13, 3) := by decide +kernel
theorem dX4_share_69 : decode cX4_share 69 = .ok (.iload 5, 2) := by decide +kernel
theorem dX4_share_71 : decode cX4_share 71 = .ok (.bipush 60, 2) := by decide +kernel
theorem dX4_share_73 : decode cX4_share 73 = .ok (.iload 7, 2) := by decide +kernel
theorem dX4_share_75 : decode cX4_share 75 = .ok (.idiv, 1) := by decide +kernel
theorem dX4_share_76 : decode cX4_share 76 = .ok (.iadd, 1) := by decide +kernel
theorem dX4_share_77 : decode cX4_share 77 = .ok (.istore 5, 2) := by decide +kernel
theorem dX4_share_79 : decode cX4_share 79 = .ok (.iinc 6 1, 3) := by decide +kernel
theorem dX4_share_82 : decode cX4_share 82 = .ok (.goto (-54), 3) := by decide +kernel
theorem dX4_share_85 : decode cX4_share 85 = .ok (.iload 5, 2) := by decide +kernel
theorem dX4_share_87 : decode cX4_share 87 = .ok (.bipush 60, 2) := by decide +kernel
theorem dX4_share_89 : decode cX4_share 89 = .ok (.iload_n 2, 1) := by decide +kernel
theorem dX4_share_90 : decode cX4_share 90 = .ok (.invokestatic 224, 3) := by decide +kernel
theorem dX4_share_93 : decode cX4_share 93 = .ok (.ireturn, 1) := by decide +kernel
theorem dX4_chance_0 : decode cX4_chance 0 = .ok (.aload_n 0, 1) := by decide +kernel
theorem dX4_chance_1 : decode cX4_chance 1 = .ok (.getfield 10, 3) := by decide +kernel
theorem dX4_chance_4 : decode cX4_chance 4 = .ok (.iload_n 1, 1) := by decide +kernel
theorem dX4_chance_5 : decode cX4_chance 5 = .ok (.invokevirtual 106, 3) := by decide +kernel
theorem dX4_chance_8 : decode cX4_chance 8 = .ok (.ifCond .ne 5, 3) := by decide +kernel
theorem dX4_chance_11 : decode cX4_chance 11 = .ok (.iconst (-1), 1) := by decide +kernel
theorem dX4_chance_12 : decode cX4_chance 12 = .ok (.ireturn, 1) := by decide +kernel
theorem dX4_chance_13 : decode cX4_chance 13 = .ok (.iload_n 2, 1) := by decide +kernel
theorem dX4_chance_14 : decode cX4_chance 14 = .ok (.ifCond .lt 9, 3) := by decide +kernel
theorem dX4_chance_17 : decode cX4_chance 17 = .ok (.iload_n 2, 1) := by decide +kernel
theorem dX4_chance_18 : decode cX4_chance 18 = .ok (.bipush 10, 2) := by decide +kernel
theorem dX4_chance_20 : decode cX4_chance 20 = .ok (.if_icmp .le 6, 3) := by decide +kernel
theorem dX4_chance_23 : decode cX4_chance 23 = .ok (.bipush (-2), 2) := by decide +kernel
theorem dX4_chance_25 : decode cX4_chance 25 = .ok (.ireturn, 1) := by decide +kernel
theorem dX4_chance_26 : decode cX4_chance 26 = .ok (.iconst 1, 1) := by decide +kernel
theorem dX4_chance_27 : decode cX4_chance 27 = .ok (.istore 4, 2) := by decide +kernel
theorem dX4_chance_29 : decode cX4_chance 29 = .ok (.iconst 1, 1) := by decide +kernel
theorem dX4_chance_30 : decode cX4_chance 30 = .ok (.istore 5, 2) := by decide +kernel
theorem dX4_chance_32 : decode cX4_chance 32 = .ok (.aload_n 0, 1) := by decide +kernel
theorem dX4_chance_33 : decode cX4_chance 33 = .ok (.getfield 10, 3) := by decide +kernel
theorem dX4_chance_36 : decode cX4_chance 36 = .ok (.iload_n 1, 1) := by decide +kernel
theorem dX4_chance_37 : decode cX4_chance 37 = .ok (.invokevirtual 117, 3) := by decide +kernel
theorem dX4_chance_40 : decode cX4_chance 40 = .ok (.istore 6, 2) := by decide +kernel
theorem dX4_chance_42 : decode cX4_chance 42 = .ok (.iconst 0, 1) := by decide +kernel
theorem dX4_chance_43 : decode cX4_chance 43 = .ok (.istore 7, 2) := by decide +kernel
theorem dX4_chance_45 : decode cX4_chance 45 = .ok (.iload 7, 2) := by decide +kernel
theorem dX4_chance_47 : decode cX4_chance 47 = .ok (.iload 6, 2) := by decide +kernel
theorem dX4_chance_49 : decode cX4_chance 49 = .ok (.if_icmp .ge 22, 3) := by decide +kernel
theorem dX4_chance_52 : decode cX4_chance 52 = .ok (.iload 4, 2) := by decide +kernel
theorem dX4_chance_54 : decode cX4_chance 54 = .ok (.iload_n 2, 1) := by decide +kernel
theorem dX4_chance_55 : decode cX4_chance 55 = .ok (.imul, 1) := by decide +kernel
theorem dX4_chance_56 : decode cX4_chance 56 = .ok (.istore 4, 2) := by decide +kernel
theorem dX4_chance_58 : decode cX4_chance 58 = .ok (.iload 5, 2) := by decide +kernel
theorem dX4_chance_60 : decode cX4_chance 60 = .ok (.bipush 10, 2) := by decide +kernel
theorem dX4_chance_62 : decode cX4_chance 62 = .ok (.imul, 1) := by decide +kernel
theorem dX4_chance_63 : decode cX4_chance 63 = .ok (.istore 5, 2) := by decide +kernel
theorem dX4_chance_65 : decode cX4_chance 65 = .ok (.iinc 7 1, 3) := by decide +kernel
theorem dX4_chance_68 : decode cX4_chance 68 = .ok (.goto (-23), 3) := by decide +kernel
theorem dX4_chance_71 : decode cX4_chance 71 = .ok (.iload 5, 2) := by decide +kernel
theorem dX4_chance_73 : decode cX4_chance 73 = .ok (.iload 4, 2) := by decide +kernel
theorem dX4_chance_75 : decode cX4_chance 75 = .ok (.isub, 1) := by decide +kernel
theorem dX4_chance_76 : decode cX4_chance 76 = .ok (.iload 5, 2) := by decide +kernel
theorem dX4_chance_78 : decode cX4_chance 78 = .ok (.iload_n 3, 1) := by decide +kernel
theorem dX4_chance_79 : decode cX4_chance 79 = .ok (.invokestatic 224, 3) := by decide +kernel
theorem dX4_chance_82 : decode cX4_chance 82 = .ok (.ireturn, 1) := by decide +kernel
theorem dX4_seed_0 : decode cX4_seed 0 = .ok (.aload_n 0, 1) := by decide +kernel
theorem dX4_seed_1 : decode cX4_seed 1 = .ok (.getfield 245, 3) := by decide +kernel
theorem dX4_seed_4 : decode cX4_seed 4 = .ok (.lstore_n 3, 1) := by decide +kernel
theorem dX4_seed_5 : decode cX4_seed 5 = .ok (.aload_n 0, 1) := by decide +kernel
theorem dX4_seed_6 : decode cX4_seed 6 = .ok (.lload_n 1, 1) := by decide +kernel
theorem dX4_seed_7 : decode cX4_seed 7 = .ok (.putfield 245, 3) := by decide +kernel
theorem dX4_seed_10 : decode cX4_seed 10 = .ok (.lload_n 3, 1) := by decide +kernel
theorem dX4_seed_11 : decode cX4_seed 11 = .ok (.lreturn, 1) := by decide +kernel
theorem dX4_drawn_0 : decode cX4_drawn 0 = .ok (.iload_n 1, 1) := by decide +kernel
theorem dX4_drawn_1 : decode cX4_drawn 1 = .ok (.iconst 1, 1) := by decide +kernel
theorem dX4_drawn_2 : decode cX4_drawn 2 = .ok (.if_icmp .lt 9, 3) := by decide +kernel
theorem dX4_drawn_5 : decode cX4_drawn 5 = .ok (.iload_n 1, 1) := by decide +kernel
theorem dX4_drawn_6 : decode cX4_drawn 6 = .ok (.bipush 20, 2) := by decide +kernel
theorem dX4_drawn_8 : decode cX4_drawn 8 = .ok (.if_icmp .le 6, 3) := by decide +kernel
theorem dX4_drawn_11 : decode cX4_drawn 11 = .ok (.bipush (-2), 2) := by decide +kernel
theorem dX4_drawn_13 : decode cX4_drawn 13 = .ok (.ireturn, 1) := by decide +kernel
theorem dX4_drawn_14 : decode cX4_drawn 14 = .ok (.aload_n 0, 1) := by decide +kernel
theorem dX4_drawn_15 : decode cX4_drawn 15 = .ok (.getfield 16, 3) := by decide +kernel
theorem dX4_drawn_18 : decode cX4_drawn 18 = .ok (.aload_n 0, 1) := by decide +kernel
theorem dX4_drawn_19 : decode cX4_drawn 19 = .ok (.getfield 10, 3) := by decide +kernel
theorem dX4_drawn_22 : decode cX4_drawn 22 = .ok (.invokevirtual 65, 3) := by decide +kernel
theorem dX4_drawn_25 : decode cX4_drawn 25 = .ok (.iconst 1, 1) := by decide +kernel
theorem dX4_drawn_26 : decode cX4_drawn 26 = .ok (.aload_n 0, 1) := by decide +kernel
theorem dX4_drawn_27 : decode cX4_drawn 27 = .ok (.getfield 16, 3) := by decide +kernel
theorem dX4_drawn_30 : decode cX4_drawn 30 = .ok (.invokevirtual 75, 3) := by decide +kernel
theorem dX4_drawn_33 : decode cX4_drawn 33 = .ok (.invokestatic 249, 3) := by decide +kernel
theorem dX4_drawn_36 : decode cX4_drawn 36 = .ok (.istore_n 2, 1) := by decide +kernel
theorem dX4_drawn_37 : decode cX4_drawn 37 = .ok (.iconst 0, 1) := by decide +kernel
theorem dX4_drawn_38 : decode cX4_drawn 38 = .ok (.istore_n 3, 1) := by decide +kernel
theorem dX4_drawn_39 : decode cX4_drawn 39 = .ok (.iconst 0, 1) := by decide +kernel
theorem dX4_drawn_40 : decode cX4_drawn 40 = .ok (.istore 4, 2) := by decide +kernel
theorem dX4_drawn_42 : decode cX4_drawn 42 = .ok (.iload 4, 2) := by decide +kernel
theorem dX4_drawn_44 : decode cX4_drawn 44 = .ok (.iload_n 1, 1) := by decide +kernel
theorem dX4_drawn_45 : decode cX4_drawn 45 = .ok (.if_icmp .ge 68, 3) := by decide +kernel
theorem dX4_drawn_48 : decode cX4_drawn 48 = .ok (.aload_n 0, 1) := by decide +kernel
theorem dX4_drawn_49 : decode cX4_drawn 49 = .ok (.aload_n 0, 1) := by decide +kernel
theorem dX4_drawn_50 : decode cX4_drawn 50 = .ok (.getfield 245, 3) := by decide +kernel
theorem dX4_drawn_53 : decode cX4_drawn 53 = .ok (.ldc2_w 252, 3) := by decide +kernel
theorem dX4_drawn_56 : decode cX4_drawn 56 = .ok (.lmul, 1) := by decide +kernel
theorem dX4_drawn_57 : decode cX4_drawn 57 = .ok (.ldc2_w 254, 3) := by decide +kernel
theorem dX4_drawn_60 : decode cX4_drawn 60 = .ok (.ladd, 1) := by decide +kernel
theorem dX4_drawn_61 : decode cX4_drawn 61 = .ok (.putfield 245, 3) := by decide +kernel
theorem dX4_drawn_64 : decode cX4_drawn 64 = .ok (.aload_n 0, 1) := by decide +kernel
theorem dX4_drawn_65 : decode cX4_drawn 65 = .ok (.getfield 245, 3) := by decide +kernel
theorem dX4_drawn_68 : decode cX4_drawn 68 = .ok (.bipush 33, 2) := by decide +kernel
theorem dX4_drawn_70 : decode cX4_drawn 70 = .ok (.lushr, 1) := by decide +kernel
theorem dX4_drawn_71 : decode cX4_drawn 71 = .ok (.l2i, 1) := by decide +kernel
theorem dX4_drawn_72 : decode cX4_drawn 72 = .ok (.istore 5, 2) := by decide +kernel
theorem dX4_drawn_74 : decode cX4_drawn 74 = .ok (.aload_n 0, 1) := by decide +kernel
theorem dX4_drawn_75 : decode cX4_drawn 75 = .ok (.getfield 16, 3) := by decide +kernel
theorem dX4_drawn_78 : decode cX4_drawn 78 = .ok (.iload 5, 2) := by decide +kernel
theorem dX4_drawn_80 : decode cX4_drawn 80 = .ok (.iload_n 2, 1) := by decide +kernel
theorem dX4_drawn_81 : decode cX4_drawn 81 = .ok (.irem, 1) := by decide +kernel
theorem dX4_drawn_82 : decode cX4_drawn 82 = .ok (.iload 5, 2) := by decide +kernel
theorem dX4_drawn_84 : decode cX4_drawn 84 = .ok (.bipush 64, 2) := by decide +kernel
theorem dX4_drawn_86 : decode cX4_drawn 86 = .ok (.idiv, 1) := by decide +kernel
theorem dX4_drawn_87 : decode cX4_drawn 87 = .ok (.bipush 10, 2) := by decide +kernel
theorem dX4_drawn_89 : decode cX4_drawn 89 = .ok (.irem, 1) := by decide +kernel
theorem dX4_drawn_90 : decode cX4_drawn 90 = .ok (.invokevirtual 151, 3) := by decide +kernel
theorem dX4_drawn_93 : decode cX4_drawn 93 = .ok (.pop, 1) := by decide +kernel
theorem dX4_drawn_94 : decode cX4_drawn 94 = .ok (.iload_n 3, 1) := by decide +kernel
theorem dX4_drawn_95 : decode cX4_drawn 95 = .ok (.aload_n 0, 1) := by decide +kernel
theorem dX4_drawn_96 : decode cX4_drawn 96 = .ok (.getfield 16, 3) := by decide +kernel
theorem dX4_drawn_99 : decode cX4_drawn 99 = .ok (.invokevirtual 92, 3) := by decide +kernel
theorem dX4_drawn_102 : decode cX4_drawn 102 = .ok (.invokestatic 96, 3) := by decide +kernel
theorem dX4_drawn_105 : decode cX4_drawn 105 = .ok (.iadd, 1) := by decide +kernel
theorem dX4_drawn_106 : decode cX4_drawn 106 = .ok (.istore_n 3, 1) := by decide +kernel
theorem dX4_drawn_107 : decode cX4_drawn 107 = .ok (.iinc 4 1, 3) := by decide +kernel
theorem dX4_drawn_110 : decode cX4_drawn 110 = .ok (.goto (-68), 3) := by decide +kernel
theorem dX4_drawn_113 : decode cX4_drawn 113 = .ok (.iload_n 3, 1) := by decide +kernel
theorem dX4_drawn_114 : decode cX4_drawn 114 = .ok (.ireturn, 1) := by decide +kernel
theorem dX4_keep_0 : decode cX4_keep 0 = .ok (.iload_n 1, 1) := by decide +kernel
theorem dX4_keep_1 : decode cX4_keep 1 = .ok (.invokestatic 256, 3) := by decide +kernel
theorem dX4_keep_4 : decode cX4_keep 4 = .ok (.ifCond .ne 5, 3) := by decide +kernel
theorem dX4_keep_7 : decode cX4_keep 7 = .ok (.iconst (-1), 1) := by decide +kernel
theorem dX4_keep_8 : decode cX4_keep 8 = .ok (.ireturn, 1) := by decide +kernel
theorem dX4_keep_9 : decode cX4_keep 9 = .ok (.aload_n 0, 1) := by decide +kernel
theorem dX4_keep_10 : decode cX4_keep 10 = .ok (.iload_n 1, 1) := by decide +kernel
theorem dX4_keep_11 : decode cX4_keep 11 = .ok (.invokevirtual 259, 3) := by decide +kernel
theorem dX4_keep_14 : decode cX4_keep 14 = .ok (.aload_n 0, 1) := by decide +kernel
theorem dX4_keep_15 : decode cX4_keep 15 = .ok (.getfield 10, 3) := by decide +kernel
theorem dX4_keep_18 : decode cX4_keep 18 = .ok (.invokevirtual 65, 3) := by decide +kernel
theorem dX4_keep_21 : decode cX4_keep 21 = .ok (.aload_n 0, 1) := by decide +kernel
theorem dX4_keep_22 : decode cX4_keep 22 = .ok (.dup, 1) := by decide +kernel
theorem dX4_keep_23 : decode cX4_keep 23 = .ok (.getfield 72, 3) := by decide +kernel
theorem dX4_keep_26 : decode cX4_keep 26 = .ok (.iconst 1, 1) := by decide +kernel
theorem dX4_keep_27 : decode cX4_keep 27 = .ok (.iload_n 1, 1) := by decide +kernel
theorem dX4_keep_28 : decode cX4_keep 28 = .ok (.ishl, 1) := by decide +kernel
theorem dX4_keep_29 : decode cX4_keep 29 = .ok (.ior, 1) := by decide +kernel
theorem dX4_keep_30 : decode cX4_keep 30 = .ok (.putfield 72, 3) := by decide +kernel
theorem dX4_keep_33 : decode cX4_keep 33 = .ok (.aload_n 0, 1) := by decide +kernel
theorem dX4_keep_34 : decode cX4_keep 34 = .ok (.getfield 10, 3) := by decide +kernel
theorem dX4_keep_37 : decode cX4_keep 37 = .ok (.getfield 85, 3) := by decide +kernel
theorem dX4_keep_40 : decode cX4_keep 40 = .ok (.ireturn, 1) := by decide +kernel
theorem dX4_again_0 : decode cX4_again 0 = .ok (.iload_n 1, 1) := by decide +kernel
theorem dX4_again_1 : decode cX4_again 1 = .ok (.invokestatic 256, 3) := by decide +kernel
theorem dX4_again_4 : decode cX4_again 4 = .ok (.ifCond .ne 5, 3) := by decide +kernel
theorem dX4_again_7 : decode cX4_again 7 = .ok (.iconst (-1), 1) := by decide +kernel
theorem dX4_again_8 : decode cX4_again 8 = .ok (.ireturn, 1) := by decide +kernel
theorem dX4_again_9 : decode cX4_again 9 = .ok (.aload_n 0, 1) := by decide +kernel
theorem dX4_again_10 : decode cX4_again 10 = .ok (.getfield 72, 3) := by decide +kernel
theorem dX4_again_13 : decode cX4_again 13 = .ok (.iload_n 1, 1) := by decide +kernel
theorem dX4_again_14 : decode cX4_again 14 = .ok (.ishr, 1) := by decide +kernel
theorem dX4_again_15 : decode cX4_again 15 = .ok (.iconst 1, 1) := by decide +kernel
theorem dX4_again_16 : decode cX4_again 16 = .ok (.iand, 1) := by decide +kernel
theorem dX4_again_17 : decode cX4_again 17 = .ok (.ifCond .ne 6, 3) := by decide +kernel
theorem dX4_again_20 : decode cX4_again 20 = .ok (.bipush (-3), 2) := by decide +kernel
theorem dX4_again_22 : decode cX4_again 22 = .ok (.ireturn, 1) := by decide +kernel
theorem dX4_again_23 : decode cX4_again 23 = .ok (.aload_n 0, 1) := by decide +kernel
theorem dX4_again_24 : decode cX4_again 24 = .ok (.getfield 10, 3) := by decide +kernel
theorem dX4_again_27 : decode cX4_again 27 = .ok (.aload_n 0, 1) := by decide +kernel
theorem dX4_again_28 : decode cX4_again 28 = .ok (.iload_n 1, 1) := by decide +kernel
theorem dX4_again_29 : decode cX4_again 29 = .ok (.invokevirtual 259, 3) := by decide +kernel
theorem dX4_again_32 : decode cX4_again 32 = .ok (.invokevirtual 65, 3) := by decide +kernel
theorem dX4_again_35 : decode cX4_again 35 = .ok (.aload_n 0, 1) := by decide +kernel
theorem dX4_again_36 : decode cX4_again 36 = .ok (.getfield 35, 3) := by decide +kernel
theorem dX4_again_39 : decode cX4_again 39 = .ok (.iconst 0, 1) := by decide +kernel
theorem dX4_again_40 : decode cX4_again 40 = .ok (.putfield 69, 3) := by decide +kernel
theorem dX4_again_43 : decode cX4_again 43 = .ok (.aload_n 0, 1) := by decide +kernel
theorem dX4_again_44 : decode cX4_again 44 = .ok (.getfield 10, 3) := by decide +kernel
theorem dX4_again_47 : decode cX4_again 47 = .ok (.getfield 85, 3) := by decide +kernel
theorem dX4_again_50 : decode cX4_again 50 = .ok (.ireturn, 1) := by decide +kernel
theorem dX4_slotLand_0 : decode cX4_slotLand 0 = .ok (.iload_n 1, 1) := by decide +kernel
theorem dX4_slotLand_1 : decode cX4_slotLand 1 = .ok (.ifCond .ne 10, 3) := by decide +kernel
theorem dX4_slotLand_4 : decode cX4_slotLand 4 = .ok (.aload_n 0, 1) := by decide +kernel
theorem dX4_slotLand_5 : decode cX4_slotLand 5 = .ok (.getfield 19, 3) := by decide +kernel
theorem dX4_slotLand_8 : decode cX4_slotLand 8 = .ok (.goto 7, 3) := by decide +kernel
theorem dX4_slotLand_11 : decode cX4_slotLand 11 = .ok (.aload_n 0, 1) := by decide +kernel
theorem dX4_slotLand_12 : decode cX4_slotLand 12 = .ok (.getfield 22, 3) := by decide +kernel
theorem dX4_slotLand_15 : decode cX4_slotLand 15 = .ok (.areturn, 1) := by decide +kernel
theorem dX4_fillViews_0 : decode cX4_fillViews 0 = .ok (.iconst 0, 1) := by decide +kernel
theorem dX4_fillViews_1 : decode cX4_fillViews 1 = .ok (.istore_n 2, 1) := by decide +kernel
theorem dX4_fillViews_2 : decode cX4_fillViews 2 = .ok (.iload_n 2, 1) := by decide +kernel
theorem dX4_fillViews_3 : decode cX4_fillViews 3 = .ok (.aload_n 0, 1) := by decide +kernel
theorem dX4_fillViews_4 : decode cX4_fillViews 4 = .ok (.getfield 10, 3) := by decide +kernel
theorem dX4_fillViews_7 : decode cX4_fillViews 7 = .ok (.invokevirtual 75, 3) := by decide +kernel
theorem dX4_fillViews_10 : decode cX4_fillViews 10 = .ok (.if_icmp .ge 33, 3) := by decide +kernel
theorem dX4_fillViews_13 : decode cX4_fillViews 13 = .ok (.iload_n 2, 1) := by decide +kernel
theorem dX4_fillViews_14 : decode cX4_fillViews 14 = .ok (.aload_n 0, 1) := by decide +kernel
theorem dX4_fillViews_15 : decode cX4_fillViews 15 = .ok (.getfield 46, 3) := by decide +kernel
theorem dX4_fillViews_18 : decode cX4_fillViews 18 = .ok (.arraylength, 1) := by decide +kernel
theorem dX4_fillViews_19 : decode cX4_fillViews 19 = .ok (.if_icmp .ge 24, 3) := by decide +kernel
theorem dX4_fillViews_22 : decode cX4_fillViews 22 = .ok (.aload_n 0, 1) := by decide +kernel
theorem dX4_fillViews_23 : decode cX4_fillViews 23 = .ok (.getfield 46, 3) := by decide +kernel
theorem dX4_fillViews_26 : decode cX4_fillViews 26 = .ok (.iload_n 2, 1) := by decide +kernel
theorem dX4_fillViews_27 : decode cX4_fillViews 27 = .ok (.aload_n 0, 1) := by decide +kernel
theorem dX4_fillViews_28 : decode cX4_fillViews 28 = .ok (.getfield 10, 3) := by decide +kernel
theorem dX4_fillViews_31 : decode cX4_fillViews 31 = .ok (.iload_n 2, 1) := by decide +kernel
theorem dX4_fillViews_32 : decode cX4_fillViews 32 = .ok (.iload_n 1, 1) := by decide +kernel
theorem dX4_fillViews_33 : decode cX4_fillViews 33 = .ok (.invokevirtual 120, 3) := by decide +kernel
theorem dX4_fillViews_36 : decode cX4_fillViews 36 = .ok (.lastore, 1) := by decide +kernel
theorem dX4_fillViews_37 : decode cX4_fillViews 37 = .ok (.iinc 2 1, 3) := by decide +kernel
theorem dX4_fillViews_40 : decode cX4_fillViews 40 = .ok (.goto (-38), 3) := by decide +kernel
theorem dX4_fillViews_43 : decode cX4_fillViews 43 = .ok (.return_, 1) := by decide +kernel
theorem dX4_holds_0 : decode cX4_holds 0 = .ok (.iload_n 1, 1) := by decide +kernel
theorem dX4_holds_1 : decode cX4_holds 1 = .ok (.sipush 1000, 3) := by decide +kernel
theorem dX4_holds_4 : decode cX4_holds 4 = .ok (.idiv, 1) := by decide +kernel
theorem dX4_holds_5 : decode cX4_holds 5 = .ok (.bipush 10, 2) := by decide +kernel
theorem dX4_holds_7 : decode cX4_holds 7 = .ok (.irem, 1) := by decide +kernel
theorem dX4_holds_8 : decode cX4_holds 8 = .ok (.istore_n 2, 1) := by decide +kernel
theorem dX4_holds_9 : decode cX4_holds 9 = .ok (.iload_n 1, 1) := by decide +kernel
theorem dX4_holds_10 : decode cX4_holds 10 = .ok (.bipush 100, 2) := by decide +kernel
theorem dX4_holds_12 : decode cX4_holds 12 = .ok (.idiv, 1) := by decide +kernel
theorem dX4_holds_13 : decode cX4_holds 13 = .ok (.bipush 10, 2) := by decide +kernel
theorem dX4_holds_15 : decode cX4_holds 15 = .ok (.irem, 1) := by decide +kernel
theorem dX4_holds_16 : decode cX4_holds 16 = .ok (.istore_n 3, 1) := by decide +kernel
theorem dX4_holds_17 : decode cX4_holds 17 = .ok (.iload_n 1, 1) := by decide +kernel
theorem dX4_holds_18 : decode cX4_holds 18 = .ok (.bipush 10, 2) := by decide +kernel
theorem dX4_holds_20 : decode cX4_holds 20 = .ok (.idiv, 1) := by decide +kernel
theorem dX4_holds_21 : decode cX4_holds 21 = .ok (.bipush 10, 2) := by decide +kernel
theorem dX4_holds_23 : decode cX4_holds 23 = .ok (.irem, 1) := by decide +kernel
theorem dX4_holds_24 : decode cX4_holds 24 = .ok (.istore 4, 2) := by decide +kernel
theorem dX4_holds_26 : decode cX4_holds 26 = .ok (.iload_n 1, 1) := by decide +kernel
theorem dX4_holds_27 : decode cX4_holds 27 = .ok (.bipush 10, 2) := by decide +kernel
theorem dX4_holds_29 : decode cX4_holds 29 = .ok (.irem, 1) := by decide +kernel
theorem dX4_holds_30 : decode cX4_holds 30 = .ok (.istore 5, 2) := by decide +kernel
theorem dX4_holds_32 : decode cX4_holds 32 = .ok (.bipush 10, 2) := by decide +kernel
theorem dX4_holds_34 : decode cX4_holds 34 = .ok (.iload_n 2, 1) := by decide +kernel
theorem dX4_holds_35 : decode cX4_holds 35 = .ok (.imul, 1) := by decide +kernel
theorem dX4_holds_36 : decode cX4_holds 36 = .ok (.iload_n 3, 1) := by decide +kernel
theorem dX4_holds_37 : decode cX4_holds 37 = .ok (.iadd, 1) := by decide +kernel
theorem dX4_holds_38 : decode cX4_holds 38 = .ok (.istore 6, 2) := by decide +kernel
theorem dX4_holds_40 : decode cX4_holds 40 = .ok (.iload 5, 2) := by decide +kernel
theorem dX4_holds_42 : decode cX4_holds 42 = .ok (.ifCond .eq 5, 3) := by decide +kernel
theorem dX4_holds_45 : decode cX4_holds 45 = .ok (.iconst 0, 1) := by decide +kernel
theorem dX4_holds_46 : decode cX4_holds 46 = .ok (.ireturn, 1) := by decide +kernel
theorem dX4_holds_47 : decode cX4_holds 47 = .ok (.iload_n 1, 1) := by decide +kernel
theorem dX4_holds_48 : decode cX4_holds 48 = .ok (.sipush 10000, 3) := by decide +kernel
theorem dX4_holds_51 : decode cX4_holds 51 = .ok (.idiv, 1) := by decide +kernel
theorem dX4_holds_52 : decode cX4_holds 52 = .ok (.tableswitch 232 1 7 #[44, 56, 75, 101, 127, 176, 199], 44) := by decide +kernel
theorem dX4_holds_96 : decode cX4_holds 96 = .ok (.aload_n 0, 1) := by decide +kernel
theorem dX4_holds_97 : decode cX4_holds 97 = .ok (.getfield 16, 3) := by decide +kernel
theorem dX4_holds_100 : decode cX4_holds 100 = .ok (.iload 6, 2) := by decide +kernel
theorem dX4_holds_102 : decode cX4_holds 102 = .ok (.iload 4, 2) := by decide +kernel
theorem dX4_holds_104 : decode cX4_holds 104 = .ok (.invokevirtual 151, 3) := by decide +kernel
theorem dX4_holds_107 : decode cX4_holds 107 = .ok (.ireturn, 1) := by decide +kernel
theorem dX4_holds_108 : decode cX4_holds 108 = .ok (.aload_n 0, 1) := by decide +kernel
theorem dX4_holds_109 : decode cX4_holds 109 = .ok (.getfield 16, 3) := by decide +kernel
theorem dX4_holds_112 : decode cX4_holds 112 = .ok (.aload_n 0, 1) := by decide +kernel
theorem dX4_holds_113 : decode cX4_holds 113 = .ok (.getfield 16, 3) := by decide +kernel
theorem dX4_holds_116 : decode cX4_holds 116 = .ok (.getfield 85, 3) := by decide +kernel
theorem dX4_holds_119 : decode cX4_holds 119 = .ok (.iload 6, 2) := by decide +kernel
theorem dX4_holds_121 : decode cX4_holds 121 = .ok (.iload 4, 2) := by decide +kernel
theorem dX4_holds_123 : decode cX4_holds 123 = .ok (.invokevirtual 155, 3) := by decide +kernel
theorem dX4_holds_126 : decode cX4_holds 126 = .ok (.ireturn, 1) := by decide +kernel
theorem dX4_holds_127 : decode cX4_holds 127 = .ok (.iload_n 3, 1) := by decide +kernel
theorem dX4_holds_128 : decode cX4_holds 128 = .ok (.ifCond .ne 23, 3) := by decide +kernel
theorem dX4_holds_131 : decode cX4_holds 131 = .ok (.iload 4, 2) := by decide +kernel
theorem dX4_holds_133 : decode cX4_holds 133 = .ok (.ifCond .ne 18, 3) := by decide +kernel
theorem dX4_holds_136 : decode cX4_holds 136 = .ok (.aload_n 0, 1) := by decide +kernel
theorem dX4_holds_137 : decode cX4_holds 137 = .ok (.getfield 16, 3) := by decide +kernel
theorem dX4_holds_140 : decode cX4_holds 140 = .ok (.iload_n 2, 1) := by decide +kernel
theorem dX4_holds_141 : decode cX4_holds 141 = .ok (.invokevirtual 159, 3) := by decide +kernel
theorem dX4_holds_144 : decode cX4_holds 144 = .ok (.ifCond .eq 7, 3) := by decide +kernel
theorem dX4_holds_147 : decode cX4_holds 147 = .ok (.iconst 1, 1) := by decide +kernel
theorem dX4_holds_148 : decode cX4_holds 148 = .ok (.goto 4, 3) := by decide +kernel
theorem dX4_holds_151 : decode cX4_holds 151 = .ok (.iconst 0, 1) := by decide +kernel
theorem dX4_holds_152 : decode cX4_holds 152 = .ok (.ireturn, 1) := by decide +kernel
theorem dX4_holds_153 : decode cX4_holds 153 = .ok (.iload 4, 2) := by decide +kernel
theorem dX4_holds_155 : decode cX4_holds 155 = .ok (.ifCond .ne 22, 3) := by decide +kernel
theorem dX4_holds_158 : decode cX4_holds 158 = .ok (.aload_n 0, 1) := by decide +kernel
theorem dX4_holds_159 : decode cX4_holds 159 = .ok (.getfield 16, 3) := by decide +kernel
theorem dX4_holds_162 : decode cX4_holds 162 = .ok (.invokevirtual 92, 3) := by decide +kernel
theorem dX4_holds_165 : decode cX4_holds 165 = .ok (.invokestatic 96, 3) := by decide +kernel
theorem dX4_holds_168 : decode cX4_holds 168 = .ok (.iload 6, 2) := by decide +kernel
theorem dX4_holds_170 : decode cX4_holds 170 = .ok (.if_icmp .ne 7, 3) := by decide +kernel
theorem dX4_holds_173 : decode cX4_holds 173 = .ok (.iconst 1, 1) := by decide +kernel
theorem dX4_holds_174 : decode cX4_holds 174 = .ok (.goto 4, 3) := by decide +kernel
theorem dX4_holds_177 : decode cX4_holds 177 = .ok (.iconst 0, 1) := by decide +kernel
theorem dX4_holds_178 : decode cX4_holds 178 = .ok (.ireturn, 1) := by decide +kernel
theorem dX4_holds_179 : decode cX4_holds 179 = .ok (.iload 4, 2) := by decide +kernel
theorem dX4_holds_181 : decode cX4_holds 181 = .ok (.iconst 1, 1) := by decide +kernel
theorem dX4_holds_182 : decode cX4_holds 182 = .ok (.if_icmp .gt 44, 3) := by decide +kernel
theorem dX4_holds_185 : decode cX4_holds 185 = .ok (.aload_n 0, 1) := by decide +kernel
theorem dX4_holds_186 : decode cX4_holds 186 = .ok (.getfield 16, 3) := by decide +kernel
theorem dX4_holds_189 : decode cX4_holds 189 = .ok (.iload 6, 2) := by decide +kernel
theorem dX4_holds_191 : decode cX4_holds 191 = .ok (.invokevirtual 106, 3) := by decide +kernel
theorem dX4_holds_194 : decode cX4_holds 194 = .ok (.ifCond .eq 32, 3) := by decide +kernel
theorem dX4_holds_197 : decode cX4_holds 197 = .ok (.aload_n 0, 1) := by decide +kernel
theorem dX4_holds_198 : decode cX4_holds 198 = .ok (.getfield 16, 3) := by decide +kernel
theorem dX4_holds_201 : decode cX4_holds 201 = .ok (.invokevirtual 92, 3) := by decide +kernel
theorem dX4_holds_204 : decode cX4_holds 204 = .ok (.iload 6, 2) := by decide +kernel
theorem dX4_holds_206 : decode cX4_holds 206 = .ok (.invokestatic 241, 3) := by decide +kernel
theorem dX4_holds_209 : decode cX4_holds 209 = .ok (.iload 4, 2) := by decide +kernel
theorem dX4_holds_211 : decode cX4_holds 211 = .ok (.ifCond .ne 7, 3) := by decide +kernel
theorem dX4_holds_214 : decode cX4_holds 214 = .ok (.iconst 1, 1) := by decide +kernel
theorem dX4_holds_215 : decode cX4_holds 215 = .ok (.goto 4, 3) := by decide +kernel
theorem dX4_holds_218 : decode cX4_holds 218 = .ok (.iconst 0, 1) := by decide +kernel
theorem dX4_holds_219 : decode cX4_holds 219 = .ok (.if_icmp .ne 7, 3) := by decide +kernel
theorem dX4_holds_222 : decode cX4_holds 222 = .ok (.iconst 1, 1) := by decide +kernel
theorem dX4_holds_223 : decode cX4_holds 223 = .ok (.goto 4, 3) := by decide +kernel
theorem dX4_holds_226 : decode cX4_holds 226 = .ok (.iconst 0, 1) := by decide +kernel
theorem dX4_holds_227 : decode cX4_holds 227 = .ok (.ireturn, 1) := by decide +kernel
theorem dX4_holds_228 : decode cX4_holds 228 = .ok (.iload 4, 2) := by decide +kernel
theorem dX4_holds_230 : decode cX4_holds 230 = .ok (.ifCond .ne 19, 3) := by decide +kernel
theorem dX4_holds_233 : decode cX4_holds 233 = .ok (.aload_n 0, 1) := by decide +kernel
theorem dX4_holds_234 : decode cX4_holds 234 = .ok (.getfield 16, 3) := by decide +kernel
theorem dX4_holds_237 : decode cX4_holds 237 = .ok (.iload_n 2, 1) := by decide +kernel
theorem dX4_holds_238 : decode cX4_holds 238 = .ok (.iload_n 3, 1) := by decide +kernel
theorem dX4_holds_239 : decode cX4_holds 239 = .ok (.invokevirtual 165, 3) := by decide +kernel
theorem dX4_holds_242 : decode cX4_holds 242 = .ok (.ifCond .eq 7, 3) := by decide +kernel
theorem dX4_holds_245 : decode cX4_holds 245 = .ok (.iconst 1, 1) := by decide +kernel
theorem dX4_holds_246 : decode cX4_holds 246 = .ok (.goto 4, 3) := by decide +kernel
theorem dX4_holds_249 : decode cX4_holds 249 = .ok (.iconst 0, 1) := by decide +kernel
theorem dX4_holds_250 : decode cX4_holds 250 = .ok (.ireturn, 1) := by decide +kernel
theorem dX4_holds_251 : decode cX4_holds 251 = .ok (.iload_n 3, 1) := by decide +kernel
theorem dX4_holds_252 : decode cX4_holds 252 = .ok (.ifCond .ne 30, 3) := by decide +kernel
theorem dX4_holds_255 : decode cX4_holds 255 = .ok (.iload 4, 2) := by decide +kernel
theorem dX4_holds_257 : decode cX4_holds 257 = .ok (.ifCond .ne 25, 3) := by decide +kernel
theorem dX4_holds_260 : decode cX4_holds 260 = .ok (.aload_n 0, 1) := by decide +kernel
theorem dX4_holds_261 : decode cX4_holds 261 = .ok (.getfield 16, 3) := by decide +kernel
theorem dX4_holds_264 : decode cX4_holds 264 = .ok (.aload_n 0, 1) := by decide +kernel
theorem dX4_holds_265 : decode cX4_holds 265 = .ok (.getfield 16, 3) := by decide +kernel
theorem dX4_holds_268 : decode cX4_holds 268 = .ok (.invokevirtual 92, 3) := by decide +kernel
theorem dX4_holds_271 : decode cX4_holds 271 = .ok (.invokevirtual 102, 3) := by decide +kernel
theorem dX4_holds_274 : decode cX4_holds 274 = .ok (.iload_n 2, 1) := by decide +kernel
theorem dX4_holds_275 : decode cX4_holds 275 = .ok (.if_icmp .ne 7, 3) := by decide +kernel
theorem dX4_holds_278 : decode cX4_holds 278 = .ok (.iconst 1, 1) := by decide +kernel
theorem dX4_holds_279 : decode cX4_holds 279 = .ok (.goto 4, 3) := by decide +kernel
theorem dX4_holds_282 : decode cX4_holds 282 = .ok (.iconst 0, 1) := by decide +kernel
theorem dX4_holds_283 : decode cX4_holds 283 = .ok (.ireturn, 1) := by decide +kernel
theorem dX4_holds_284 : decode cX4_holds 284 = .ok (.iconst 0, 1) := by decide +kernel
theorem dX4_holds_285 : decode cX4_holds 285 = .ok (.ireturn, 1) := by decide +kernel
theorem dX4_isDigit_0 : decode cX4_isDigit 0 = .ok (.iload_n 0, 1) := by decide +kernel
theorem dX4_isDigit_1 : decode cX4_isDigit 1 = .ok (.ifCond .lt 13, 3) := by decide +kernel
theorem dX4_isDigit_4 : decode cX4_isDigit 4 = .ok (.iload_n 0, 1) := by decide +kernel
theorem dX4_isDigit_5 : decode cX4_isDigit 5 = .ok (.bipush 9, 2) := by decide +kernel
theorem dX4_isDigit_7 : decode cX4_isDigit 7 = .ok (.if_icmp .gt 7, 3) := by decide +kernel
theorem dX4_isDigit_10 : decode cX4_isDigit 10 = .ok (.iconst 1, 1) := by decide +kernel
theorem dX4_isDigit_11 : decode cX4_isDigit 11 = .ok (.goto 4, 3) := by decide +kernel
theorem dX4_isDigit_14 : decode cX4_isDigit 14 = .ok (.iconst 0, 1) := by decide +kernel
theorem dX4_isDigit_15 : decode cX4_isDigit 15 = .ok (.ireturn, 1) := by decide +kernel
theorem dX4_isSlot_0 : decode cX4_isSlot 0 = .ok (.iload_n 0, 1) := by decide +kernel
theorem dX4_isSlot_1 : decode cX4_isSlot 1 = .ok (.ifCond .eq 8, 3) := by decide +kernel
theorem dX4_isSlot_4 : decode cX4_isSlot 4 = .ok (.iload_n 0, 1) := by decide +kernel
theorem dX4_isSlot_5 : decode cX4_isSlot 5 = .ok (.iconst 1, 1) := by decide +kernel
theorem dX4_isSlot_6 : decode cX4_isSlot 6 = .ok (.if_icmp .ne 7, 3) := by decide +kernel
theorem dX4_isSlot_9 : decode cX4_isSlot 9 = .ok (.iconst 1, 1) := by decide +kernel
theorem dX4_isSlot_10 : decode cX4_isSlot 10 = .ok (.goto 4, 3) := by decide +kernel
theorem dX4_isSlot_13 : decode cX4_isSlot 13 = .ok (.iconst 0, 1) := by decide +kernel
theorem dX4_isSlot_14 : decode cX4_isSlot 14 = .ok (.ireturn, 1) := by decide +kernel
theorem dX4_isSetting_0 : decode cX4_isSetting 0 = .ok (.iload_n 0, 1) := by decide +kernel
theorem dX4_isSetting_1 : decode cX4_isSetting 1 = .ok (.ifCond .lt 26, 3) := by decide +kernel
theorem dX4_isSetting_4 : decode cX4_isSetting 4 = .ok (.iload_n 0, 1) := by decide +kernel
theorem dX4_isSetting_5 : decode cX4_isSetting 5 = .ok (.iconst 4, 1) := by decide +kernel
theorem dX4_isSetting_6 : decode cX4_isSetting 6 = .ok (.if_icmp .ge 21, 3) := by decide +kernel
theorem dX4_isSetting_9 : decode cX4_isSetting 9 = .ok (.iload_n 1, 1) := by decide +kernel
theorem dX4_isSetting_10 : decode cX4_isSetting 10 = .ok (.iload_n 0, 1) := by decide +kernel
theorem dX4_isSetting_11 : decode cX4_isSetting 11 = .ok (.invokestatic 263, 3) := by decide +kernel
theorem dX4_isSetting_14 : decode cX4_isSetting 14 = .ok (.if_icmp .lt 13, 3) := by decide +kernel
theorem dX4_isSetting_17 : decode cX4_isSetting 17 = .ok (.iload_n 1, 1) := by decide +kernel
theorem dX4_isSetting_18 : decode cX4_isSetting 18 = .ok (.bipush 9, 2) := by decide +kernel
theorem dX4_isSetting_20 : decode cX4_isSetting 20 = .ok (.if_icmp .gt 7, 3) := by decide +kernel
theorem dX4_isSetting_23 : decode cX4_isSetting 23 = .ok (.iconst 1, 1) := by decide +kernel
theorem dX4_isSetting_24 : decode cX4_isSetting 24 = .ok (.goto 4, 3) := by decide +kernel
theorem dX4_isSetting_27 : decode cX4_isSetting 27 = .ok (.iconst 0, 1) := by decide +kernel
theorem dX4_isSetting_28 : decode cX4_isSetting 28 = .ok (.ireturn, 1) := by decide +kernel
theorem dX4_lowestValue_0 : decode cX4_lowestValue 0 = .ok (.iload_n 0, 1) := by decide +kernel
theorem dX4_lowestValue_1 : decode cX4_lowestValue 1 = .ok (.iconst 3, 1) := by decide +kernel
theorem dX4_lowestValue_2 : decode cX4_lowestValue 2 = .ok (.if_icmp .ne 7, 3) := by decide +kernel
theorem dX4_lowestValue_5 : decode cX4_lowestValue 5 = .ok (.iconst 1, 1) := by decide +kernel
theorem dX4_lowestValue_6 : decode cX4_lowestValue 6 = .ok (.goto 4, 3) := by decide +kernel
theorem dX4_lowestValue_9 : decode cX4_lowestValue 9 = .ok (.iconst 0, 1) := by decide +kernel
theorem dX4_lowestValue_10 : decode cX4_lowestValue 10 = .ok (.ireturn, 1) := by decide +kernel
theorem dX4_contains_0 : decode cX4_contains 0 = .ok (.lload_n 0, 1) := by decide +kernel
theorem dX4_contains_1 : decode cX4_contains 1 = .ok (.iload_n 2, 1) := by decide +kernel
theorem dX4_contains_2 : decode cX4_contains 2 = .ok (.lushr, 1) := by decide +kernel
theorem dX4_contains_3 : decode cX4_contains 3 = .ok (.lconst 1, 1) := by decide +kernel
theorem dX4_contains_4 : decode cX4_contains 4 = .ok (.land, 1) := by decide +kernel
theorem dX4_contains_5 : decode cX4_contains 5 = .ok (.lconst 0, 1) := by decide +kernel
theorem dX4_contains_6 : decode cX4_contains 6 = .ok (.lcmp, 1) := by decide +kernel
theorem dX4_contains_7 : decode cX4_contains 7 = .ok (.ifCond .eq 7, 3) := by decide +kernel
theorem dX4_contains_10 : decode cX4_contains 10 = .ok (.iconst 1, 1) := by decide +kernel
theorem dX4_contains_11 : decode cX4_contains 11 = .ok (.goto 4, 3) := by decide +kernel
theorem dX4_contains_14 : decode cX4_contains 14 = .ok (.iconst 0, 1) := by decide +kernel
theorem dX4_contains_15 : decode cX4_contains 15 = .ok (.ireturn, 1) := by decide +kernel
theorem dX4_combine_0 : decode cX4_combine 0 = .ok (.iload_n 0, 1) := by decide +kernel
theorem dX4_combine_1 : decode cX4_combine 1 = .ok (.tableswitch 39 0 2 #[27, 31, 35], 27) := by decide +kernel
theorem dX4_combine_28 : decode cX4_combine 28 = .ok (.lload_n 1, 1) := by decide +kernel
theorem dX4_combine_29 : decode cX4_combine 29 = .ok (.lload_n 3, 1) := by decide +kernel
theorem dX4_combine_30 : decode cX4_combine 30 = .ok (.lor, 1) := by decide +kernel
theorem dX4_combine_31 : decode cX4_combine 31 = .ok (.lreturn, 1) := by decide +kernel
theorem dX4_combine_32 : decode cX4_combine 32 = .ok (.lload_n 1, 1) := by decide +kernel
theorem dX4_combine_33 : decode cX4_combine 33 = .ok (.lload_n 3, 1) := by decide +kernel
theorem dX4_combine_34 : decode cX4_combine 34 = .ok (.land, 1) := by decide +kernel
theorem dX4_combine_35 : decode cX4_combine 35 = .ok (.lreturn, 1) := by decide +kernel
theorem dX4_combine_36 : decode cX4_combine 36 = .ok (.lload_n 1, 1) := by decide +kernel
theorem dX4_combine_37 : decode cX4_combine 37 = .ok (.lload_n 3, 1) := by decide +kernel
theorem dX4_combine_38 : decode cX4_combine 38 = .ok (.lxor, 1) := by decide +kernel
theorem dX4_combine_39 : decode cX4_combine 39 = .ok (.lreturn, 1) := by decide +kernel
theorem dX4_combine_40 : decode cX4_combine 40 = .ok (.lload_n 1, 1) := by decide +kernel
theorem dX4_combine_41 : decode cX4_combine 41 = .ok (.lload_n 3, 1) := by decide +kernel
theorem dX4_combine_42 : decode cX4_combine 42 = .ok (.ldc2_w 188, 3) := by decide +kernel
theorem dX4_combine_45 : decode cX4_combine 45 = .ok (.lxor, 1) := by decide +kernel
theorem dX4_combine_46 : decode cX4_combine 46 = .ok (.land, 1) := by decide +kernel
theorem dX4_combine_47 : decode cX4_combine 47 = .ok (.lreturn, 1) := by decide +kernel
theorem dX4_lowestTerms_0 : decode cX4_lowestTerms 0 = .ok (.iload_n 1, 1) := by decide +kernel
theorem dX4_lowestTerms_1 : decode cX4_lowestTerms 1 = .ok (.istore_n 3, 1) := by decide +kernel
theorem dX4_lowestTerms_2 : decode cX4_lowestTerms 2 = .ok (.iload_n 0, 1) := by decide +kernel
theorem dX4_lowestTerms_3 : decode cX4_lowestTerms 3 = .ok (.istore 4, 2) := by decide +kernel
theorem dX4_lowestTerms_5 : decode cX4_lowestTerms 5 = .ok (.iconst 0, 1) := by decide +kernel
theorem dX4_lowestTerms_6 : decode cX4_lowestTerms 6 = .ok (.istore 5, 2) := by decide +kernel
theorem dX4_lowestTerms_8 : decode cX4_lowestTerms 8 = .ok (.iload 5, 2) := by decide +kernel
theorem dX4_lowestTerms_10 : decode cX4_lowestTerms 10 = .ok (.bipush 64, 2) := by decide +kernel
theorem dX4_lowestTerms_12 : decode cX4_lowestTerms 12 = .ok (.if_icmp .ge 27, 3) := by decide +kernel
theorem dX4_lowestTerms_15 : decode cX4_lowestTerms 15 = .ok (.iload 4, 2) := by decide +kernel
theorem dX4_lowestTerms_17 : decode cX4_lowestTerms 17 = .ok (.ifCond .eq 22, 3) := by decide +kernel
theorem dX4_lowestTerms_20 : decode cX4_lowestTerms 20 = .ok (.iload_n 3, 1) := by decide +kernel
theorem dX4_lowestTerms_21 : decode cX4_lowestTerms 21 = .ok (.iload 4, 2) := by decide +kernel
theorem dX4_lowestTerms_23 : decode cX4_lowestTerms 23 = .ok (.irem, 1) := by decide +kernel
theorem dX4_lowestTerms_24 : decode cX4_lowestTerms 24 = .ok (.istore 6, 2) := by decide +kernel
theorem dX4_lowestTerms_26 : decode cX4_lowestTerms 26 = .ok (.iload 4, 2) := by decide +kernel
theorem dX4_lowestTerms_28 : decode cX4_lowestTerms 28 = .ok (.istore_n 3, 1) := by decide +kernel
theorem dX4_lowestTerms_29 : decode cX4_lowestTerms 29 = .ok (.iload 6, 2) := by decide +kernel
theorem dX4_lowestTerms_31 : decode cX4_lowestTerms 31 = .ok (.istore 4, 2) := by decide +kernel
theorem dX4_lowestTerms_33 : decode cX4_lowestTerms 33 = .ok (.iinc 5 1, 3) := by decide +kernel
theorem dX4_lowestTerms_36 : decode cX4_lowestTerms 36 = .ok (.goto (-28), 3) := by decide +kernel
theorem dX4_lowestTerms_39 : decode cX4_lowestTerms 39 = .ok (.iload_n 3, 1) := by decide +kernel
theorem dX4_lowestTerms_40 : decode cX4_lowestTerms 40 = .ok (.ifCond .ne 5, 3) := by decide +kernel
theorem dX4_lowestTerms_43 : decode cX4_lowestTerms 43 = .ok (.iconst 0, 1) := by decide +kernel
theorem dX4_lowestTerms_44 : decode cX4_lowestTerms 44 = .ok (.ireturn, 1) := by decide +kernel
theorem dX4_lowestTerms_45 : decode cX4_lowestTerms 45 = .ok (.iload_n 2, 1) := by decide +kernel
theorem dX4_lowestTerms_46 : decode cX4_lowestTerms 46 = .ok (.ifCond .eq 7, 3) := by decide +kernel
theorem dX4_lowestTerms_49 : decode cX4_lowestTerms 49 = .ok (.iload_n 0, 1) := by decide +kernel
theorem dX4_lowestTerms_50 : decode cX4_lowestTerms 50 = .ok (.goto 4, 3) := by decide +kernel
theorem dX4_lowestTerms_53 : decode cX4_lowestTerms 53 = .ok (.iload_n 1, 1) := by decide +kernel
theorem dX4_lowestTerms_54 : decode cX4_lowestTerms 54 = .ok (.iload_n 3, 1) := by decide +kernel
theorem dX4_lowestTerms_55 : decode cX4_lowestTerms 55 = .ok (.idiv, 1) := by decide +kernel
theorem dX4_lowestTerms_56 : decode cX4_lowestTerms 56 = .ok (.ireturn, 1) := by decide +kernel
theorem dX5_init_0 : decode cX5_init 0 = .ok (.aload_n 0, 1) := by decide +kernel
theorem dX5_init_1 : decode cX5_init 1 = .ok (.invokespecial 1, 3) := by decide +kernel
theorem dX5_init_4 : decode cX5_init 4 = .ok (.aload_n 0, 1) := by decide +kernel
theorem dX5_init_5 : decode cX5_init 5 = .ok (.bipush 90, 2) := by decide +kernel
theorem dX5_init_7 : decode cX5_init 7 = .ok (.newarray .int, 2) := by decide +kernel
theorem dX5_init_9 : decode cX5_init 9 = .ok (.putfield 7, 3) := by decide +kernel
theorem dX5_init_12 : decode cX5_init 12 = .ok (.aload_n 0, 1) := by decide +kernel
theorem dX5_init_13 : decode cX5_init 13 = .ok (.iconst 2, 1) := by decide +kernel
theorem dX5_init_14 : decode cX5_init 14 = .ok (.putfield 13, 3) := by decide +kernel
theorem dX5_init_17 : decode cX5_init 17 = .ok (.aload_n 0, 1) := by decide +kernel
theorem dX5_init_18 : decode cX5_init 18 = .ok (.iconst 2, 1) := by decide +kernel
theorem dX5_init_19 : decode cX5_init 19 = .ok (.putfield 17, 3) := by decide +kernel
theorem dX5_init_22 : decode cX5_init 22 = .ok (.aload_n 0, 1) := by decide +kernel
theorem dX5_init_23 : decode cX5_init 23 = .ok (.bipush 51, 2) := by decide +kernel
theorem dX5_init_25 : decode cX5_init 25 = .ok (.newarray .int, 2) := by decide +kernel
theorem dX5_init_27 : decode cX5_init 27 = .ok (.putfield 20, 3) := by decide +kernel
theorem dX5_init_30 : decode cX5_init 30 = .ok (.aload_n 0, 1) := by decide +kernel
theorem dX5_init_31 : decode cX5_init 31 = .ok (.bipush 51, 2) := by decide +kernel
theorem dX5_init_33 : decode cX5_init 33 = .ok (.newarray .int, 2) := by decide +kernel
theorem dX5_init_35 : decode cX5_init 35 = .ok (.putfield 23, 3) := by decide +kernel
theorem dX5_init_38 : decode cX5_init 38 = .ok (.aload_n 0, 1) := by decide +kernel
theorem dX5_init_39 : decode cX5_init 39 = .ok (.sipush 714, 3) := by decide +kernel
theorem dX5_init_42 : decode cX5_init 42 = .ok (.newarray .int, 2) := by decide +kernel
theorem dX5_init_44 : decode cX5_init 44 = .ok (.putfield 26, 3) := by decide +kernel
theorem dX5_init_47 : decode cX5_init 47 = .ok (.aload_n 0, 1) := by decide +kernel
theorem dX5_init_48 : decode cX5_init 48 = .ok (.bipush 102, 2) := by decide +kernel
theorem dX5_init_50 : decode cX5_init 50 = .ok (.newarray .int, 2) := by decide +kernel
theorem dX5_init_52 : decode cX5_init 52 = .ok (.putfield 29, 3) := by decide +kernel
theorem dX5_init_55 : decode cX5_init 55 = .ok (.aload_n 0, 1) := by decide +kernel
theorem dX5_init_56 : decode cX5_init 56 = .ok (.iconst 2, 1) := by decide +kernel
theorem dX5_init_57 : decode cX5_init 57 = .ok (.newarray .boolean, 2) := by decide +kernel
theorem dX5_init_59 : decode cX5_init 59 = .ok (.putfield 32, 3) := by decide +kernel
theorem dX5_init_62 : decode cX5_init 62 = .ok (.aload_n 0, 1) := by decide +kernel
theorem dX5_init_63 : decode cX5_init 63 = .ok (.bipush 6, 2) := by decide +kernel
theorem dX5_init_65 : decode cX5_init 65 = .ok (.newarray .int, 2) := by decide +kernel
theorem dX5_init_67 : decode cX5_init 67 = .ok (.putfield 36, 3) := by decide +kernel
theorem dX5_init_70 : decode cX5_init 70 = .ok (.aload_n 0, 1) := by decide +kernel
theorem dX5_init_71 : decode cX5_init 71 = .ok (.bipush 6, 2) := by decide +kernel
theorem dX5_init_73 : decode cX5_init 73 = .ok (.newarray .int, 2) := by decide +kernel
theorem dX5_init_75 : decode cX5_init 75 = .ok (.putfield 39, 3) := by decide +kernel
theorem dX5_init_78 : decode cX5_init 78 = .ok (.aload_n 0, 1) := by decide +kernel
theorem dX5_init_79 : decode cX5_init 79 = .ok (.bipush 51, 2) := by decide +kernel
theorem dX5_init_81 : decode cX5_init 81 = .ok (.newarray .int, 2) := by decide +kernel
theorem dX5_init_83 : decode cX5_init 83 = .ok (.putfield 42, 3) := by decide +kernel
theorem dX5_init_86 : decode cX5_init 86 = .ok (.aload_n 0, 1) := by decide +kernel
theorem dX5_init_87 : decode cX5_init 87 = .ok (.iconst 4, 1) := by decide +kernel
theorem dX5_init_88 : decode cX5_init 88 = .ok (.newarray .boolean, 2) := by decide +kernel
theorem dX5_init_90 : decode cX5_init 90 = .ok (.putfield 45, 3) := by decide +kernel
theorem dX5_init_93 : decode cX5_init 93 = .ok (.aload_n 0, 1) := by decide +kernel
theorem dX5_init_94 : decode cX5_init 94 = .ok (.bipush 36, 2) := by decide +kernel
theorem dX5_init_96 : decode cX5_init 96 = .ok (.newarray .long, 2) := by decide +kernel
theorem dX5_init_98 : decode cX5_init 98 = .ok (.putfield 48, 3) := by decide +kernel
theorem dX5_init_101 : decode cX5_init 101 = .ok (.aload_n 0, 1) := by decide +kernel
theorem dX5_init_102 : decode cX5_init 102 = .ok (.bipush 36, 2) := by decide +kernel
theorem dX5_init_104 : decode cX5_init 104 = .ok (.newarray .int, 2) := by decide +kernel
theorem dX5_init_106 : decode cX5_init 106 = .ok (.putfield 52, 3) := by decide +kernel
theorem dX5_init_109 : decode cX5_init 109 = .ok (.aload_n 0, 1) := by decide +kernel
theorem dX5_init_110 : decode cX5_init 110 = .ok (.getfield 20, 3) := by decide +kernel
theorem dX5_init_113 : decode cX5_init 113 = .ok (.invokestatic 55, 3) := by decide +kernel
theorem dX5_init_116 : decode cX5_init 116 = .ok (.return_, 1) := by decide +kernel
theorem dX5_clear_0 : decode cX5_clear 0 = .ok (.iconst 0, 1) := by decide +kernel
theorem dX5_clear_1 : decode cX5_clear 1 = .ok (.istore_n 1, 1) := by decide +kernel
theorem dX5_clear_2 : decode cX5_clear 2 = .ok (.iload_n 1, 1) := by decide +kernel
theorem dX5_clear_3 : decode cX5_clear 3 = .ok (.bipush 51, 2) := by decide +kernel
theorem dX5_clear_5 : decode cX5_clear 5 = .ok (.if_icmp .ge 13, 3) := by decide +kernel
theorem dX5_clear_8 : decode cX5_clear 8 = .ok (.aload_n 0, 1) := by decide +kernel
theorem dX5_clear_9 : decode cX5_clear 9 = .ok (.iload_n 1, 1) := by decide +kernel
theorem dX5_clear_10 : decode cX5_clear 10 = .ok (.iconst 0, 1) := by decide +kernel
theorem dX5_clear_11 : decode cX5_clear 11 = .ok (.iastore, 1) := by decide +kernel
theorem dX5_clear_12 : decode cX5_clear 12 = .ok (.iinc 1 1, 3) := by decide +kernel
theorem dX5_clear_15 : decode cX5_clear 15 = .ok (.goto (-13), 3) := by decide +kernel
theorem dX5_clear_18 : decode cX5_clear 18 = .ok (.aload_n 0, 1) := by decide +kernel
theorem dX5_clear_19 : decode cX5_clear 19 = .ok (.bipush 47, 2) := by decide +kernel
theorem dX5_clear_21 : decode cX5_clear 21 = .ok (.iconst 1, 1) := by decide +kernel
theorem dX5_clear_22 : decode cX5_clear 22 = .ok (.iastore, 1) := by decide +kernel
theorem dX5_clear_23 : decode cX5_clear 23 = .ok (.aload_n 0, 1) := by decide +kernel
theorem dX5_clear_24 : decode cX5_clear 24 = .ok (.bipush 50, 2) := by decide +kernel
theorem dX5_clear_26 : decode cX5_clear 26 = .ok (.bipush 9, 2) := by decide +kernel
theorem dX5_clear_28 : decode cX5_clear 28 = .ok (.iastore, 1) := by decide +kernel
theorem dX5_clear_29 : decode cX5_clear 29 = .ok (.return_, 1) := by decide +kernel
theorem dX5_copy_0 : decode cX5_copy 0 = .ok (.iconst 0, 1) := by decide +kernel
theorem dX5_copy_1 : decode cX5_copy 1 = .ok (.istore_n 2, 1) := by decide +kernel
theorem dX5_copy_2 : decode cX5_copy 2 = .ok (.iload_n 2, 1) := by decide +kernel
theorem dX5_copy_3 : decode cX5_copy 3 = .ok (.bipush 51, 2) := by decide +kernel
theorem dX5_copy_5 : decode cX5_copy 5 = .ok (.if_icmp .ge 15, 3) := by decide +kernel
theorem dX5_copy_8 : decode cX5_copy 8 = .ok (.aload_n 1, 1) := by decide +kernel
theorem dX5_copy_9 : decode cX5_copy 9 = .ok (.iload_n 2, 1) := by decide +kernel
theorem dX5_copy_10 : decode cX5_copy 10 = .ok (.aload_n 0, 1) := by decide +kernel
theorem dX5_copy_11 : decode cX5_copy 11 = .ok (.iload_n 2, 1) := by decide +kernel
theorem dX5_copy_12 : decode cX5_copy 12 = .ok (.iaload, 1) := by decide +kernel
theorem dX5_copy_13 : decode cX5_copy 13 = .ok (.iastore, 1) := by decide +kernel
theorem dX5_copy_14 : decode cX5_copy 14 = .ok (.iinc 2 1, 3) := by decide +kernel
theorem dX5_copy_17 : decode cX5_copy 17 = .ok (.goto (-15), 3) := by decide +kernel
theorem dX5_copy_20 : decode cX5_copy 20 = .ok (.return_, 1) := by decide +kernel
theorem dX5_in_0 : decode cX5_in 0 = .ok (.lload_n 0, 1) := by decide +kernel
theorem dX5_in_1 : decode cX5_in 1 = .ok (.lload_n 2, 1) := by decide +kernel
theorem dX5_in_2 : decode cX5_in 2 = .ok (.lcmp, 1) := by decide +kernel
theorem dX5_in_3 : decode cX5_in 3 = .ok (.ifCond .lt 14, 3) := by decide +kernel
theorem dX5_in_6 : decode cX5_in 6 = .ok (.lload_n 0, 1) := by decide +kernel
theorem dX5_in_7 : decode cX5_in 7 = .ok (.lload 4, 2) := by decide +kernel
theorem dX5_in_9 : decode cX5_in 9 = .ok (.lcmp, 1) := by decide +kernel
theorem dX5_in_10 : decode cX5_in 10 = .ok (.ifCond .gt 7, 3) := by decide +kernel
theorem dX5_in_13 : decode cX5_in 13 = .ok (.iconst 1, 1) := by decide +kernel
theorem dX5_in_14 : decode cX5_in 14 = .ok (.goto 4, 3) := by decide +kernel
theorem dX5_in_17 : decode cX5_in 17 = .ok (.iconst 0, 1) := by decide +kernel
theorem dX5_in_18 : decode cX5_in 18 = .ok (.ireturn, 1) := by decide +kernel
theorem dX5_has_0 : decode cX5_has 0 = .ok (.lload_n 0, 1) := by decide +kernel
theorem dX5_has_1 : decode cX5_has 1 = .ok (.iload_n 2, 1) := by decide +kernel
theorem dX5_has_2 : decode cX5_has 2 = .ok (.lshr, 1) := by decide +kernel
theorem dX5_has_3 : decode cX5_has 3 = .ok (.lconst 1, 1) := by decide +kernel
theorem dX5_has_4 : decode cX5_has 4 = .ok (.land, 1) := by decide +kernel
theorem dX5_has_5 : decode cX5_has 5 = .ok (.lconst 1, 1) := by decide +kernel
theorem dX5_has_6 : decode cX5_has 6 = .ok (.lcmp, 1) := by decide +kernel
theorem dX5_has_7 : decode cX5_has 7 = .ok (.ifCond .ne 7, 3) := by decide +kernel
theorem dX5_has_10 : decode cX5_has 10 = .ok (.iconst 1, 1) := by decide +kernel
theorem dX5_has_11 : decode cX5_has 11 = .ok (.goto 4, 3) := by decide +kernel
theorem dX5_has_14 : decode cX5_has 14 = .ok (.iconst 0, 1) := by decide +kernel
theorem dX5_has_15 : decode cX5_has 15 = .ok (.ireturn, 1) := by decide +kernel
theorem dX5_ones_0 : decode cX5_ones 0 = .ok (.iconst 0, 1) := by decide +kernel
theorem dX5_ones_1 : decode cX5_ones 1 = .ok (.istore_n 2, 1) := by decide +kernel
theorem dX5_ones_2 : decode cX5_ones 2 = .ok (.iconst 0, 1) := by decide +kernel
theorem dX5_ones_3 : decode cX5_ones 3 = .ok (.istore_n 3, 1) := by decide +kernel
theorem dX5_ones_4 : decode cX5_ones 4 = .ok (.iload_n 3, 1) := by decide +kernel
theorem dX5_ones_5 : decode cX5_ones 5 = .ok (.bipush 36, 2) := by decide +kernel
theorem dX5_ones_7 : decode cX5_ones 7 = .ok (.if_icmp .ge 25, 3) := by decide +kernel
theorem dX5_ones_10 : decode cX5_ones 10 = .ok (.iload_n 2, 1) := by decide +kernel
theorem dX5_ones_11 : decode cX5_ones 11 = .ok (.lload_n 0, 1) := by decide +kernel
theorem dX5_ones_12 : decode cX5_ones 12 = .ok (.iload_n 3, 1) := by decide +kernel
theorem dX5_ones_13 : decode cX5_ones 13 = .ok (.invokestatic 59, 3) := by decide +kernel
theorem dX5_ones_16 : decode cX5_ones 16 = .ok (.ifCond .eq 7, 3) := by decide +kernel
theorem dX5_ones_19 : decode cX5_ones 19 = .ok (.iconst 1, 1) := by decide +kernel
theorem dX5_ones_20 : decode cX5_ones 20 = .ok (.goto 4, 3) := by decide +kernel
theorem dX5_ones_23 : decode cX5_ones 23 = .ok (.iconst 0, 1) := by decide +kernel
theorem dX5_ones_24 : decode cX5_ones 24 = .ok (.iadd, 1) := by decide +kernel
theorem dX5_ones_25 : decode cX5_ones 25 = .ok (.istore_n 2, 1) := by decide +kernel
theorem dX5_ones_26 : decode cX5_ones 26 = .ok (.iinc 3 1, 3) := by decide +kernel
theorem dX5_ones_29 : decode cX5_ones 29 = .ok (.goto (-25), 3) := by decide +kernel
theorem dX5_ones_32 : decode cX5_ones 32 = .ok (.iload_n 2, 1) := by decide +kernel
theorem dX5_ones_33 : decode cX5_ones 33 = .ok (.ireturn, 1) := by decide +kernel
theorem dX5_power_0 : decode cX5_power 0 = .ok (.iconst 1, 1) := by decide +kernel
theorem dX5_power_1 : decode cX5_power 1 = .ok (.istore_n 2, 1) := by decide +kernel
theorem dX5_power_2 : decode cX5_power 2 = .ok (.iconst 0, 1) := by decide +kernel
theorem dX5_power_3 : decode cX5_power 3 = .ok (.istore_n 3, 1) := by decide +kernel
theorem dX5_power_4 : decode cX5_power 4 = .ok (.iload_n 3, 1) := by decide +kernel
theorem dX5_power_5 : decode cX5_power 5 = .ok (.iload_n 1, 1) := by decide +kernel
theorem dX5_power_6 : decode cX5_power 6 = .ok (.if_icmp .ge 13, 3) := by decide +kernel
theorem dX5_power_9 : decode cX5_power 9 = .ok (.iload_n 2, 1) := by decide +kernel
theorem dX5_power_10 : decode cX5_power 10 = .ok (.iload_n 0, 1) := by decide +kernel
theorem dX5_power_11 : decode cX5_power 11 = .ok (.imul, 1) := by decide +kernel
theorem dX5_power_12 : decode cX5_power 12 = .ok (.istore_n 2, 1) := by decide +kernel
theorem dX5_power_13 : decode cX5_power 13 = .ok (.iinc 3 1, 3) := by decide +kernel
theorem dX5_power_16 : decode cX5_power 16 = .ok (.goto (-12), 3) := by decide +kernel
theorem dX5_power_19 : decode cX5_power 19 = .ok (.iload_n 2, 1) := by decide +kernel
theorem dX5_power_20 : decode cX5_power 20 = .ok (.ireturn, 1) := by decide +kernel
theorem dX5_factorial_0 : decode cX5_factorial 0 = .ok (.iconst 1, 1) := by decide +kernel
theorem dX5_factorial_1 : decode cX5_factorial 1 = .ok (.istore_n 1, 1) := by decide +kernel
theorem dX5_factorial_2 : decode cX5_factorial 2 = .ok (.iconst 2, 1) := by decide +kernel
theorem dX5_factorial_3 : decode cX5_factorial 3 = .ok (.istore_n 2, 1) := by decide +kernel
theorem dX5_factorial_4 : decode cX5_factorial 4 = .ok (.iload_n 2, 1) := by decide +kernel
theorem dX5_factorial_5 : decode cX5_factorial 5 = .ok (.iload_n 0, 1) := by decide +kernel
theorem dX5_factorial_6 : decode cX5_factorial 6 = .ok (.if_icmp .gt 13, 3) := by decide +kernel
theorem dX5_factorial_9 : decode cX5_factorial 9 = .ok (.iload_n 1, 1) := by decide +kernel
theorem dX5_factorial_10 : decode cX5_factorial 10 = .ok (.iload_n 2, 1) := by decide +kernel
theorem dX5_factorial_11 : decode cX5_factorial 11 = .ok (.imul, 1) := by decide +kernel
theorem dX5_factorial_12 : decode cX5_factorial 12 = .ok (.istore_n 1, 1) := by decide +kernel
theorem dX5_factorial_13 : decode cX5_factorial 13 = .ok (.iinc 2 1, 3) := by decide +kernel
theorem dX5_factorial_16 : decode cX5_factorial 16 = .ok (.goto (-12), 3) := by decide +kernel
theorem dX5_factorial_19 : decode cX5_factorial 19 = .ok (.iload_n 1, 1) := by decide +kernel
theorem dX5_factorial_20 : decode cX5_factorial 20 = .ok (.ireturn, 1) := by decide +kernel
theorem dX5_fraction_0 : decode cX5_fraction 0 = .ok (.iload_n 0, 1) := by decide +kernel
theorem dX5_fraction_1 : decode cX5_fraction 1 = .ok (.ifCond .ge 8, 3) := by decide +kernel
theorem dX5_fraction_4 : decode cX5_fraction 4 = .ok (.iload_n 0, 1) := by decide +kernel
theorem dX5_fraction_5 : decode cX5_fraction 5 = .ok (.ineg, 1) := by decide +kernel
theorem dX5_fraction_6 : decode cX5_fraction 6 = .ok (.goto 4, 3) := by decide +kernel
theorem dX5_fraction_9 : decode cX5_fraction 9 = .ok (.iload_n 0, 1) := by decide +kernel
theorem dX5_fraction_10 : decode cX5_fraction 10 = .ok (.istore_n 3, 1) := by decide +kernel
theorem dX5_fraction_11 : decode cX5_fraction 11 = .ok (.iload_n 1, 1) := by decide +kernel
theorem dX5_fraction_12 : decode cX5_fraction 12 = .ok (.istore 4, 2) := by decide +kernel
theorem dX5_fraction_14 : decode cX5_fraction 14 = .ok (.iload 4, 2) := by decide +kernel
theorem dX5_fraction_16 : decode cX5_fraction 16 = .ok (.ifCond .eq 19, 3) := by decide +kernel
theorem dX5_fraction_19 : decode cX5_fraction 19 = .ok (.iload_n 3, 1) := by decide +kernel
theorem dX5_fraction_20 : decode cX5_fraction 20 = .ok (.iload 4, 2) := by decide +kernel
theorem dX5_fraction_22 : decode cX5_fraction 22 = .ok (.irem, 1) := by decide +kernel
theorem dX5_fraction_23 : decode cX5_fraction 23 = .ok (.istore 5, 2) := by decide +kernel
theorem dX5_fraction_25 : decode cX5_fraction 25 = .ok (.iload 4, 2) := by decide +kernel
theorem dX5_fraction_27 : decode cX5_fraction 27 = .ok (.istore_n 3, 1) := by decide +kernel
theorem dX5_fraction_28 : decode cX5_fraction 28 = .ok (.iload 5, 2) := by decide +kernel
theorem dX5_fraction_30 : decode cX5_fraction 30 = .ok (.istore 4, 2) := by decide +kernel
theorem dX5_fraction_32 : decode cX5_fraction 32 = .ok (.goto (-18), 3) := by decide +kernel
theorem dX5_fraction_35 : decode cX5_fraction 35 = .ok (.iload_n 2, 1) := by decide +kernel
theorem dX5_fraction_36 : decode cX5_fraction 36 = .ok (.ifCond .eq 9, 3) := by decide +kernel
theorem dX5_fraction_39 : decode cX5_fraction 39 = .ok (.iload_n 0, 1) := by decide +kernel
theorem dX5_fraction_40 : decode cX5_fraction 40 = .ok (.iload_n 3, 1) := by decide +kernel
theorem dX5_fraction_41 : decode cX5_fraction 41 = .ok (.idiv, 1) := by decide +kernel
theorem dX5_fraction_42 : decode cX5_fraction 42 = .ok (.goto 6, 3) := by decide +kernel
theorem dX5_fraction_45 : decode cX5_fraction 45 = .ok (.iload_n 1, 1) := by decide +kernel
theorem dX5_fraction_46 : decode cX5_fraction 46 = .ok (.iload_n 3, 1) := by decide +kernel
theorem dX5_fraction_47 : decode cX5_fraction 47 = .ok (.idiv, 1) := by decide +kernel
theorem dX5_fraction_48 : decode cX5_fraction 48 = .ok (.ireturn, 1) := by decide +kernel
theorem dX5_cells_0 : decode cX5_cells 0 = .ok (.aload_n 0, 1) := by decide +kernel
theorem dX5_cells_1 : decode cX5_cells 1 = .ok (.getfield 13, 3) := by decide +kernel
theorem dX5_cells_4 : decode cX5_cells 4 = .ok (.aload_n 0, 1) := by decide +kernel
theorem dX5_cells_5 : decode cX5_cells 5 = .ok (.getfield 17, 3) := by decide +kernel
theorem dX5_cells_8 : decode cX5_cells 8 = .ok (.imul, 1) := by decide +kernel
theorem dX5_cells_9 : decode cX5_cells 9 = .ok (.ireturn, 1) := by decide +kernel
theorem dX5_isCell_0 : decode cX5_isCell 0 = .ok (.iload_n 1, 1) := by decide +kernel
theorem dX5_isCell_1 : decode cX5_isCell 1 = .ok (.i2l, 1) := by decide +kernel
theorem dX5_isCell_2 : decode cX5_isCell 2 = .ok (.lconst 0, 1) := by decide +kernel
theorem dX5_isCell_3 : decode cX5_isCell 3 = .ok (.aload_n 0, 1) := by decide +kernel
theorem dX5_isCell_4 : decode cX5_isCell 4 = .ok (.invokevirtual 63, 3) := by decide +kernel
theorem dX5_isCell_7 : decode cX5_isCell 7 = .ok (.iconst 1, 1) := by decide +kernel
theorem dX5_isCell_8 : decode cX5_isCell 8 = .ok (.isub, 1) := by decide +kernel
theorem dX5_isCell_9 : decode cX5_isCell 9 = .ok (.i2l, 1) := by decide +kernel
theorem dX5_isCell_10 : decode cX5_isCell 10 = .ok (.invokestatic 67, 3) := by decide +kernel
theorem dX5_isCell_13 : decode cX5_isCell 13 = .ok (.ireturn, 1) := by decide +kernel
theorem dX5_isTower_0 : decode cX5_isTower 0 = .ok (.iload_n 1, 1) := by decide +kernel
theorem dX5_isTower_1 : decode cX5_isTower 1 = .ok (.i2l, 1) := by decide +kernel
theorem dX5_isTower_2 : decode cX5_isTower 2 = .ok (.lconst 0, 1) := by decide +kernel
theorem dX5_isTower_3 : decode cX5_isTower 3 = .ok (.aload_n 0, 1) := by decide +kernel
theorem dX5_isTower_4 : decode cX5_isTower 4 = .ok (.getfield 20, 3) := by decide +kernel
theorem dX5_isTower_7 : decode cX5_isTower 7 = .ok (.bipush 36, 2) := by decide +kernel
theorem dX5_isTower_9 : decode cX5_isTower 9 = .ok (.iaload, 1) := by decide +kernel
theorem dX5_isTower_10 : decode cX5_isTower 10 = .ok (.iconst 1, 1) := by decide +kernel
theorem dX5_isTower_11 : decode cX5_isTower 11 = .ok (.isub, 1) := by decide +kernel
theorem dX5_isTower_12 : decode cX5_isTower 12 = .ok (.i2l, 1) := by decide +kernel
theorem dX5_isTower_13 : decode cX5_isTower 13 = .ok (.invokestatic 67, 3) := by decide +kernel
theorem dX5_isTower_16 : decode cX5_isTower 16 = .ok (.ireturn, 1) := by decide +kernel
theorem dX5_write_0 : decode cX5_write 0 = .ok (.iload_n 1, 1) := by decide +kernel
theorem dX5_write_1 : decode cX5_write 1 = .ok (.i2l, 1) := by decide +kernel
theorem dX5_write_2 : decode cX5_write 2 = .ok (.lconst 0, 1) := by decide +kernel
theorem dX5_write_3 : decode cX5_write 3 = .ok (.ldc2_w 71, 3) := by decide +kernel
theorem dX5_write_6 : decode cX5_write 6 = .ok (.invokestatic 67, 3) := by decide +kernel
theorem dX5_write_9 : decode cX5_write 9 = .ok (.ifCond .ne 6, 3) := by decide +kernel
theorem dX5_write_12 : decode cX5_write 12 = .ok (.bipush (-2), 2) := by decide +kernel
theorem dX5_write_14 : decode cX5_write 14 = .ok (.ireturn, 1) := by decide +kernel
theorem dX5_write_15 : decode cX5_write 15 = .ok (.aload_n 0, 1) := by decide +kernel
theorem dX5_write_16 : decode cX5_write 16 = .ok (.getfield 73, 3) := by decide +kernel
theorem dX5_write_19 : decode cX5_write 19 = .ok (.bipush 90, 2) := by decide +kernel
theorem dX5_write_21 : decode cX5_write 21 = .ok (.if_icmp .ne 6, 3) := by decide +kernel
theorem dX5_write_24 : decode cX5_write 24 = .ok (.bipush (-4), 2) := by decide +kernel
theorem dX5_write_26 : decode cX5_write 26 = .ok (.ireturn, 1) := by decide +kernel
theorem dX5_write_27 : decode cX5_write 27 = .ok (.aload_n 0, 1) := by decide +kernel
theorem dX5_write_28 : decode cX5_write 28 = .ok (.getfield 7, 3) := by decide +kernel
theorem dX5_write_31 : decode cX5_write 31 = .ok (.aload_n 0, 1) := by decide +kernel
theorem dX5_write_32 : decode cX5_write 32 = .ok (.getfield 73, 3) := by decide +kernel
theorem dX5_write_35 : decode cX5_write 35 = .ok (.iload_n 1, 1) := by decide +kernel
theorem dX5_write_36 : decode cX5_write 36 = .ok (.iastore, 1) := by decide +kernel
theorem dX5_write_37 : decode cX5_write 37 = .ok (.aload_n 0, 1) := by decide +kernel
theorem dX5_write_38 : decode cX5_write 38 = .ok (.dup, 1) := by decide +kernel
theorem dX5_write_39 : decode cX5_write 39 = .ok (.getfield 73, 3) := by decide +kernel
theorem dX5_write_42 : decode cX5_write 42 = .ok (.iconst 1, 1) := by decide +kernel
theorem dX5_write_43 : decode cX5_write 43 = .ok (.iadd, 1) := by decide +kernel
theorem dX5_write_44 : decode cX5_write 44 = .ok (.putfield 73, 3) := by decide +kernel
theorem dX5_write_47 : decode cX5_write 47 = .ok (.aload_n 0, 1) := by decide +kernel
theorem dX5_write_48 : decode cX5_write 48 = .ok (.getfield 73, 3) := by decide +kernel
theorem dX5_write_51 : decode cX5_write 51 = .ok (.ireturn, 1) := by decide +kernel
theorem dX5_wipe_0 : decode cX5_wipe 0 = .ok (.aload_n 0, 1) := by decide +kernel
theorem dX5_wipe_1 : decode cX5_wipe 1 = .ok (.getfield 73, 3) := by decide +kernel
theorem dX5_wipe_4 : decode cX5_wipe 4 = .ok (.istore_n 1, 1) := by decide +kernel
theorem dX5_wipe_5 : decode cX5_wipe 5 = .ok (.aload_n 0, 1) := by decide +kernel
theorem dX5_wipe_6 : decode cX5_wipe 6 = .ok (.iconst 0, 1) := by decide +kernel
theorem dX5_wipe_7 : decode cX5_wipe 7 = .ok (.putfield 73, 3) := by decide +kernel
theorem dX5_wipe_10 : decode cX5_wipe 10 = .ok (.iload_n 1, 1) := by decide +kernel
theorem dX5_wipe_11 : decode cX5_wipe 11 = .ok (.ireturn, 1) := by decide +kernel
theorem dX5_settingOf_0 : decode cX5_settingOf 0 = .ok (.iload_n 0, 1) := by decide +kernel
theorem dX5_settingOf_1 : decode cX5_settingOf 1 = .ok (.bipush 101, 2) := by decide +kernel
theorem dX5_settingOf_3 : decode cX5_settingOf 3 = .ok (.if_icmp .ne 7, 3) := by decide +kernel
theorem dX5_settingOf_6 : decode cX5_settingOf 6 = .ok (.iconst 0, 1) := by decide +kernel
theorem dX5_settingOf_7 : decode cX5_settingOf 7 = .ok (.goto 35, 3) := by decide +kernel
theorem dX5_settingOf_10 : decode cX5_settingOf 10 = .ok (.iload_n 0, 1) := by decide +kernel
theorem dX5_settingOf_11 : decode cX5_settingOf 11 = .ok (.bipush 109, 2) := by decide +kernel
theorem dX5_settingOf_13 : decode cX5_settingOf 13 = .ok (.if_icmp .ne 7, 3) := by decide +kernel
theorem dX5_settingOf_16 : decode cX5_settingOf 16 = .ok (.iconst 1, 1) := by decide +kernel
theorem dX5_settingOf_17 : decode cX5_settingOf 17 = .ok (.goto 25, 3) := by decide +kernel
theorem dX5_settingOf_20 : decode cX5_settingOf 20 = .ok (.iload_n 0, 1) := by decide +kernel
theorem dX5_settingOf_21 : decode cX5_settingOf 21 = .ok (.bipush 98, 2) := by decide +kernel
theorem dX5_settingOf_23 : decode cX5_settingOf 23 = .ok (.if_icmp .ne 7, 3) := by decide +kernel
theorem dX5_settingOf_26 : decode cX5_settingOf 26 = .ok (.iconst 2, 1) := by decide +kernel
theorem dX5_settingOf_27 : decode cX5_settingOf 27 = .ok (.goto 15, 3) := by decide +kernel
theorem dX5_settingOf_30 : decode cX5_settingOf 30 = .ok (.iload_n 0, 1) := by decide +kernel
theorem dX5_settingOf_31 : decode cX5_settingOf 31 = .ok (.bipush 115, 2) := by decide +kernel
theorem dX5_settingOf_33 : decode cX5_settingOf 33 = .ok (.if_icmp .ne 7, 3) := by decide +kernel
theorem dX5_settingOf_36 : decode cX5_settingOf 36 = .ok (.iconst 3, 1) := by decide +kernel
theorem dX5_settingOf_37 : decode cX5_settingOf 37 = .ok (.goto 5, 3) := by decide +kernel
theorem dX5_settingOf_40 : decode cX5_settingOf 40 = .ok (.bipush (-9), 2) := by decide +kernel
theorem dX5_settingOf_42 : decode cX5_settingOf 42 = .ok (.ireturn, 1) := by decide +kernel
theorem dX5_takeSign_0 : decode cX5_takeSign 0 = .ok (.aload_n 0, 1) := by decide +kernel
theorem dX5_takeSign_1 : decode cX5_takeSign 1 = .ok (.iload_n 1, 1) := by decide +kernel
theorem dX5_takeSign_2 : decode cX5_takeSign 2 = .ok (.putfield 76, 3) := by decide +kernel
theorem dX5_takeSign_5 : decode cX5_takeSign 5 = .ok (.aload_n 0, 1) := by decide +kernel
theorem dX5_takeSign_6 : decode cX5_takeSign 6 = .ok (.iconst 1, 1) := by decide +kernel
theorem dX5_takeSign_7 : decode cX5_takeSign 7 = .ok (.putfield 79, 3) := by decide +kernel
theorem dX5_takeSign_10 : decode cX5_takeSign 10 = .ok (.iload_n 1, 1) := by decide +kernel
theorem dX5_takeSign_11 : decode cX5_takeSign 11 = .ok (.bipush 116, 2) := by decide +kernel
theorem dX5_takeSign_13 : decode cX5_takeSign 13 = .ok (.if_icmp .ne 20, 3) := by decide +kernel
theorem dX5_takeSign_16 : decode cX5_takeSign 16 = .ok (.aload_n 0, 1) := by decide +kernel
theorem dX5_takeSign_17 : decode cX5_takeSign 17 = .ok (.getfield 42, 3) := by decide +kernel
theorem dX5_takeSign_20 : decode cX5_takeSign 20 = .ok (.bipush 36, 2) := by decide +kernel
theorem dX5_takeSign_22 : decode cX5_takeSign 22 = .ok (.iaload, 1) := by decide +kernel
theorem dX5_takeSign_23 : decode cX5_takeSign 23 = .ok (.iconst 5, 1) := by decide +kernel
theorem dX5_takeSign_24 : decode cX5_takeSign 24 = .ok (.if_icmp .ge 7, 3) := by decide +kernel
theorem dX5_takeSign_27 : decode cX5_takeSign 27 = .ok (.iconst 1, 1) := by decide +kernel
theorem dX5_takeSign_28 : decode cX5_takeSign 28 = .ok (.goto 4, 3) := by decide +kernel
theorem dX5_takeSign_31 : decode cX5_takeSign 31 = .ok (.iconst 0, 1) := by decide +kernel
theorem dX5_takeSign_32 : decode cX5_takeSign 32 = .ok (.ireturn, 1) := by decide +kernel
theorem dX5_takeSign_33 : decode cX5_takeSign 33 = .ok (.iload_n 1, 1) := by decide +kernel
theorem dX5_takeSign_34 : decode cX5_takeSign 34 = .ok (.invokestatic 82, 3) := by decide +kernel
theorem dX5_takeSign_37 : decode cX5_takeSign 37 = .ok (.istore_n 2, 1) := by decide +kernel
theorem dX5_takeSign_38 : decode cX5_takeSign 38 = .ok (.iload_n 2, 1) := by decide +kernel
theorem dX5_takeSign_39 : decode cX5_takeSign 39 = .ok (.bipush (-9), 2) := by decide +kernel
theorem dX5_takeSign_41 : decode cX5_takeSign 41 = .ok (.if_icmp .eq 16, 3) := by decide +kernel
theorem dX5_takeSign_44 : decode cX5_takeSign 44 = .ok (.aload_n 0, 1) := by decide +kernel
theorem dX5_takeSign_45 : decode cX5_takeSign 45 = .ok (.getfield 45, 3) := by decide +kernel
theorem dX5_takeSign_48 : decode cX5_takeSign 48 = .ok (.iload_n 2, 1) := by decide +kernel
theorem dX5_takeSign_49 : decode cX5_takeSign 49 = .ok (.baload, 1) := by decide +kernel
theorem dX5_takeSign_50 : decode cX5_takeSign 50 = .ok (.ifCond .ne 7, 3) := by decide +kernel
theorem dX5_takeSign_53 : decode cX5_takeSign 53 = .ok (.iconst 1, 1) := by decide +kernel
theorem dX5_takeSign_54 : decode cX5_takeSign 54 = .ok (.goto 4, 3) := by decide +kernel
theorem dX5_takeSign_57 : decode cX5_takeSign 57 = .ok (.iconst 0, 1) := by decide +kernel
theorem dX5_takeSign_58 : decode cX5_takeSign 58 = .ok (.ireturn, 1) := by decide +kernel
theorem dX5_takeInTower_0 : decode cX5_takeInTower 0 = .ok (.aload_n 0, 1) := by decide +kernel
theorem dX5_takeInTower_1 : decode cX5_takeInTower 1 = .ok (.getfield 42, 3) := by decide +kernel
theorem dX5_takeInTower_4 : decode cX5_takeInTower 4 = .ok (.bipush 36, 2) := by decide +kernel
theorem dX5_takeInTower_6 : decode cX5_takeInTower 6 = .ok (.iaload, 1) := by decide +kernel
theorem dX5_takeInTower_7 : decode cX5_takeInTower 7 = .ok (.istore_n 2, 1) := by decide +kernel
theorem dX5_takeInTower_8 : decode cX5_takeInTower 8 = .ok (.aload_n 0, 1) := by decide +kernel
theorem dX5_takeInTower_9 : decode cX5_takeInTower 9 = .ok (.getfield 86, 3) := by decide +kernel
theorem dX5_takeInTower_12 : decode cX5_takeInTower 12 = .ok (.aload_n 0, 1) := by decide +kernel
theorem dX5_takeInTower_13 : decode cX5_takeInTower 13 = .ok (.getfield 89, 3) := by decide +kernel
theorem dX5_takeInTower_16 : decode cX5_takeInTower 16 = .ok (.imul, 1) := by decide +kernel
theorem dX5_takeInTower_17 : decode cX5_takeInTower 17 = .ok (.iconst 1, 1) := by decide +kernel
theorem dX5_takeInTower_18 : decode cX5_takeInTower 18 = .ok (.isub, 1) := by decide +kernel
theorem dX5_takeInTower_19 : decode cX5_takeInTower 19 = .ok (.istore_n 3, 1) := by decide +kernel
theorem dX5_takeInTower_20 : decode cX5_takeInTower 20 = .ok (.aload_n 0, 1) := by decide +kernel
theorem dX5_takeInTower_21 : decode cX5_takeInTower 21 = .ok (.getfield 79, 3) := by decide +kernel
theorem dX5_takeInTower_24 : decode cX5_takeInTower 24 = .ok (.iconst 1, 1) := by decide +kernel
theorem dX5_takeInTower_25 : decode cX5_takeInTower 25 = .ok (.if_icmp .ne 45, 3) := by decide +kernel
theorem dX5_takeInTower_28 : decode cX5_takeInTower 28 = .ok (.aload_n 0, 1) := by decide +kernel
theorem dX5_takeInTower_29 : decode cX5_takeInTower 29 = .ok (.getfield 42, 3) := by decide +kernel
theorem dX5_takeInTower_32 : decode cX5_takeInTower 32 = .ok (.bipush 37, 2) := by decide +kernel
theorem dX5_takeInTower_34 : decode cX5_takeInTower 34 = .ok (.iload_n 2, 1) := by decide +kernel
theorem dX5_takeInTower_35 : decode cX5_takeInTower 35 = .ok (.iadd, 1) := by decide +kernel
theorem dX5_takeInTower_36 : decode cX5_takeInTower 36 = .ok (.bipush 10, 2) := by decide +kernel
theorem dX5_takeInTower_38 : decode cX5_takeInTower 38 = .ok (.iload_n 1, 1) := by decide +kernel
theorem dX5_takeInTower_39 : decode cX5_takeInTower 39 = .ok (.imul, 1) := by decide +kernel
theorem dX5_takeInTower_40 : decode cX5_takeInTower 40 = .ok (.iastore, 1) := by decide +kernel
theorem dX5_takeInTower_41 : decode cX5_takeInTower 41 = .ok (.aload_n 0, 1) := by decide +kernel
theorem dX5_takeInTower_42 : decode cX5_takeInTower 42 = .ok (.iconst 2, 1) := by decide +kernel
theorem dX5_takeInTower_43 : decode cX5_takeInTower 43 = .ok (.putfield 79, 3) := by decide +kernel
theorem dX5_takeInTower_46 : decode cX5_takeInTower 46 = .ok (.bipush 10, 2) := by decide +kernel
theorem dX5_takeInTower_48 : decode cX5_takeInTower 48 = .ok (.iload_n 1, 1) := by decide +kernel
theorem dX5_takeInTower_49 : decode cX5_takeInTower 49 = .ok (.imul, 1) := by decide +kernel
theorem dX5_takeInTower_50 : decode cX5_takeInTower 50 = .ok (.i2l, 1) := by decide +kernel
theorem dX5_takeInTower_51 : decode cX5_takeInTower 51 = .ok (.lconst 0, 1) := by decide +kernel
theorem dX5_takeInTower_52 : decode cX5_takeInTower 52 = .ok (.iload_n 3, 1) := by decide +kernel
theorem dX5_takeInTower_53 : decode cX5_takeInTower 53 = .ok (.i2l, 1) := by decide +kernel
theorem dX5_takeInTower_54 : decode cX5_takeInTower 54 = .ok (.invokestatic 67, 3) := by decide +kernel
theorem dX5_takeInTower_57 : decode cX5_takeInTower 57 = .ok (.ifCond .eq 11, 3) := by decide +kernel
theorem dX5_takeInTower_60 : decode cX5_takeInTower 60 = .ok (.iload_n 1, 1) := by decide +kernel
theorem dX5_takeInTower_61 : decode cX5_takeInTower 61 = .ok (.ifCond .lt 7, 3) := by decide +kernel
theorem dX5_takeInTower_64 : decode cX5_takeInTower 64 = .ok (.iconst 1, 1) := by decide +kernel
theorem dX5_takeInTower_65 : decode cX5_takeInTower 65 = .ok (.goto 4, 3) := by decide +kernel
theorem dX5_takeInTower_68 : decode cX5_takeInTower 68 = .ok (.iconst 0, 1) := by decide +kernel
theorem dX5_takeInTower_69 : decode cX5_takeInTower 69 = .ok (.ireturn, 1) := by decide +kernel
theorem dX5_takeInTower_70 : decode cX5_takeInTower 70 = .ok (.aload_n 0, 1) := by decide +kernel
theorem dX5_takeInTower_71 : decode cX5_takeInTower 71 = .ok (.getfield 79, 3) := by decide +kernel
theorem dX5_takeInTower_74 : decode cX5_takeInTower 74 = .ok (.iconst 2, 1) := by decide +kernel
theorem dX5_takeInTower_75 : decode cX5_takeInTower 75 = .ok (.if_icmp .ne 44, 3) := by decide +kernel
theorem dX5_takeInTower_78 : decode cX5_takeInTower 78 = .ok (.aload_n 0, 1) := by decide +kernel
theorem dX5_takeInTower_79 : decode cX5_takeInTower 79 = .ok (.getfield 42, 3) := by decide +kernel
theorem dX5_takeInTower_82 : decode cX5_takeInTower 82 = .ok (.bipush 37, 2) := by decide +kernel
theorem dX5_takeInTower_84 : decode cX5_takeInTower 84 = .ok (.iload_n 2, 1) := by decide +kernel
theorem dX5_takeInTower_85 : decode cX5_takeInTower 85 = .ok (.iadd, 1) := by decide +kernel
theorem dX5_takeInTower_86 : decode cX5_takeInTower 86 = .ok (.dup2, 1) := by decide +kernel
theorem dX5_takeInTower_87 : decode cX5_takeInTower 87 = .ok (.iaload, 1) := by decide +kernel
theorem dX5_takeInTower_88 : decode cX5_takeInTower 88 = .ok (.iload_n 1, 1) := by decide +kernel
theorem dX5_takeInTower_89 : decode cX5_takeInTower 89 = .ok (.iadd, 1) := by decide +kernel
theorem dX5_takeInTower_90 : decode cX5_takeInTower 90 = .ok (.iastore, 1) := by decide +kernel
theorem dX5_takeInTower_91 : decode cX5_takeInTower 91 = .ok (.aload_n 0, 1) := by decide +kernel
theorem dX5_takeInTower_92 : decode cX5_takeInTower 92 = .ok (.iconst 3, 1) := by decide +kernel
theorem dX5_takeInTower_93 : decode cX5_takeInTower 93 = .ok (.putfield 79, 3) := by decide +kernel
theorem dX5_takeInTower_96 : decode cX5_takeInTower 96 = .ok (.iload_n 1, 1) := by decide +kernel
theorem dX5_takeInTower_97 : decode cX5_takeInTower 97 = .ok (.ifCond .lt 20, 3) := by decide +kernel
theorem dX5_takeInTower_100 : decode cX5_takeInTower 100 = .ok (.aload_n 0, 1) := by decide +kernel
theorem dX5_takeInTower_101 : decode cX5_takeInTower 101 = .ok (.getfield 42, 3) := by decide +kernel
theorem dX5_takeInTower_104 : decode cX5_takeInTower 104 = .ok (.bipush 37, 2) := by decide +kernel
theorem dX5_takeInTower_106 : decode cX5_takeInTower 106 = .ok (.iload_n 2, 1) := by decide +kernel
theorem dX5_takeInTower_107 : decode cX5_takeInTower 107 = .ok (.iadd, 1) := by decide +kernel
theorem dX5_takeInTower_108 : decode cX5_takeInTower 108 = .ok (.iaload, 1) := by decide +kernel
theorem dX5_takeInTower_109 : decode cX5_takeInTower 109 = .ok (.iload_n 3, 1) := by decide +kernel
theorem dX5_takeInTower_110 : decode cX5_takeInTower 110 = .ok (.if_icmp .gt 7, 3) := by decide +kernel
theorem dX5_takeInTower_113 : decode cX5_takeInTower 113 = .ok (.iconst 1, 1) := by decide +kernel
theorem dX5_takeInTower_114 : decode cX5_takeInTower 114 = .ok (.goto 4, 3) := by decide +kernel
theorem dX5_takeInTower_117 : decode cX5_takeInTower 117 = .ok (.iconst 0, 1) := by decide +kernel
theorem dX5_takeInTower_118 : decode cX5_takeInTower 118 = .ok (.ireturn, 1) := by decide +kernel
theorem dX5_takeInTower_119 : decode cX5_takeInTower 119 = .ok (.aload_n 0, 1) := by decide +kernel
theorem dX5_takeInTower_120 : decode cX5_takeInTower 120 = .ok (.getfield 42, 3) := by decide +kernel
theorem dX5_takeInTower_123 : decode cX5_takeInTower 123 = .ok (.bipush 42, 2) := by decide +kernel
theorem dX5_takeInTower_125 : decode cX5_takeInTower 125 = .ok (.iload_n 2, 1) := by decide +kernel
theorem dX5_takeInTower_126 : decode cX5_takeInTower 126 = .ok (.iadd, 1) := by decide +kernel
theorem dX5_takeInTower_127 : decode cX5_takeInTower 127 = .ok (.iload_n 1, 1) := by decide +kernel
theorem dX5_takeInTower_128 : decode cX5_takeInTower 128 = .ok (.iastore, 1) := by decide +kernel
theorem dX5_takeInTower_129 : decode cX5_takeInTower 129 = .ok (.aload_n 0, 1) := by decide +kernel
theorem dX5_takeInTower_130 : decode cX5_takeInTower 130 = .ok (.getfield 42, 3) := by decide +kernel
theorem dX5_takeInTower_133 : decode cX5_takeInTower 133 = .ok (.bipush 36, 2) := by decide +kernel
theorem dX5_takeInTower_135 : decode cX5_takeInTower 135 = .ok (.dup2, 1) := by decide +kernel
theorem dX5_takeInTower_136 : decode cX5_takeInTower 136 = .ok (.iaload, 1) := by decide +kernel
theorem dX5_takeInTower_137 : decode cX5_takeInTower 137 = .ok (.iconst 1, 1) := by decide +kernel
theorem dX5_takeInTower_138 : decode cX5_takeInTower 138 = .ok (.iadd, 1) := by decide +kernel
theorem dX5_takeInTower_139 : decode cX5_takeInTower 139 = .ok (.iastore, 1) := by decide +kernel
theorem dX5_takeInTower_140 : decode cX5_takeInTower 140 = .ok (.aload_n 0, 1) := by decide +kernel
theorem dX5_takeInTower_141 : decode cX5_takeInTower 141 = .ok (.iconst 0, 1) := by decide +kernel
theorem dX5_takeInTower_142 : decode cX5_takeInTower 142 = .ok (.putfield 79, 3) := by decide +kernel
theorem dX5_takeInTower_145 : decode cX5_takeInTower 145 = .ok (.iload_n 1, 1) := by decide +kernel
theorem dX5_takeInTower_146 : decode cX5_takeInTower 146 = .ok (.ifCond .lt 7, 3) := by decide +kernel
theorem dX5_takeInTower_149 : decode cX5_takeInTower 149 = .ok (.iconst 1, 1) := by decide +kernel
theorem dX5_takeInTower_150 : decode cX5_takeInTower 150 = .ok (.goto 4, 3) := by decide +kernel
theorem dX5_takeInTower_153 : decode cX5_takeInTower 153 = .ok (.iconst 0, 1) := by decide +kernel
theorem dX5_takeInTower_154 : decode cX5_takeInTower 154 = .ok (.ireturn, 1) := by decide +kernel
theorem dX5_takeLetter_0 : decode cX5_takeLetter 0 = .ok (.iload_n 2, 1) := by decide +kernel
theorem dX5_takeLetter_1 : decode cX5_takeLetter 1 = .ok (.i2l, 1) := by decide +kernel
theorem dX5_takeLetter_2 : decode cX5_takeLetter 2 = .ok (.ldc2_w 92, 3) := by decide +kernel
theorem dX5_takeLetter_5 : decode cX5_takeLetter 5 = .ok (.ldc2_w 94, 3) := by decide +kernel
theorem dX5_takeLetter_8 : decode cX5_takeLetter 8 = .ok (.invokestatic 67, 3) := by decide +kernel
theorem dX5_takeLetter_11 : decode cX5_takeLetter 11 = .ok (.ifCond .eq 10, 3) := by decide +kernel
theorem dX5_takeLetter_14 : decode cX5_takeLetter 14 = .ok (.iload_n 2, 1) := by decide +kernel
theorem dX5_takeLetter_15 : decode cX5_takeLetter 15 = .ok (.bipush 48, 2) := by decide +kernel
theorem dX5_takeLetter_17 : decode cX5_takeLetter 17 = .ok (.isub, 1) := by decide +kernel
theorem dX5_takeLetter_18 : decode cX5_takeLetter 18 = .ok (.goto 5, 3) := by decide +kernel
theorem dX5_takeLetter_21 : decode cX5_takeLetter 21 = .ok (.bipush (-9), 2) := by decide +kernel
theorem dX5_takeLetter_23 : decode cX5_takeLetter 23 = .ok (.istore_n 3, 1) := by decide +kernel
theorem dX5_takeLetter_24 : decode cX5_takeLetter 24 = .ok (.iload_n 1, 1) := by decide +kernel
theorem dX5_takeLetter_25 : decode cX5_takeLetter 25 = .ok (.ifCond .ne 15, 3) := by decide +kernel
theorem dX5_takeLetter_28 : decode cX5_takeLetter 28 = .ok (.iload_n 2, 1) := by decide +kernel
theorem dX5_takeLetter_29 : decode cX5_takeLetter 29 = .ok (.bipush 71, 2) := by decide +kernel
theorem dX5_takeLetter_31 : decode cX5_takeLetter 31 = .ok (.if_icmp .ne 7, 3) := by decide +kernel
